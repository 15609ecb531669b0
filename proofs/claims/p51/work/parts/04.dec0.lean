theorem dX0_init_0 : decode cX0_init 0 = .ok (.aload_n 0, 1) := by decide +kernel
theorem dX0_init_1 : decode cX0_init 1 = .ok (.invokespecial 3, 3) := by decide +kernel
theorem dX0_init_4 : decode cX0_init 4 = .ok (.aload_n 0, 1) := by decide +kernel
theorem dX0_init_5 : decode cX0_init 5 = .ok (.aload_n 1, 1) := by decide +kernel
theorem dX0_init_6 : decode cX0_init 6 = .ok (.putfield 9, 3) := by decide +kernel
theorem dX0_init_9 : decode cX0_init 9 = .ok (.aload_n 0, 1) := by decide +kernel
theorem dX0_init_10 : decode cX0_init 10 = .ok (.aload_n 2, 1) := by decide +kernel
theorem dX0_init_11 : decode cX0_init 11 = .ok (.putfield 15, 3) := by decide +kernel
theorem dX0_init_14 : decode cX0_init 14 = .ok (.aload_n 0, 1) := by decide +kernel
theorem dX0_init_15 : decode cX0_init 15 = .ok (.aload_n 1, 1) := by decide +kernel
theorem dX0_init_16 : decode cX0_init 16 = .ok (.arraylength, 1) := by decide +kernel
theorem dX0_init_17 : decode cX0_init 17 = .ok (.aload_n 2, 1) := by decide +kernel
theorem dX0_init_18 : decode cX0_init 18 = .ok (.arraylength, 1) := by decide +kernel
theorem dX0_init_19 : decode cX0_init 19 = .ok (.iadd, 1) := by decide +kernel
theorem dX0_init_20 : decode cX0_init 20 = .ok (.newarray .int, 2) := by decide +kernel
theorem dX0_init_22 : decode cX0_init 22 = .ok (.putfield 18, 3) := by decide +kernel
theorem dX0_init_25 : decode cX0_init 25 = .ok (.aload_n 0, 1) := by decide +kernel
theorem dX0_init_26 : decode cX0_init 26 = .ok (.aload_n 1, 1) := by decide +kernel
theorem dX0_init_27 : decode cX0_init 27 = .ok (.arraylength, 1) := by decide +kernel
theorem dX0_init_28 : decode cX0_init 28 = .ok (.aload_n 2, 1) := by decide +kernel
theorem dX0_init_29 : decode cX0_init 29 = .ok (.arraylength, 1) := by decide +kernel
theorem dX0_init_30 : decode cX0_init 30 = .ok (.iadd, 1) := by decide +kernel
theorem dX0_init_31 : decode cX0_init 31 = .ok (.newarray .int, 2) := by decide +kernel
theorem dX0_init_33 : decode cX0_init 33 = .ok (.putfield 22, 3) := by decide +kernel
theorem dX0_init_36 : decode cX0_init 36 = .ok (.return_, 1) := by decide +kernel
theorem dX0_with_0 : decode cX0_with 0 = .ok (.aload_n 1, 1) := by decide +kernel
theorem dX0_with_1 : decode cX0_with 1 = .ok (.getfield 25, 3) := by decide +kernel
theorem dX0_with_4 : decode cX0_with 4 = .ok (.ifCond .le 7, 3) := by decide +kernel
theorem dX0_with_7 : decode cX0_with 7 = .ok (.iconst 1, 1) := by decide +kernel
theorem dX0_with_8 : decode cX0_with 8 = .ok (.goto 4, 3) := by decide +kernel
theorem dX0_with_11 : decode cX0_with 11 = .ok (.iconst 0, 1) := by decide +kernel
theorem dX0_with_12 : decode cX0_with 12 = .ok (.istore_n 2, 1) := by decide +kernel
theorem dX0_with_13 : decode cX0_with 13 = .ok (.new 10, 3) := by decide +kernel
theorem dX0_with_16 : decode cX0_with 16 = .ok (.dup, 1) := by decide +kernel
theorem dX0_with_17 : decode cX0_with 17 = .ok (.iload_n 2, 1) := by decide +kernel
theorem dX0_with_18 : decode cX0_with 18 = .ok (.ifCond .eq 16, 3) := by decide +kernel
theorem dX0_with_21 : decode cX0_with 21 = .ok (.aload_n 0, 1) := by decide +kernel
theorem dX0_with_22 : decode cX0_with 22 = .ok (.getfield 9, 3) := by decide +kernel
theorem dX0_with_25 : decode cX0_with 25 = .ok (.invokevirtual 31, 3) := by decide +kernel
theorem dX0_with_28 : decode cX0_with 28 = .ok (.checkcast 32, 3) := by decide +kernel
theorem dX0_with_31 : decode cX0_with 31 = .ok (.goto 11, 3) := by decide +kernel
theorem dX0_with_34 : decode cX0_with 34 = .ok (.aload_n 0, 1) := by decide +kernel
theorem dX0_with_35 : decode cX0_with 35 = .ok (.getfield 9, 3) := by decide +kernel
theorem dX0_with_38 : decode cX0_with 38 = .ok (.aload_n 1, 1) := by decide +kernel
theorem dX0_with_39 : decode cX0_with 39 = .ok (.invokestatic 36, 3) := by decide +kernel
theorem dX0_with_42 : decode cX0_with 42 = .ok (.iload_n 2, 1) := by decide +kernel
theorem dX0_with_43 : decode cX0_with 43 = .ok (.ifCond .eq 14, 3) := by decide +kernel
theorem dX0_with_46 : decode cX0_with 46 = .ok (.aload_n 0, 1) := by decide +kernel
theorem dX0_with_47 : decode cX0_with 47 = .ok (.getfield 15, 3) := by decide +kernel
theorem dX0_with_50 : decode cX0_with 50 = .ok (.aload_n 1, 1) := by decide +kernel
theorem dX0_with_51 : decode cX0_with 51 = .ok (.invokestatic 36, 3) := by decide +kernel
theorem dX0_with_54 : decode cX0_with 54 = .ok (.goto 7, 3) := by decide +kernel
theorem dX0_with_57 : decode cX0_with 57 = .ok (.aload_n 0, 1) := by decide +kernel
theorem dX0_with_58 : decode cX0_with 58 = .ok (.getfield 15, 3) := by decide +kernel
theorem dX0_with_61 : decode cX0_with 61 = .ok (.invokespecial 40, 3) := by decide +kernel
theorem dX0_with_64 : decode cX0_with 64 = .ok (.astore_n 3, 1) := by decide +kernel
theorem dX0_with_65 : decode cX0_with 65 = .ok (.aload_n 3, 1) := by decide +kernel
theorem dX0_with_66 : decode cX0_with 66 = .ok (.invokevirtual 43, 3) := by decide +kernel
theorem dX0_with_69 : decode cX0_with 69 = .ok (.aload_n 3, 1) := by decide +kernel
theorem dX0_with_70 : decode cX0_with 70 = .ok (.areturn, 1) := by decide +kernel
theorem dX0_placed_0 : decode cX0_placed 0 = .ok (.iconst 0, 1) := by decide +kernel
theorem dX0_placed_1 : decode cX0_placed 1 = .ok (.istore_n 2, 1) := by decide +kernel
theorem dX0_placed_2 : decode cX0_placed 2 = .ok (.iload_n 2, 1) := by decide +kernel
theorem dX0_placed_3 : decode cX0_placed 3 = .ok (.aload_n 0, 1) := by decide +kernel
theorem dX0_placed_4 : decode cX0_placed 4 = .ok (.arraylength, 1) := by decide +kernel
theorem dX0_placed_5 : decode cX0_placed 5 = .ok (.if_icmp .ge 22, 3) := by decide +kernel
theorem dX0_placed_8 : decode cX0_placed 8 = .ok (.aload_n 0, 1) := by decide +kernel
theorem dX0_placed_9 : decode cX0_placed 9 = .ok (.iload_n 2, 1) := by decide +kernel
theorem dX0_placed_10 : decode cX0_placed 10 = .ok (.aaload, 1) := by decide +kernel
theorem dX0_placed_11 : decode cX0_placed 11 = .ok (.invokevirtual 50, 3) := by decide +kernel
theorem dX0_placed_14 : decode cX0_placed 14 = .ok (.aload_n 1, 1) := by decide +kernel
theorem dX0_placed_15 : decode cX0_placed 15 = .ok (.invokevirtual 50, 3) := by decide +kernel
theorem dX0_placed_18 : decode cX0_placed 18 = .ok (.if_icmp .ge 9, 3) := by decide +kernel
theorem dX0_placed_21 : decode cX0_placed 21 = .ok (.iinc 2 1, 3) := by decide +kernel
theorem dX0_placed_24 : decode cX0_placed 24 = .ok (.goto (-22), 3) := by decide +kernel
theorem dX0_placed_27 : decode cX0_placed 27 = .ok (.iload_n 2, 1) := by decide +kernel
theorem dX0_placed_28 : decode cX0_placed 28 = .ok (.aload_n 0, 1) := by decide +kernel
theorem dX0_placed_29 : decode cX0_placed 29 = .ok (.arraylength, 1) := by decide +kernel
theorem dX0_placed_30 : decode cX0_placed 30 = .ok (.if_icmp .ge 16, 3) := by decide +kernel
theorem dX0_placed_33 : decode cX0_placed 33 = .ok (.aload_n 0, 1) := by decide +kernel
theorem dX0_placed_34 : decode cX0_placed 34 = .ok (.iload_n 2, 1) := by decide +kernel
theorem dX0_placed_35 : decode cX0_placed 35 = .ok (.aaload, 1) := by decide +kernel
theorem dX0_placed_36 : decode cX0_placed 36 = .ok (.getfield 54, 3) := by decide +kernel
theorem dX0_placed_39 : decode cX0_placed 39 = .ok (.aload_n 1, 1) := by decide +kernel
theorem dX0_placed_40 : decode cX0_placed 40 = .ok (.getfield 54, 3) := by decide +kernel
theorem dX0_placed_43 : decode cX0_placed 43 = .ok (.if_icmp .eq 7, 3) := by decide +kernel
theorem dX0_placed_46 : decode cX0_placed 46 = .ok (.iconst 1, 1) := by decide +kernel
theorem dX0_placed_47 : decode cX0_placed 47 = .ok (.goto 4, 3) := by decide +kernel
theorem dX0_placed_50 : decode cX0_placed 50 = .ok (.iconst 0, 1) := by decide +kernel
theorem dX0_placed_51 : decode cX0_placed 51 = .ok (.istore_n 3, 1) := by decide +kernel
theorem dX0_placed_52 : decode cX0_placed 52 = .ok (.iload_n 3, 1) := by decide +kernel
theorem dX0_placed_53 : decode cX0_placed 53 = .ok (.ifCond .eq 10, 3) := by decide +kernel
theorem dX0_placed_56 : decode cX0_placed 56 = .ok (.aload_n 0, 1) := by decide +kernel
theorem dX0_placed_57 : decode cX0_placed 57 = .ok (.arraylength, 1) := by decide +kernel
theorem dX0_placed_58 : decode cX0_placed 58 = .ok (.iconst 1, 1) := by decide +kernel
theorem dX0_placed_59 : decode cX0_placed 59 = .ok (.iadd, 1) := by decide +kernel
theorem dX0_placed_60 : decode cX0_placed 60 = .ok (.goto 5, 3) := by decide +kernel
theorem dX0_placed_63 : decode cX0_placed 63 = .ok (.aload_n 0, 1) := by decide +kernel
theorem dX0_placed_64 : decode cX0_placed 64 = .ok (.arraylength, 1) := by decide +kernel
theorem dX0_placed_65 : decode cX0_placed 65 = .ok (.anewarray 26, 3) := by decide +kernel
theorem dX0_placed_68 : decode cX0_placed 68 = .ok (.astore 4, 2) := by decide +kernel
theorem dX0_placed_70 : decode cX0_placed 70 = .ok (.iconst 0, 1) := by decide +kernel
theorem dX0_placed_71 : decode cX0_placed 71 = .ok (.istore 5, 2) := by decide +kernel
theorem dX0_placed_73 : decode cX0_placed 73 = .ok (.iload 5, 2) := by decide +kernel
theorem dX0_placed_75 : decode cX0_placed 75 = .ok (.aload 4, 2) := by decide +kernel
theorem dX0_placed_77 : decode cX0_placed 77 = .ok (.arraylength, 1) := by decide +kernel
theorem dX0_placed_78 : decode cX0_placed 78 = .ok (.if_icmp .ge 56, 3) := by decide +kernel
theorem dX0_placed_81 : decode cX0_placed 81 = .ok (.iload_n 3, 1) := by decide +kernel
theorem dX0_placed_82 : decode cX0_placed 82 = .ok (.ifCond .eq 16, 3) := by decide +kernel
theorem dX0_placed_85 : decode cX0_placed 85 = .ok (.iload 5, 2) := by decide +kernel
theorem dX0_placed_87 : decode cX0_placed 87 = .ok (.iload_n 2, 1) := by decide +kernel
theorem dX0_placed_88 : decode cX0_placed 88 = .ok (.if_icmp .le 10, 3) := by decide +kernel
theorem dX0_placed_91 : decode cX0_placed 91 = .ok (.iload 5, 2) := by decide +kernel
theorem dX0_placed_93 : decode cX0_placed 93 = .ok (.iconst 1, 1) := by decide +kernel
theorem dX0_placed_94 : decode cX0_placed 94 = .ok (.isub, 1) := by decide +kernel
theorem dX0_placed_95 : decode cX0_placed 95 = .ok (.goto 5, 3) := by decide +kernel
theorem dX0_placed_98 : decode cX0_placed 98 = .ok (.iload 5, 2) := by decide +kernel
theorem dX0_placed_100 : decode cX0_placed 100 = .ok (.istore 6, 2) := by decide +kernel
theorem dX0_placed_102 : decode cX0_placed 102 = .ok (.aload 4, 2) := by decide +kernel
theorem dX0_placed_104 : decode cX0_placed 104 = .ok (.iload 5, 2) := by decide +kernel
theorem dX0_placed_106 : decode cX0_placed 106 = .ok (.iload 5, 2) := by decide +kernel
theorem dX0_placed_108 : decode cX0_placed 108 = .ok (.iload_n 2, 1) := by decide +kernel
theorem dX0_placed_109 : decode cX0_placed 109 = .ok (.if_icmp .eq 10, 3) := by decide +kernel
theorem dX0_placed_112 : decode cX0_placed 112 = .ok (.iload 6, 2) := by decide +kernel
theorem dX0_placed_114 : decode cX0_placed 114 = .ok (.aload_n 0, 1) := by decide +kernel
theorem dX0_placed_115 : decode cX0_placed 115 = .ok (.arraylength, 1) := by decide +kernel
theorem dX0_placed_116 : decode cX0_placed 116 = .ok (.if_icmp .lt 7, 3) := by decide +kernel
theorem dX0_placed_119 : decode cX0_placed 119 = .ok (.aload_n 1, 1) := by decide +kernel
theorem dX0_placed_120 : decode cX0_placed 120 = .ok (.goto 7, 3) := by decide +kernel
theorem dX0_placed_123 : decode cX0_placed 123 = .ok (.aload_n 0, 1) := by decide +kernel
theorem dX0_placed_124 : decode cX0_placed 124 = .ok (.iload 6, 2) := by decide +kernel
theorem dX0_placed_126 : decode cX0_placed 126 = .ok (.aaload, 1) := by decide +kernel
theorem dX0_placed_127 : decode cX0_placed 127 = .ok (.aastore, 1) := by decide +kernel
theorem dX0_placed_128 : decode cX0_placed 128 = .ok (.iinc 5 1, 3) := by decide +kernel
theorem dX0_placed_131 : decode cX0_placed 131 = .ok (.goto (-58), 3) := by decide +kernel
theorem dX0_placed_134 : decode cX0_placed 134 = .ok (.aload 4, 2) := by decide +kernel
theorem dX0_placed_136 : decode cX0_placed 136 = .ok (.areturn, 1) := by decide +kernel
theorem dX0_weave_0 : decode cX0_weave 0 = .ok (.iconst 0, 1) := by decide +kernel
theorem dX0_weave_1 : decode cX0_weave 1 = .ok (.istore_n 1, 1) := by decide +kernel
theorem dX0_weave_2 : decode cX0_weave 2 = .ok (.iload_n 1, 1) := by decide +kernel
theorem dX0_weave_3 : decode cX0_weave 3 = .ok (.aload_n 0, 1) := by decide +kernel
theorem dX0_weave_4 : decode cX0_weave 4 = .ok (.getfield 18, 3) := by decide +kernel
theorem dX0_weave_7 : decode cX0_weave 7 = .ok (.arraylength, 1) := by decide +kernel
theorem dX0_weave_8 : decode cX0_weave 8 = .ok (.if_icmp .ge 49, 3) := by decide +kernel
theorem dX0_weave_11 : decode cX0_weave 11 = .ok (.aload_n 0, 1) := by decide +kernel
theorem dX0_weave_12 : decode cX0_weave 12 = .ok (.iload_n 1, 1) := by decide +kernel
theorem dX0_weave_13 : decode cX0_weave 13 = .ok (.invokevirtual 57, 3) := by decide +kernel
theorem dX0_weave_16 : decode cX0_weave 16 = .ok (.astore_n 2, 1) := by decide +kernel
theorem dX0_weave_17 : decode cX0_weave 17 = .ok (.aload_n 0, 1) := by decide +kernel
theorem dX0_weave_18 : decode cX0_weave 18 = .ok (.getfield 18, 3) := by decide +kernel
theorem dX0_weave_21 : decode cX0_weave 21 = .ok (.iload_n 1, 1) := by decide +kernel
theorem dX0_weave_22 : decode cX0_weave 22 = .ok (.aload_n 2, 1) := by decide +kernel
theorem dX0_weave_23 : decode cX0_weave 23 = .ok (.ifnonnull 7, 3) := by decide +kernel
theorem dX0_weave_26 : decode cX0_weave 26 = .ok (.iconst 0, 1) := by decide +kernel
theorem dX0_weave_27 : decode cX0_weave 27 = .ok (.goto 11, 3) := by decide +kernel
theorem dX0_weave_30 : decode cX0_weave 30 = .ok (.aload_n 0, 1) := by decide +kernel
theorem dX0_weave_31 : decode cX0_weave 31 = .ok (.aload_n 2, 1) := by decide +kernel
theorem dX0_weave_32 : decode cX0_weave 32 = .ok (.getfield 61, 3) := by decide +kernel
theorem dX0_weave_35 : decode cX0_weave 35 = .ok (.invokevirtual 65, 3) := by decide +kernel
theorem dX0_weave_38 : decode cX0_weave 38 = .ok (.iastore, 1) := by decide +kernel
theorem dX0_weave_39 : decode cX0_weave 39 = .ok (.aload_n 0, 1) := by decide +kernel
theorem dX0_weave_40 : decode cX0_weave 40 = .ok (.getfield 22, 3) := by decide +kernel
theorem dX0_weave_43 : decode cX0_weave 43 = .ok (.iload_n 1, 1) := by decide +kernel
theorem dX0_weave_44 : decode cX0_weave 44 = .ok (.aload_n 0, 1) := by decide +kernel
theorem dX0_weave_45 : decode cX0_weave 45 = .ok (.getfield 18, 3) := by decide +kernel
theorem dX0_weave_48 : decode cX0_weave 48 = .ok (.iload_n 1, 1) := by decide +kernel
theorem dX0_weave_49 : decode cX0_weave 49 = .ok (.iaload, 1) := by decide +kernel
theorem dX0_weave_50 : decode cX0_weave 50 = .ok (.iastore, 1) := by decide +kernel
theorem dX0_weave_51 : decode cX0_weave 51 = .ok (.iinc 1 1, 3) := by decide +kernel
theorem dX0_weave_54 : decode cX0_weave 54 = .ok (.goto (-52), 3) := by decide +kernel
theorem dX0_weave_57 : decode cX0_weave 57 = .ok (.iconst 0, 1) := by decide +kernel
theorem dX0_weave_58 : decode cX0_weave 58 = .ok (.istore_n 1, 1) := by decide +kernel
theorem dX0_weave_59 : decode cX0_weave 59 = .ok (.iload_n 1, 1) := by decide +kernel
theorem dX0_weave_60 : decode cX0_weave 60 = .ok (.aload_n 0, 1) := by decide +kernel
theorem dX0_weave_61 : decode cX0_weave 61 = .ok (.getfield 22, 3) := by decide +kernel
theorem dX0_weave_64 : decode cX0_weave 64 = .ok (.arraylength, 1) := by decide +kernel
theorem dX0_weave_65 : decode cX0_weave 65 = .ok (.if_icmp .ge 54, 3) := by decide +kernel
theorem dX0_weave_68 : decode cX0_weave 68 = .ok (.iconst 0, 1) := by decide +kernel
theorem dX0_weave_69 : decode cX0_weave 69 = .ok (.istore_n 2, 1) := by decide +kernel
theorem dX0_weave_70 : decode cX0_weave 70 = .ok (.iload_n 2, 1) := by decide +kernel
theorem dX0_weave_71 : decode cX0_weave 71 = .ok (.aload_n 0, 1) := by decide +kernel
theorem dX0_weave_72 : decode cX0_weave 72 = .ok (.getfield 22, 3) := by decide +kernel
theorem dX0_weave_75 : decode cX0_weave 75 = .ok (.arraylength, 1) := by decide +kernel
theorem dX0_weave_76 : decode cX0_weave 76 = .ok (.if_icmp .ge 37, 3) := by decide +kernel
theorem dX0_weave_79 : decode cX0_weave 79 = .ok (.aload_n 0, 1) := by decide +kernel
theorem dX0_weave_80 : decode cX0_weave 80 = .ok (.getfield 22, 3) := by decide +kernel
theorem dX0_weave_83 : decode cX0_weave 83 = .ok (.iload_n 2, 1) := by decide +kernel
theorem dX0_weave_84 : decode cX0_weave 84 = .ok (.iaload, 1) := by decide +kernel
theorem dX0_weave_85 : decode cX0_weave 85 = .ok (.iload_n 1, 1) := by decide +kernel
theorem dX0_weave_86 : decode cX0_weave 86 = .ok (.iushr, 1) := by decide +kernel
theorem dX0_weave_87 : decode cX0_weave 87 = .ok (.iconst 1, 1) := by decide +kernel
theorem dX0_weave_88 : decode cX0_weave 88 = .ok (.iand, 1) := by decide +kernel
theorem dX0_weave_89 : decode cX0_weave 89 = .ok (.ifCond .eq 18, 3) := by decide +kernel
theorem dX0_weave_92 : decode cX0_weave 92 = .ok (.aload_n 0, 1) := by decide +kernel
theorem dX0_weave_93 : decode cX0_weave 93 = .ok (.getfield 22, 3) := by decide +kernel
theorem dX0_weave_96 : decode cX0_weave 96 = .ok (.iload_n 2, 1) := by decide +kernel
theorem dX0_weave_97 : decode cX0_weave 97 = .ok (.dup2, 1) := by decide +kernel
theorem dX0_weave_98 : decode cX0_weave 98 = .ok (.iaload, 1) := by decide +kernel
theorem dX0_weave_99 : decode cX0_weave 99 = .ok (.aload_n 0, 1) := by decide +kernel
theorem dX0_weave_100 : decode cX0_weave 100 = .ok (.getfield 22, 3) := by decide +kernel
theorem dX0_weave_103 : decode cX0_weave 103 = .ok (.iload_n 1, 1) := by decide +kernel
theorem dX0_weave_104 : decode cX0_weave 104 = .ok (.iaload, 1) := by decide +kernel
theorem dX0_weave_105 : decode cX0_weave 105 = .ok (.ior, 1) := by decide +kernel
theorem dX0_weave_106 : decode cX0_weave 106 = .ok (.iastore, 1) := by decide +kernel
theorem dX0_weave_107 : decode cX0_weave 107 = .ok (.iinc 2 1, 3) := by decide +kernel
theorem dX0_weave_110 : decode cX0_weave 110 = .ok (.goto (-40), 3) := by decide +kernel
theorem dX0_weave_113 : decode cX0_weave 113 = .ok (.iinc 1 1, 3) := by decide +kernel
theorem dX0_weave_116 : decode cX0_weave 116 = .ok (.goto (-57), 3) := by decide +kernel
theorem dX0_weave_119 : decode cX0_weave 119 = .ok (.return_, 1) := by decide +kernel
theorem dX0_find_0 : decode cX0_find 0 = .ok (.iload_n 2, 1) := by decide +kernel
theorem dX0_find_1 : decode cX0_find 1 = .ok (.ifCond .eq 10, 3) := by decide +kernel
theorem dX0_find_4 : decode cX0_find 4 = .ok (.aload_n 0, 1) := by decide +kernel
theorem dX0_find_5 : decode cX0_find 5 = .ok (.getfield 15, 3) := by decide +kernel
theorem dX0_find_8 : decode cX0_find 8 = .ok (.goto 7, 3) := by decide +kernel
theorem dX0_find_11 : decode cX0_find 11 = .ok (.aload_n 0, 1) := by decide +kernel
theorem dX0_find_12 : decode cX0_find 12 = .ok (.getfield 9, 3) := by decide +kernel
theorem dX0_find_15 : decode cX0_find 15 = .ok (.astore_n 3, 1) := by decide +kernel
theorem dX0_find_16 : decode cX0_find 16 = .ok (.iconst 0, 1) := by decide +kernel
theorem dX0_find_17 : decode cX0_find 17 = .ok (.istore 4, 2) := by decide +kernel
theorem dX0_find_19 : decode cX0_find 19 = .ok (.iload 4, 2) := by decide +kernel
theorem dX0_find_21 : decode cX0_find 21 = .ok (.aload_n 3, 1) := by decide +kernel
theorem dX0_find_22 : decode cX0_find 22 = .ok (.arraylength, 1) := by decide +kernel
theorem dX0_find_23 : decode cX0_find 23 = .ok (.if_icmp .ge 38, 3) := by decide +kernel
theorem dX0_find_26 : decode cX0_find 26 = .ok (.aload_n 3, 1) := by decide +kernel
theorem dX0_find_27 : decode cX0_find 27 = .ok (.iload 4, 2) := by decide +kernel
theorem dX0_find_29 : decode cX0_find 29 = .ok (.aaload, 1) := by decide +kernel
theorem dX0_find_30 : decode cX0_find 30 = .ok (.getfield 54, 3) := by decide +kernel
theorem dX0_find_33 : decode cX0_find 33 = .ok (.iload_n 1, 1) := by decide +kernel
theorem dX0_find_34 : decode cX0_find 34 = .ok (.if_icmp .ne 21, 3) := by decide +kernel
theorem dX0_find_37 : decode cX0_find 37 = .ok (.iload_n 2, 1) := by decide +kernel
theorem dX0_find_38 : decode cX0_find 38 = .ok (.ifCond .eq 14, 3) := by decide +kernel
theorem dX0_find_41 : decode cX0_find 41 = .ok (.aload_n 0, 1) := by decide +kernel
theorem dX0_find_42 : decode cX0_find 42 = .ok (.getfield 9, 3) := by decide +kernel
theorem dX0_find_45 : decode cX0_find 45 = .ok (.arraylength, 1) := by decide +kernel
theorem dX0_find_46 : decode cX0_find 46 = .ok (.iload 4, 2) := by decide +kernel
theorem dX0_find_48 : decode cX0_find 48 = .ok (.iadd, 1) := by decide +kernel
theorem dX0_find_49 : decode cX0_find 49 = .ok (.goto 5, 3) := by decide +kernel
theorem dX0_find_52 : decode cX0_find 52 = .ok (.iload 4, 2) := by decide +kernel
theorem dX0_find_54 : decode cX0_find 54 = .ok (.ireturn, 1) := by decide +kernel
theorem dX0_find_55 : decode cX0_find 55 = .ok (.iinc 4 1, 3) := by decide +kernel
theorem dX0_find_58 : decode cX0_find 58 = .ok (.goto (-39), 3) := by decide +kernel
theorem dX0_find_61 : decode cX0_find 61 = .ok (.iconst (-1), 1) := by decide +kernel
theorem dX0_find_62 : decode cX0_find 62 = .ok (.ireturn, 1) := by decide +kernel
theorem dX0_toldAt_0 : decode cX0_toldAt 0 = .ok (.iload_n 1, 1) := by decide +kernel
theorem dX0_toldAt_1 : decode cX0_toldAt 1 = .ok (.ifCond .lt 18, 3) := by decide +kernel
theorem dX0_toldAt_4 : decode cX0_toldAt 4 = .ok (.iload_n 1, 1) := by decide +kernel
theorem dX0_toldAt_5 : decode cX0_toldAt 5 = .ok (.aload_n 0, 1) := by decide +kernel
theorem dX0_toldAt_6 : decode cX0_toldAt 6 = .ok (.getfield 9, 3) := by decide +kernel
theorem dX0_toldAt_9 : decode cX0_toldAt 9 = .ok (.arraylength, 1) := by decide +kernel
theorem dX0_toldAt_10 : decode cX0_toldAt 10 = .ok (.aload_n 0, 1) := by decide +kernel
theorem dX0_toldAt_11 : decode cX0_toldAt 11 = .ok (.getfield 15, 3) := by decide +kernel
theorem dX0_toldAt_14 : decode cX0_toldAt 14 = .ok (.arraylength, 1) := by decide +kernel
theorem dX0_toldAt_15 : decode cX0_toldAt 15 = .ok (.iadd, 1) := by decide +kernel
theorem dX0_toldAt_16 : decode cX0_toldAt 16 = .ok (.if_icmp .lt 5, 3) := by decide +kernel
theorem dX0_toldAt_19 : decode cX0_toldAt 19 = .ok (.aconst_null, 1) := by decide +kernel
theorem dX0_toldAt_20 : decode cX0_toldAt 20 = .ok (.areturn, 1) := by decide +kernel
theorem dX0_toldAt_21 : decode cX0_toldAt 21 = .ok (.iload_n 1, 1) := by decide +kernel
theorem dX0_toldAt_22 : decode cX0_toldAt 22 = .ok (.aload_n 0, 1) := by decide +kernel
theorem dX0_toldAt_23 : decode cX0_toldAt 23 = .ok (.getfield 9, 3) := by decide +kernel
theorem dX0_toldAt_26 : decode cX0_toldAt 26 = .ok (.arraylength, 1) := by decide +kernel
theorem dX0_toldAt_27 : decode cX0_toldAt 27 = .ok (.if_icmp .ge 12, 3) := by decide +kernel
theorem dX0_toldAt_30 : decode cX0_toldAt 30 = .ok (.aload_n 0, 1) := by decide +kernel
theorem dX0_toldAt_31 : decode cX0_toldAt 31 = .ok (.getfield 9, 3) := by decide +kernel
theorem dX0_toldAt_34 : decode cX0_toldAt 34 = .ok (.iload_n 1, 1) := by decide +kernel
theorem dX0_toldAt_35 : decode cX0_toldAt 35 = .ok (.aaload, 1) := by decide +kernel
theorem dX0_toldAt_36 : decode cX0_toldAt 36 = .ok (.goto 15, 3) := by decide +kernel
theorem dX0_toldAt_39 : decode cX0_toldAt 39 = .ok (.aload_n 0, 1) := by decide +kernel
theorem dX0_toldAt_40 : decode cX0_toldAt 40 = .ok (.getfield 15, 3) := by decide +kernel
theorem dX0_toldAt_43 : decode cX0_toldAt 43 = .ok (.iload_n 1, 1) := by decide +kernel
theorem dX0_toldAt_44 : decode cX0_toldAt 44 = .ok (.aload_n 0, 1) := by decide +kernel
theorem dX0_toldAt_45 : decode cX0_toldAt 45 = .ok (.getfield 9, 3) := by decide +kernel
theorem dX0_toldAt_48 : decode cX0_toldAt 48 = .ok (.arraylength, 1) := by decide +kernel
theorem dX0_toldAt_49 : decode cX0_toldAt 49 = .ok (.isub, 1) := by decide +kernel
theorem dX0_toldAt_50 : decode cX0_toldAt 50 = .ok (.aaload, 1) := by decide +kernel
theorem dX0_toldAt_51 : decode cX0_toldAt 51 = .ok (.areturn, 1) := by decide +kernel
theorem dX0_parametersOf_0 : decode cX0_parametersOf 0 = .ok (.aload_n 0, 1) := by decide +kernel
theorem dX0_parametersOf_1 : decode cX0_parametersOf 1 = .ok (.iload_n 1, 1) := by decide +kernel
theorem dX0_parametersOf_2 : decode cX0_parametersOf 2 = .ok (.invokevirtual 57, 3) := by decide +kernel
theorem dX0_parametersOf_5 : decode cX0_parametersOf 5 = .ok (.astore_n 2, 1) := by decide +kernel
theorem dX0_parametersOf_6 : decode cX0_parametersOf 6 = .ok (.aload_n 2, 1) := by decide +kernel
theorem dX0_parametersOf_7 : decode cX0_parametersOf 7 = .ok (.ifnonnull 7, 3) := by decide +kernel
theorem dX0_parametersOf_10 : decode cX0_parametersOf 10 = .ok (.iconst 0, 1) := by decide +kernel
theorem dX0_parametersOf_11 : decode cX0_parametersOf 11 = .ok (.goto 7, 3) := by decide +kernel
theorem dX0_parametersOf_14 : decode cX0_parametersOf 14 = .ok (.aload_n 2, 1) := by decide +kernel
theorem dX0_parametersOf_15 : decode cX0_parametersOf 15 = .ok (.getfield 25, 3) := by decide +kernel
theorem dX0_parametersOf_18 : decode cX0_parametersOf 18 = .ok (.ireturn, 1) := by decide +kernel
theorem dX0_signedWordOf_0 : decode cX0_signedWordOf 0 = .ok (.aload_n 0, 1) := by decide +kernel
theorem dX0_signedWordOf_1 : decode cX0_signedWordOf 1 = .ok (.iload_n 1, 1) := by decide +kernel
theorem dX0_signedWordOf_2 : decode cX0_signedWordOf 2 = .ok (.invokevirtual 57, 3) := by decide +kernel
theorem dX0_signedWordOf_5 : decode cX0_signedWordOf 5 = .ok (.astore_n 2, 1) := by decide +kernel
theorem dX0_signedWordOf_6 : decode cX0_signedWordOf 6 = .ok (.aload_n 2, 1) := by decide +kernel
theorem dX0_signedWordOf_7 : decode cX0_signedWordOf 7 = .ok (.ifnonnull 5, 3) := by decide +kernel
theorem dX0_signedWordOf_10 : decode cX0_signedWordOf 10 = .ok (.iconst 0, 1) := by decide +kernel
theorem dX0_signedWordOf_11 : decode cX0_signedWordOf 11 = .ok (.ireturn, 1) := by decide +kernel
theorem dX0_signedWordOf_12 : decode cX0_signedWordOf 12 = .ok (.aload_n 2, 1) := by decide +kernel
theorem dX0_signedWordOf_13 : decode cX0_signedWordOf 13 = .ok (.getfield 25, 3) := by decide +kernel
theorem dX0_signedWordOf_16 : decode cX0_signedWordOf 16 = .ok (.ifCond .le 11, 3) := by decide +kernel
theorem dX0_signedWordOf_19 : decode cX0_signedWordOf 19 = .ok (.aload_n 2, 1) := by decide +kernel
theorem dX0_signedWordOf_20 : decode cX0_signedWordOf 20 = .ok (.getfield 54, 3) := by decide +kernel
theorem dX0_signedWordOf_23 : decode cX0_signedWordOf 23 = .ok (.ineg, 1) := by decide +kernel
theorem dX0_signedWordOf_24 : decode cX0_signedWordOf 24 = .ok (.goto 7, 3) := by decide +kernel
theorem dX0_signedWordOf_27 : decode cX0_signedWordOf 27 = .ok (.aload_n 2, 1) := by decide +kernel
theorem dX0_signedWordOf_28 : decode cX0_signedWordOf 28 = .ok (.getfield 54, 3) := by decide +kernel
theorem dX0_signedWordOf_31 : decode cX0_signedWordOf 31 = .ok (.ireturn, 1) := by decide +kernel
theorem dX0_firstUnknown_0 : decode cX0_firstUnknown 0 = .ok (.iconst (-1), 1) := by decide +kernel
theorem dX0_firstUnknown_1 : decode cX0_firstUnknown 1 = .ok (.istore_n 2, 1) := by decide +kernel
theorem dX0_firstUnknown_2 : decode cX0_firstUnknown 2 = .ok (.iconst 0, 1) := by decide +kernel
theorem dX0_firstUnknown_3 : decode cX0_firstUnknown 3 = .ok (.istore_n 3, 1) := by decide +kernel
theorem dX0_firstUnknown_4 : decode cX0_firstUnknown 4 = .ok (.iload_n 3, 1) := by decide +kernel
theorem dX0_firstUnknown_5 : decode cX0_firstUnknown 5 = .ok (.aload_n 1, 1) := by decide +kernel
theorem dX0_firstUnknown_6 : decode cX0_firstUnknown 6 = .ok (.getfield 69, 3) := by decide +kernel
theorem dX0_firstUnknown_9 : decode cX0_firstUnknown 9 = .ok (.arraylength, 1) := by decide +kernel
theorem dX0_firstUnknown_10 : decode cX0_firstUnknown 10 = .ok (.if_icmp .ge 40, 3) := by decide +kernel
theorem dX0_firstUnknown_13 : decode cX0_firstUnknown 13 = .ok (.aload_n 0, 1) := by decide +kernel
theorem dX0_firstUnknown_14 : decode cX0_firstUnknown 14 = .ok (.aload_n 1, 1) := by decide +kernel
theorem dX0_firstUnknown_15 : decode cX0_firstUnknown 15 = .ok (.iload_n 3, 1) := by decide +kernel
theorem dX0_firstUnknown_16 : decode cX0_firstUnknown 16 = .ok (.invokevirtual 74, 3) := by decide +kernel
theorem dX0_firstUnknown_19 : decode cX0_firstUnknown 19 = .ok (.ifCond .ne 25, 3) := by decide +kernel
theorem dX0_firstUnknown_22 : decode cX0_firstUnknown 22 = .ok (.iload_n 2, 1) := by decide +kernel
theorem dX0_firstUnknown_23 : decode cX0_firstUnknown 23 = .ok (.iconst (-1), 1) := by decide +kernel
theorem dX0_firstUnknown_24 : decode cX0_firstUnknown 24 = .ok (.if_icmp .eq 13, 3) := by decide +kernel
theorem dX0_firstUnknown_27 : decode cX0_firstUnknown 27 = .ok (.aload_n 1, 1) := by decide +kernel
theorem dX0_firstUnknown_28 : decode cX0_firstUnknown 28 = .ok (.getfield 78, 3) := by decide +kernel
theorem dX0_firstUnknown_31 : decode cX0_firstUnknown 31 = .ok (.iload_n 3, 1) := by decide +kernel
theorem dX0_firstUnknown_32 : decode cX0_firstUnknown 32 = .ok (.iaload, 1) := by decide +kernel
theorem dX0_firstUnknown_33 : decode cX0_firstUnknown 33 = .ok (.iload_n 2, 1) := by decide +kernel
theorem dX0_firstUnknown_34 : decode cX0_firstUnknown 34 = .ok (.if_icmp .ge 10, 3) := by decide +kernel
theorem dX0_firstUnknown_37 : decode cX0_firstUnknown 37 = .ok (.aload_n 1, 1) := by decide +kernel
theorem dX0_firstUnknown_38 : decode cX0_firstUnknown 38 = .ok (.getfield 78, 3) := by decide +kernel
theorem dX0_firstUnknown_41 : decode cX0_firstUnknown 41 = .ok (.iload_n 3, 1) := by decide +kernel
theorem dX0_firstUnknown_42 : decode cX0_firstUnknown 42 = .ok (.iaload, 1) := by decide +kernel
theorem dX0_firstUnknown_43 : decode cX0_firstUnknown 43 = .ok (.istore_n 2, 1) := by decide +kernel
theorem dX0_firstUnknown_44 : decode cX0_firstUnknown 44 = .ok (.iinc 3 1, 3) := by decide +kernel
theorem dX0_firstUnknown_47 : decode cX0_firstUnknown 47 = .ok (.goto (-43), 3) := by decide +kernel
theorem dX0_firstUnknown_50 : decode cX0_firstUnknown 50 = .ok (.iload_n 2, 1) := by decide +kernel
theorem dX0_firstUnknown_51 : decode cX0_firstUnknown 51 = .ok (.ireturn, 1) := by decide +kernel
theorem dX0_isKnown_0 : decode cX0_isKnown 0 = .ok (.aload_n 1, 1) := by decide +kernel
theorem dX0_isKnown_1 : decode cX0_isKnown 1 = .ok (.getfield 69, 3) := by decide +kernel
theorem dX0_isKnown_4 : decode cX0_isKnown 4 = .ok (.iload_n 2, 1) := by decide +kernel
theorem dX0_isKnown_5 : decode cX0_isKnown 5 = .ok (.iaload, 1) := by decide +kernel
theorem dX0_isKnown_6 : decode cX0_isKnown 6 = .ok (.istore_n 3, 1) := by decide +kernel
theorem dX0_isKnown_7 : decode cX0_isKnown 7 = .ok (.iload_n 3, 1) := by decide +kernel
theorem dX0_isKnown_8 : decode cX0_isKnown 8 = .ok (.bipush 22, 2) := by decide +kernel
theorem dX0_isKnown_10 : decode cX0_isKnown 10 = .ok (.if_icmp .ne 24, 3) := by decide +kernel
theorem dX0_isKnown_13 : decode cX0_isKnown 13 = .ok (.aload_n 0, 1) := by decide +kernel
theorem dX0_isKnown_14 : decode cX0_isKnown 14 = .ok (.aload_n 1, 1) := by decide +kernel
theorem dX0_isKnown_15 : decode cX0_isKnown 15 = .ok (.getfield 81, 3) := by decide +kernel
theorem dX0_isKnown_18 : decode cX0_isKnown 18 = .ok (.iload_n 2, 1) := by decide +kernel
theorem dX0_isKnown_19 : decode cX0_isKnown 19 = .ok (.iaload, 1) := by decide +kernel
theorem dX0_isKnown_20 : decode cX0_isKnown 20 = .ok (.iconst 0, 1) := by decide +kernel
theorem dX0_isKnown_21 : decode cX0_isKnown 21 = .ok (.invokevirtual 84, 3) := by decide +kernel
theorem dX0_isKnown_24 : decode cX0_isKnown 24 = .ok (.iconst (-1), 1) := by decide +kernel
theorem dX0_isKnown_25 : decode cX0_isKnown 25 = .ok (.if_icmp .eq 7, 3) := by decide +kernel
theorem dX0_isKnown_28 : decode cX0_isKnown 28 = .ok (.iconst 1, 1) := by decide +kernel
theorem dX0_isKnown_29 : decode cX0_isKnown 29 = .ok (.goto 4, 3) := by decide +kernel
theorem dX0_isKnown_32 : decode cX0_isKnown 32 = .ok (.iconst 0, 1) := by decide +kernel
theorem dX0_isKnown_33 : decode cX0_isKnown 33 = .ok (.ireturn, 1) := by decide +kernel
theorem dX0_isKnown_34 : decode cX0_isKnown 34 = .ok (.iload_n 3, 1) := by decide +kernel
theorem dX0_isKnown_35 : decode cX0_isKnown 35 = .ok (.bipush 9, 2) := by decide +kernel
theorem dX0_isKnown_37 : decode cX0_isKnown 37 = .ok (.if_icmp .ne 43, 3) := by decide +kernel
theorem dX0_isKnown_40 : decode cX0_isKnown 40 = .ok (.aload_n 0, 1) := by decide +kernel
theorem dX0_isKnown_41 : decode cX0_isKnown 41 = .ok (.aload_n 1, 1) := by decide +kernel
theorem dX0_isKnown_42 : decode cX0_isKnown 42 = .ok (.getfield 81, 3) := by decide +kernel
theorem dX0_isKnown_45 : decode cX0_isKnown 45 = .ok (.iload_n 2, 1) := by decide +kernel
theorem dX0_isKnown_46 : decode cX0_isKnown 46 = .ok (.iaload, 1) := by decide +kernel
theorem dX0_isKnown_47 : decode cX0_isKnown 47 = .ok (.iconst 1, 1) := by decide +kernel
theorem dX0_isKnown_48 : decode cX0_isKnown 48 = .ok (.invokevirtual 84, 3) := by decide +kernel
theorem dX0_isKnown_51 : decode cX0_isKnown 51 = .ok (.istore 4, 2) := by decide +kernel
theorem dX0_isKnown_53 : decode cX0_isKnown 53 = .ok (.iload 4, 2) := by decide +kernel
theorem dX0_isKnown_55 : decode cX0_isKnown 55 = .ok (.iconst (-1), 1) := by decide +kernel
theorem dX0_isKnown_56 : decode cX0_isKnown 56 = .ok (.if_icmp .eq 22, 3) := by decide +kernel
theorem dX0_isKnown_59 : decode cX0_isKnown 59 = .ok (.aload_n 0, 1) := by decide +kernel
theorem dX0_isKnown_60 : decode cX0_isKnown 60 = .ok (.iload 4, 2) := by decide +kernel
theorem dX0_isKnown_62 : decode cX0_isKnown 62 = .ok (.invokevirtual 88, 3) := by decide +kernel
theorem dX0_isKnown_65 : decode cX0_isKnown 65 = .ok (.aload_n 1, 1) := by decide +kernel
theorem dX0_isKnown_66 : decode cX0_isKnown 66 = .ok (.getfield 92, 3) := by decide +kernel
theorem dX0_isKnown_69 : decode cX0_isKnown 69 = .ok (.iload_n 2, 1) := by decide +kernel
theorem dX0_isKnown_70 : decode cX0_isKnown 70 = .ok (.iaload, 1) := by decide +kernel
theorem dX0_isKnown_71 : decode cX0_isKnown 71 = .ok (.if_icmp .ne 7, 3) := by decide +kernel
theorem dX0_isKnown_74 : decode cX0_isKnown 74 = .ok (.iconst 1, 1) := by decide +kernel
theorem dX0_isKnown_75 : decode cX0_isKnown 75 = .ok (.goto 4, 3) := by decide +kernel
theorem dX0_isKnown_78 : decode cX0_isKnown 78 = .ok (.iconst 0, 1) := by decide +kernel
theorem dX0_isKnown_79 : decode cX0_isKnown 79 = .ok (.ireturn, 1) := by decide +kernel
theorem dX0_isKnown_80 : decode cX0_isKnown 80 = .ok (.iload_n 3, 1) := by decide +kernel
theorem dX0_isKnown_81 : decode cX0_isKnown 81 = .ok (.bipush 10, 2) := by decide +kernel
theorem dX0_isKnown_83 : decode cX0_isKnown 83 = .ok (.if_icmp .lt 22, 3) := by decide +kernel
theorem dX0_isKnown_86 : decode cX0_isKnown 86 = .ok (.iload_n 3, 1) := by decide +kernel
theorem dX0_isKnown_87 : decode cX0_isKnown 87 = .ok (.bipush 20, 2) := by decide +kernel
theorem dX0_isKnown_89 : decode cX0_isKnown 89 = .ok (.if_icmp .gt 16, 3) := by decide +kernel
theorem dX0_isKnown_92 : decode cX0_isKnown 92 = .ok (.aload_n 1, 1) := by decide +kernel
theorem dX0_isKnown_93 : decode cX0_isKnown 93 = .ok (.getfield 92, 3) := by decide +kernel
theorem dX0_isKnown_96 : decode cX0_isKnown 96 = .ok (.iload_n 2, 1) := by decide +kernel
theorem dX0_isKnown_97 : decode cX0_isKnown 97 = .ok (.iaload, 1) := by decide +kernel
theorem dX0_isKnown_98 : decode cX0_isKnown 98 = .ok (.iload_n 3, 1) := by decide +kernel
theorem dX0_isKnown_99 : decode cX0_isKnown 99 = .ok (.invokestatic 95, 3) := by decide +kernel
theorem dX0_isKnown_102 : decode cX0_isKnown 102 = .ok (.if_icmp .ne 7, 3) := by decide +kernel
theorem dX0_isKnown_105 : decode cX0_isKnown 105 = .ok (.iconst 1, 1) := by decide +kernel
theorem dX0_isKnown_106 : decode cX0_isKnown 106 = .ok (.goto 4, 3) := by decide +kernel
theorem dX0_isKnown_109 : decode cX0_isKnown 109 = .ok (.iconst 0, 1) := by decide +kernel
theorem dX0_isKnown_110 : decode cX0_isKnown 110 = .ok (.ireturn, 1) := by decide +kernel
theorem dX0_usedBy_0 : decode cX0_usedBy 0 = .ok (.iconst 0, 1) := by decide +kernel
theorem dX0_usedBy_1 : decode cX0_usedBy 1 = .ok (.istore_n 2, 1) := by decide +kernel
theorem dX0_usedBy_2 : decode cX0_usedBy 2 = .ok (.iconst 0, 1) := by decide +kernel
theorem dX0_usedBy_3 : decode cX0_usedBy 3 = .ok (.istore_n 3, 1) := by decide +kernel
theorem dX0_usedBy_4 : decode cX0_usedBy 4 = .ok (.iload_n 3, 1) := by decide +kernel
theorem dX0_usedBy_5 : decode cX0_usedBy 5 = .ok (.aload_n 1, 1) := by decide +kernel
theorem dX0_usedBy_6 : decode cX0_usedBy 6 = .ok (.getfield 69, 3) := by decide +kernel
theorem dX0_usedBy_9 : decode cX0_usedBy 9 = .ok (.arraylength, 1) := by decide +kernel
theorem dX0_usedBy_10 : decode cX0_usedBy 10 = .ok (.if_icmp .ge 76, 3) := by decide +kernel
theorem dX0_usedBy_13 : decode cX0_usedBy 13 = .ok (.aload_n 1, 1) := by decide +kernel
theorem dX0_usedBy_14 : decode cX0_usedBy 14 = .ok (.getfield 69, 3) := by decide +kernel
theorem dX0_usedBy_17 : decode cX0_usedBy 17 = .ok (.iload_n 3, 1) := by decide +kernel
theorem dX0_usedBy_18 : decode cX0_usedBy 18 = .ok (.iaload, 1) := by decide +kernel
theorem dX0_usedBy_19 : decode cX0_usedBy 19 = .ok (.bipush 22, 2) := by decide +kernel
theorem dX0_usedBy_21 : decode cX0_usedBy 21 = .ok (.if_icmp .eq 14, 3) := by decide +kernel
theorem dX0_usedBy_24 : decode cX0_usedBy 24 = .ok (.aload_n 1, 1) := by decide +kernel
theorem dX0_usedBy_25 : decode cX0_usedBy 25 = .ok (.getfield 69, 3) := by decide +kernel
theorem dX0_usedBy_28 : decode cX0_usedBy 28 = .ok (.iload_n 3, 1) := by decide +kernel
theorem dX0_usedBy_29 : decode cX0_usedBy 29 = .ok (.iaload, 1) := by decide +kernel
theorem dX0_usedBy_30 : decode cX0_usedBy 30 = .ok (.bipush 9, 2) := by decide +kernel
theorem dX0_usedBy_32 : decode cX0_usedBy 32 = .ok (.if_icmp .ne 48, 3) := by decide +kernel
theorem dX0_usedBy_35 : decode cX0_usedBy 35 = .ok (.aload_n 0, 1) := by decide +kernel
theorem dX0_usedBy_36 : decode cX0_usedBy 36 = .ok (.aload_n 1, 1) := by decide +kernel
theorem dX0_usedBy_37 : decode cX0_usedBy 37 = .ok (.getfield 81, 3) := by decide +kernel
theorem dX0_usedBy_40 : decode cX0_usedBy 40 = .ok (.iload_n 3, 1) := by decide +kernel
theorem dX0_usedBy_41 : decode cX0_usedBy 41 = .ok (.iaload, 1) := by decide +kernel
theorem dX0_usedBy_42 : decode cX0_usedBy 42 = .ok (.aload_n 1, 1) := by decide +kernel
theorem dX0_usedBy_43 : decode cX0_usedBy 43 = .ok (.getfield 69, 3) := by decide +kernel
theorem dX0_usedBy_46 : decode cX0_usedBy 46 = .ok (.iload_n 3, 1) := by decide +kernel
theorem dX0_usedBy_47 : decode cX0_usedBy 47 = .ok (.iaload, 1) := by decide +kernel
theorem dX0_usedBy_48 : decode cX0_usedBy 48 = .ok (.bipush 9, 2) := by decide +kernel
theorem dX0_usedBy_50 : decode cX0_usedBy 50 = .ok (.if_icmp .ne 7, 3) := by decide +kernel
theorem dX0_usedBy_53 : decode cX0_usedBy 53 = .ok (.iconst 1, 1) := by decide +kernel
theorem dX0_usedBy_54 : decode cX0_usedBy 54 = .ok (.goto 4, 3) := by decide +kernel
theorem dX0_usedBy_57 : decode cX0_usedBy 57 = .ok (.iconst 0, 1) := by decide +kernel
theorem dX0_usedBy_58 : decode cX0_usedBy 58 = .ok (.invokevirtual 84, 3) := by decide +kernel
theorem dX0_usedBy_61 : decode cX0_usedBy 61 = .ok (.istore 4, 2) := by decide +kernel
theorem dX0_usedBy_63 : decode cX0_usedBy 63 = .ok (.iload_n 2, 1) := by decide +kernel
theorem dX0_usedBy_64 : decode cX0_usedBy 64 = .ok (.iload 4, 2) := by decide +kernel
theorem dX0_usedBy_66 : decode cX0_usedBy 66 = .ok (.iconst (-1), 1) := by decide +kernel
theorem dX0_usedBy_67 : decode cX0_usedBy 67 = .ok (.if_icmp .ne 7, 3) := by decide +kernel
theorem dX0_usedBy_70 : decode cX0_usedBy 70 = .ok (.iconst 0, 1) := by decide +kernel
theorem dX0_usedBy_71 : decode cX0_usedBy 71 = .ok (.goto 7, 3) := by decide +kernel
theorem dX0_usedBy_74 : decode cX0_usedBy 74 = .ok (.iconst 1, 1) := by decide +kernel
theorem dX0_usedBy_75 : decode cX0_usedBy 75 = .ok (.iload 4, 2) := by decide +kernel
theorem dX0_usedBy_77 : decode cX0_usedBy 77 = .ok (.ishl, 1) := by decide +kernel
theorem dX0_usedBy_78 : decode cX0_usedBy 78 = .ok (.ior, 1) := by decide +kernel
theorem dX0_usedBy_79 : decode cX0_usedBy 79 = .ok (.istore_n 2, 1) := by decide +kernel
theorem dX0_usedBy_80 : decode cX0_usedBy 80 = .ok (.iinc 3 1, 3) := by decide +kernel
theorem dX0_usedBy_83 : decode cX0_usedBy 83 = .ok (.goto (-79), 3) := by decide +kernel
theorem dX0_usedBy_86 : decode cX0_usedBy 86 = .ok (.iload_n 2, 1) := by decide +kernel
theorem dX0_usedBy_87 : decode cX0_usedBy 87 = .ok (.ireturn, 1) := by decide +kernel
theorem dX0_directFrom_0 : decode cX0_directFrom 0 = .ok (.iload_n 1, 1) := by decide +kernel
theorem dX0_directFrom_1 : decode cX0_directFrom 1 = .ok (.ifCond .lt 21, 3) := by decide +kernel
theorem dX0_directFrom_4 : decode cX0_directFrom 4 = .ok (.iload_n 1, 1) := by decide +kernel
theorem dX0_directFrom_5 : decode cX0_directFrom 5 = .ok (.aload_n 0, 1) := by decide +kernel
theorem dX0_directFrom_6 : decode cX0_directFrom 6 = .ok (.getfield 18, 3) := by decide +kernel
theorem dX0_directFrom_9 : decode cX0_directFrom 9 = .ok (.arraylength, 1) := by decide +kernel
theorem dX0_directFrom_10 : decode cX0_directFrom 10 = .ok (.if_icmp .ge 12, 3) := by decide +kernel
theorem dX0_directFrom_13 : decode cX0_directFrom 13 = .ok (.aload_n 0, 1) := by decide +kernel
theorem dX0_directFrom_14 : decode cX0_directFrom 14 = .ok (.getfield 18, 3) := by decide +kernel
theorem dX0_directFrom_17 : decode cX0_directFrom 17 = .ok (.iload_n 1, 1) := by decide +kernel
theorem dX0_directFrom_18 : decode cX0_directFrom 18 = .ok (.iaload, 1) := by decide +kernel
theorem dX0_directFrom_19 : decode cX0_directFrom 19 = .ok (.goto 4, 3) := by decide +kernel
theorem dX0_directFrom_22 : decode cX0_directFrom 22 = .ok (.iconst 0, 1) := by decide +kernel
theorem dX0_directFrom_23 : decode cX0_directFrom 23 = .ok (.ireturn, 1) := by decide +kernel
theorem dX0_isUsing_0 : decode cX0_isUsing 0 = .ok (.iload_n 1, 1) := by decide +kernel
theorem dX0_isUsing_1 : decode cX0_isUsing 1 = .ok (.ifCond .lt 29, 3) := by decide +kernel
theorem dX0_isUsing_4 : decode cX0_isUsing 4 = .ok (.iload_n 1, 1) := by decide +kernel
theorem dX0_isUsing_5 : decode cX0_isUsing 5 = .ok (.aload_n 0, 1) := by decide +kernel
theorem dX0_isUsing_6 : decode cX0_isUsing 6 = .ok (.getfield 22, 3) := by decide +kernel
theorem dX0_isUsing_9 : decode cX0_isUsing 9 = .ok (.arraylength, 1) := by decide +kernel
theorem dX0_isUsing_10 : decode cX0_isUsing 10 = .ok (.if_icmp .ge 20, 3) := by decide +kernel
theorem dX0_isUsing_13 : decode cX0_isUsing 13 = .ok (.aload_n 0, 1) := by decide +kernel
theorem dX0_isUsing_14 : decode cX0_isUsing 14 = .ok (.getfield 22, 3) := by decide +kernel
theorem dX0_isUsing_17 : decode cX0_isUsing 17 = .ok (.iload_n 1, 1) := by decide +kernel
theorem dX0_isUsing_18 : decode cX0_isUsing 18 = .ok (.iaload, 1) := by decide +kernel
theorem dX0_isUsing_19 : decode cX0_isUsing 19 = .ok (.iload_n 2, 1) := by decide +kernel
theorem dX0_isUsing_20 : decode cX0_isUsing 20 = .ok (.iushr, 1) := by decide +kernel
theorem dX0_isUsing_21 : decode cX0_isUsing 21 = .ok (.iconst 1, 1) := by decide +kernel
theorem dX0_isUsing_22 : decode cX0_isUsing 22 = .ok (.iand, 1) := by decide +kernel
theorem dX0_isUsing_23 : decode cX0_isUsing 23 = .ok (.ifCond .eq 7, 3) := by decide +kernel
theorem dX0_isUsing_26 : decode cX0_isUsing 26 = .ok (.iconst 1, 1) := by decide +kernel
theorem dX0_isUsing_27 : decode cX0_isUsing 27 = .ok (.goto 4, 3) := by decide +kernel
theorem dX0_isUsing_30 : decode cX0_isUsing 30 = .ok (.iconst 0, 1) := by decide +kernel
theorem dX0_isUsing_31 : decode cX0_isUsing 31 = .ok (.ireturn, 1) := by decide +kernel
theorem dX0_isUsed_0 : decode cX0_isUsed 0 = .ok (.iconst 0, 1) := by decide +kernel
theorem dX0_isUsed_1 : decode cX0_isUsed 1 = .ok (.istore_n 2, 1) := by decide +kernel
theorem dX0_isUsed_2 : decode cX0_isUsed 2 = .ok (.iload_n 2, 1) := by decide +kernel
theorem dX0_isUsed_3 : decode cX0_isUsed 3 = .ok (.aload_n 0, 1) := by decide +kernel
theorem dX0_isUsed_4 : decode cX0_isUsed 4 = .ok (.getfield 22, 3) := by decide +kernel
theorem dX0_isUsed_7 : decode cX0_isUsed 7 = .ok (.arraylength, 1) := by decide +kernel
theorem dX0_isUsed_8 : decode cX0_isUsed 8 = .ok (.if_icmp .ge 20, 3) := by decide +kernel
theorem dX0_isUsed_11 : decode cX0_isUsed 11 = .ok (.aload_n 0, 1) := by decide +kernel
theorem dX0_isUsed_12 : decode cX0_isUsed 12 = .ok (.iload_n 2, 1) := by decide +kernel
theorem dX0_isUsed_13 : decode cX0_isUsed 13 = .ok (.iload_n 1, 1) := by decide +kernel
theorem dX0_isUsed_14 : decode cX0_isUsed 14 = .ok (.invokevirtual 98, 3) := by decide +kernel
theorem dX0_isUsed_17 : decode cX0_isUsed 17 = .ok (.ifCond .eq 5, 3) := by decide +kernel
theorem dX0_isUsed_20 : decode cX0_isUsed 20 = .ok (.iconst 1, 1) := by decide +kernel
theorem dX0_isUsed_21 : decode cX0_isUsed 21 = .ok (.ireturn, 1) := by decide +kernel
theorem dX0_isUsed_22 : decode cX0_isUsed 22 = .ok (.iinc 2 1, 3) := by decide +kernel
theorem dX0_isUsed_25 : decode cX0_isUsed 25 = .ok (.goto (-23), 3) := by decide +kernel
theorem dX0_isUsed_28 : decode cX0_isUsed 28 = .ok (.iconst 0, 1) := by decide +kernel
theorem dX0_isUsed_29 : decode cX0_isUsed 29 = .ok (.ireturn, 1) := by decide +kernel
theorem dX0_usersOf_0 : decode cX0_usersOf 0 = .ok (.iconst 0, 1) := by decide +kernel
theorem dX0_usersOf_1 : decode cX0_usersOf 1 = .ok (.istore_n 2, 1) := by decide +kernel
theorem dX0_usersOf_2 : decode cX0_usersOf 2 = .ok (.iconst 0, 1) := by decide +kernel
theorem dX0_usersOf_3 : decode cX0_usersOf 3 = .ok (.istore_n 3, 1) := by decide +kernel
theorem dX0_usersOf_4 : decode cX0_usersOf 4 = .ok (.iload_n 3, 1) := by decide +kernel
theorem dX0_usersOf_5 : decode cX0_usersOf 5 = .ok (.aload_n 0, 1) := by decide +kernel
theorem dX0_usersOf_6 : decode cX0_usersOf 6 = .ok (.getfield 9, 3) := by decide +kernel
theorem dX0_usersOf_9 : decode cX0_usersOf 9 = .ok (.arraylength, 1) := by decide +kernel
theorem dX0_usersOf_10 : decode cX0_usersOf 10 = .ok (.if_icmp .ge 29, 3) := by decide +kernel
theorem dX0_usersOf_13 : decode cX0_usersOf 13 = .ok (.iload_n 1, 1) := by decide +kernel
theorem dX0_usersOf_14 : decode cX0_usersOf 14 = .ok (.iconst (-1), 1) := by decide +kernel
theorem dX0_usersOf_15 : decode cX0_usersOf 15 = .ok (.if_icmp .eq 24, 3) := by decide +kernel
theorem dX0_usersOf_18 : decode cX0_usersOf 18 = .ok (.aload_n 0, 1) := by decide +kernel
theorem dX0_usersOf_19 : decode cX0_usersOf 19 = .ok (.iload_n 3, 1) := by decide +kernel
theorem dX0_usersOf_20 : decode cX0_usersOf 20 = .ok (.iload_n 1, 1) := by decide +kernel
theorem dX0_usersOf_21 : decode cX0_usersOf 21 = .ok (.invokevirtual 98, 3) := by decide +kernel
theorem dX0_usersOf_24 : decode cX0_usersOf 24 = .ok (.ifCond .eq 9, 3) := by decide +kernel
theorem dX0_usersOf_27 : decode cX0_usersOf 27 = .ok (.iload_n 2, 1) := by decide +kernel
theorem dX0_usersOf_28 : decode cX0_usersOf 28 = .ok (.iconst 1, 1) := by decide +kernel
theorem dX0_usersOf_29 : decode cX0_usersOf 29 = .ok (.iload_n 3, 1) := by decide +kernel
theorem dX0_usersOf_30 : decode cX0_usersOf 30 = .ok (.ishl, 1) := by decide +kernel
theorem dX0_usersOf_31 : decode cX0_usersOf 31 = .ok (.ior, 1) := by decide +kernel
theorem dX0_usersOf_32 : decode cX0_usersOf 32 = .ok (.istore_n 2, 1) := by decide +kernel
theorem dX0_usersOf_33 : decode cX0_usersOf 33 = .ok (.iinc 3 1, 3) := by decide +kernel
theorem dX0_usersOf_36 : decode cX0_usersOf 36 = .ok (.goto (-32), 3) := by decide +kernel
theorem dX0_usersOf_39 : decode cX0_usersOf 39 = .ok (.iload_n 2, 1) := by decide +kernel
theorem dX0_usersOf_40 : decode cX0_usersOf 40 = .ok (.ireturn, 1) := by decide +kernel
theorem dX0_leadsTo_0 : decode cX0_leadsTo 0 = .ok (.aload_n 0, 1) := by decide +kernel
theorem dX0_leadsTo_1 : decode cX0_leadsTo 1 = .ok (.iload_n 1, 1) := by decide +kernel
theorem dX0_leadsTo_2 : decode cX0_leadsTo 2 = .ok (.iload_n 2, 1) := by decide +kernel
theorem dX0_leadsTo_3 : decode cX0_leadsTo 3 = .ok (.invokevirtual 102, 3) := by decide +kernel
theorem dX0_leadsTo_6 : decode cX0_leadsTo 6 = .ok (.iconst (-1), 1) := by decide +kernel
theorem dX0_leadsTo_7 : decode cX0_leadsTo 7 = .ok (.if_icmp .eq 7, 3) := by decide +kernel
theorem dX0_leadsTo_10 : decode cX0_leadsTo 10 = .ok (.iconst 1, 1) := by decide +kernel
theorem dX0_leadsTo_11 : decode cX0_leadsTo 11 = .ok (.goto 4, 3) := by decide +kernel
theorem dX0_leadsTo_14 : decode cX0_leadsTo 14 = .ok (.iconst 0, 1) := by decide +kernel
theorem dX0_leadsTo_15 : decode cX0_leadsTo 15 = .ok (.ireturn, 1) := by decide +kernel
theorem dX0_firstTowards_0 : decode cX0_firstTowards 0 = .ok (.iconst 0, 1) := by decide +kernel
theorem dX0_firstTowards_1 : decode cX0_firstTowards 1 = .ok (.istore_n 3, 1) := by decide +kernel
theorem dX0_firstTowards_2 : decode cX0_firstTowards 2 = .ok (.iload_n 3, 1) := by decide +kernel
theorem dX0_firstTowards_3 : decode cX0_firstTowards 3 = .ok (.aload_n 0, 1) := by decide +kernel
theorem dX0_firstTowards_4 : decode cX0_firstTowards 4 = .ok (.getfield 22, 3) := by decide +kernel
theorem dX0_firstTowards_7 : decode cX0_firstTowards 7 = .ok (.arraylength, 1) := by decide +kernel
theorem dX0_firstTowards_8 : decode cX0_firstTowards 8 = .ok (.if_icmp .ge 33, 3) := by decide +kernel
theorem dX0_firstTowards_11 : decode cX0_firstTowards 11 = .ok (.iload_n 1, 1) := by decide +kernel
theorem dX0_firstTowards_12 : decode cX0_firstTowards 12 = .ok (.iload_n 3, 1) := by decide +kernel
theorem dX0_firstTowards_13 : decode cX0_firstTowards 13 = .ok (.iushr, 1) := by decide +kernel
theorem dX0_firstTowards_14 : decode cX0_firstTowards 14 = .ok (.iconst 1, 1) := by decide +kernel
theorem dX0_firstTowards_15 : decode cX0_firstTowards 15 = .ok (.iand, 1) := by decide +kernel
theorem dX0_firstTowards_16 : decode cX0_firstTowards 16 = .ok (.ifCond .eq 19, 3) := by decide +kernel
theorem dX0_firstTowards_19 : decode cX0_firstTowards 19 = .ok (.iload_n 3, 1) := by decide +kernel
theorem dX0_firstTowards_20 : decode cX0_firstTowards 20 = .ok (.iload_n 2, 1) := by decide +kernel
theorem dX0_firstTowards_21 : decode cX0_firstTowards 21 = .ok (.if_icmp .eq 12, 3) := by decide +kernel
theorem dX0_firstTowards_24 : decode cX0_firstTowards 24 = .ok (.aload_n 0, 1) := by decide +kernel
theorem dX0_firstTowards_25 : decode cX0_firstTowards 25 = .ok (.iload_n 3, 1) := by decide +kernel
theorem dX0_firstTowards_26 : decode cX0_firstTowards 26 = .ok (.iload_n 2, 1) := by decide +kernel
theorem dX0_firstTowards_27 : decode cX0_firstTowards 27 = .ok (.invokevirtual 98, 3) := by decide +kernel
theorem dX0_firstTowards_30 : decode cX0_firstTowards 30 = .ok (.ifCond .eq 5, 3) := by decide +kernel
theorem dX0_firstTowards_33 : decode cX0_firstTowards 33 = .ok (.iload_n 3, 1) := by decide +kernel
theorem dX0_firstTowards_34 : decode cX0_firstTowards 34 = .ok (.ireturn, 1) := by decide +kernel
theorem dX0_firstTowards_35 : decode cX0_firstTowards 35 = .ok (.iinc 3 1, 3) := by decide +kernel
theorem dX0_firstTowards_38 : decode cX0_firstTowards 38 = .ok (.goto (-36), 3) := by decide +kernel
theorem dX0_firstTowards_41 : decode cX0_firstTowards 41 = .ok (.iconst (-1), 1) := by decide +kernel
theorem dX0_firstTowards_42 : decode cX0_firstTowards 42 = .ok (.ireturn, 1) := by decide +kernel
theorem dX0_firstReady_0 : decode cX0_firstReady 0 = .ok (.iconst 0, 1) := by decide +kernel
theorem dX0_firstReady_1 : decode cX0_firstReady 1 = .ok (.istore_n 2, 1) := by decide +kernel
theorem dX0_firstReady_2 : decode cX0_firstReady 2 = .ok (.iload_n 2, 1) := by decide +kernel
theorem dX0_firstReady_3 : decode cX0_firstReady 3 = .ok (.aload_n 0, 1) := by decide +kernel
theorem dX0_firstReady_4 : decode cX0_firstReady 4 = .ok (.getfield 9, 3) := by decide +kernel
theorem dX0_firstReady_7 : decode cX0_firstReady 7 = .ok (.arraylength, 1) := by decide +kernel
theorem dX0_firstReady_8 : decode cX0_firstReady 8 = .ok (.if_icmp .ge 30, 3) := by decide +kernel
theorem dX0_firstReady_11 : decode cX0_firstReady 11 = .ok (.iload_n 1, 1) := by decide +kernel
theorem dX0_firstReady_12 : decode cX0_firstReady 12 = .ok (.iload_n 2, 1) := by decide +kernel
theorem dX0_firstReady_13 : decode cX0_firstReady 13 = .ok (.iushr, 1) := by decide +kernel
theorem dX0_firstReady_14 : decode cX0_firstReady 14 = .ok (.iconst 1, 1) := by decide +kernel
theorem dX0_firstReady_15 : decode cX0_firstReady 15 = .ok (.iand, 1) := by decide +kernel
theorem dX0_firstReady_16 : decode cX0_firstReady 16 = .ok (.ifCond .eq 16, 3) := by decide +kernel
theorem dX0_firstReady_19 : decode cX0_firstReady 19 = .ok (.aload_n 0, 1) := by decide +kernel
theorem dX0_firstReady_20 : decode cX0_firstReady 20 = .ok (.getfield 22, 3) := by decide +kernel
theorem dX0_firstReady_23 : decode cX0_firstReady 23 = .ok (.iload_n 2, 1) := by decide +kernel
theorem dX0_firstReady_24 : decode cX0_firstReady 24 = .ok (.iaload, 1) := by decide +kernel
theorem dX0_firstReady_25 : decode cX0_firstReady 25 = .ok (.iload_n 1, 1) := by decide +kernel
theorem dX0_firstReady_26 : decode cX0_firstReady 26 = .ok (.iand, 1) := by decide +kernel
theorem dX0_firstReady_27 : decode cX0_firstReady 27 = .ok (.ifCond .ne 5, 3) := by decide +kernel
theorem dX0_firstReady_30 : decode cX0_firstReady 30 = .ok (.iload_n 2, 1) := by decide +kernel
theorem dX0_firstReady_31 : decode cX0_firstReady 31 = .ok (.ireturn, 1) := by decide +kernel
theorem dX0_firstReady_32 : decode cX0_firstReady 32 = .ok (.iinc 2 1, 3) := by decide +kernel
theorem dX0_firstReady_35 : decode cX0_firstReady 35 = .ok (.goto (-33), 3) := by decide +kernel
theorem dX0_firstReady_38 : decode cX0_firstReady 38 = .ok (.iconst (-1), 1) := by decide +kernel
theorem dX0_firstReady_39 : decode cX0_firstReady 39 = .ok (.ireturn, 1) := by decide +kernel
theorem dX1_init_0 : decode cX1_init 0 = .ok (.aload_n 0, 1) := by decide +kernel
theorem dX1_init_1 : decode cX1_init 1 = .ok (.invokespecial 1, 3) := by decide +kernel
theorem dX1_init_4 : decode cX1_init 4 = .ok (.aload_n 0, 1) := by decide +kernel
theorem dX1_init_5 : decode cX1_init 5 = .ok (.new 7, 3) := by decide +kernel
theorem dX1_init_8 : decode cX1_init 8 = .ok (.dup, 1) := by decide +kernel
theorem dX1_init_9 : decode cX1_init 9 = .ok (.invokespecial 9, 3) := by decide +kernel
theorem dX1_init_12 : decode cX1_init 12 = .ok (.putfield 10, 3) := by decide +kernel
theorem dX1_init_15 : decode cX1_init 15 = .ok (.aload_n 0, 1) := by decide +kernel
theorem dX1_init_16 : decode cX1_init 16 = .ok (.new 7, 3) := by decide +kernel
theorem dX1_init_19 : decode cX1_init 19 = .ok (.dup, 1) := by decide +kernel
theorem dX1_init_20 : decode cX1_init 20 = .ok (.invokespecial 9, 3) := by decide +kernel
theorem dX1_init_23 : decode cX1_init 23 = .ok (.putfield 16, 3) := by decide +kernel
theorem dX1_init_26 : decode cX1_init 26 = .ok (.aload_n 0, 1) := by decide +kernel
theorem dX1_init_27 : decode cX1_init 27 = .ok (.getfield 16, 3) := by decide +kernel
theorem dX1_init_30 : decode cX1_init 30 = .ok (.lconst 1, 1) := by decide +kernel
theorem dX1_init_31 : decode cX1_init 31 = .ok (.invokevirtual 19, 3) := by decide +kernel
theorem dX1_init_34 : decode cX1_init 34 = .ok (.return_, 1) := by decide +kernel
theorem dX1_init__0 : decode cX1_init_ 0 = .ok (.aload_n 0, 1) := by decide +kernel
theorem dX1_init__1 : decode cX1_init_ 1 = .ok (.invokespecial 1, 3) := by decide +kernel
theorem dX1_init__4 : decode cX1_init_ 4 = .ok (.aload_n 0, 1) := by decide +kernel
theorem dX1_init__5 : decode cX1_init_ 5 = .ok (.new 7, 3) := by decide +kernel
theorem dX1_init__8 : decode cX1_init_ 8 = .ok (.dup, 1) := by decide +kernel
theorem dX1_init__9 : decode cX1_init_ 9 = .ok (.invokespecial 9, 3) := by decide +kernel
theorem dX1_init__12 : decode cX1_init_ 12 = .ok (.putfield 10, 3) := by decide +kernel
theorem dX1_init__15 : decode cX1_init_ 15 = .ok (.aload_n 0, 1) := by decide +kernel
theorem dX1_init__16 : decode cX1_init_ 16 = .ok (.new 7, 3) := by decide +kernel
theorem dX1_init__19 : decode cX1_init_ 19 = .ok (.dup, 1) := by decide +kernel
theorem dX1_init__20 : decode cX1_init_ 20 = .ok (.invokespecial 9, 3) := by decide +kernel
theorem dX1_init__23 : decode cX1_init_ 23 = .ok (.putfield 16, 3) := by decide +kernel
theorem dX1_init__26 : decode cX1_init_ 26 = .ok (.aload_n 0, 1) := by decide +kernel
theorem dX1_init__27 : decode cX1_init_ 27 = .ok (.aload_n 1, 1) := by decide +kernel
theorem dX1_init__28 : decode cX1_init_ 28 = .ok (.invokevirtual 23, 3) := by decide +kernel
theorem dX1_init__31 : decode cX1_init_ 31 = .ok (.return_, 1) := by decide +kernel
theorem dX1_setTo_0 : decode cX1_setTo 0 = .ok (.aload_n 0, 1) := by decide +kernel
theorem dX1_setTo_1 : decode cX1_setTo 1 = .ok (.aload_n 1, 1) := by decide +kernel
theorem dX1_setTo_2 : decode cX1_setTo 2 = .ok (.getfield 27, 3) := by decide +kernel
theorem dX1_setTo_5 : decode cX1_setTo 5 = .ok (.putfield 27, 3) := by decide +kernel
theorem dX1_setTo_8 : decode cX1_setTo 8 = .ok (.aload_n 0, 1) := by decide +kernel
theorem dX1_setTo_9 : decode cX1_setTo 9 = .ok (.getfield 10, 3) := by decide +kernel
theorem dX1_setTo_12 : decode cX1_setTo 12 = .ok (.aload_n 1, 1) := by decide +kernel
theorem dX1_setTo_13 : decode cX1_setTo 13 = .ok (.getfield 10, 3) := by decide +kernel
theorem dX1_setTo_16 : decode cX1_setTo 16 = .ok (.invokevirtual 31, 3) := by decide +kernel
theorem dX1_setTo_19 : decode cX1_setTo 19 = .ok (.aload_n 0, 1) := by decide +kernel
theorem dX1_setTo_20 : decode cX1_setTo 20 = .ok (.getfield 16, 3) := by decide +kernel
theorem dX1_setTo_23 : decode cX1_setTo 23 = .ok (.aload_n 1, 1) := by decide +kernel
theorem dX1_setTo_24 : decode cX1_setTo 24 = .ok (.getfield 16, 3) := by decide +kernel
theorem dX1_setTo_27 : decode cX1_setTo 27 = .ok (.invokevirtual 31, 3) := by decide +kernel
theorem dX1_setTo_30 : decode cX1_setTo 30 = .ok (.return_, 1) := by decide +kernel
theorem dX1_setSign_0 : decode cX1_setSign 0 = .ok (.aload_n 0, 1) := by decide +kernel
theorem dX1_setSign_1 : decode cX1_setSign 1 = .ok (.aload_n 0, 1) := by decide +kernel
theorem dX1_setSign_2 : decode cX1_setSign 2 = .ok (.getfield 10, 3) := by decide +kernel
theorem dX1_setSign_5 : decode cX1_setSign 5 = .ok (.invokevirtual 34, 3) := by decide +kernel
theorem dX1_setSign_8 : decode cX1_setSign 8 = .ok (.ifCond .eq 7, 3) := by decide +kernel
theorem dX1_setSign_11 : decode cX1_setSign 11 = .ok (.iconst 0, 1) := by decide +kernel
theorem dX1_setSign_12 : decode cX1_setSign 12 = .ok (.goto 4, 3) := by decide +kernel
theorem dX1_setSign_15 : decode cX1_setSign 15 = .ok (.iload_n 1, 1) := by decide +kernel
theorem dX1_setSign_16 : decode cX1_setSign 16 = .ok (.putfield 27, 3) := by decide +kernel
theorem dX1_setSign_19 : decode cX1_setSign 19 = .ok (.return_, 1) := by decide +kernel
theorem dX1_setWhole_0 : decode cX1_setWhole 0 = .ok (.aload_n 0, 1) := by decide +kernel
theorem dX1_setWhole_1 : decode cX1_setWhole 1 = .ok (.getfield 10, 3) := by decide +kernel
theorem dX1_setWhole_4 : decode cX1_setWhole 4 = .ok (.aload_n 1, 1) := by decide +kernel
theorem dX1_setWhole_5 : decode cX1_setWhole 5 = .ok (.invokevirtual 31, 3) := by decide +kernel
theorem dX1_setWhole_8 : decode cX1_setWhole 8 = .ok (.aload_n 0, 1) := by decide +kernel
theorem dX1_setWhole_9 : decode cX1_setWhole 9 = .ok (.getfield 16, 3) := by decide +kernel
theorem dX1_setWhole_12 : decode cX1_setWhole 12 = .ok (.lconst 1, 1) := by decide +kernel
theorem dX1_setWhole_13 : decode cX1_setWhole 13 = .ok (.invokevirtual 19, 3) := by decide +kernel
theorem dX1_setWhole_16 : decode cX1_setWhole 16 = .ok (.aload_n 0, 1) := by decide +kernel
theorem dX1_setWhole_17 : decode cX1_setWhole 17 = .ok (.iload_n 2, 1) := by decide +kernel
theorem dX1_setWhole_18 : decode cX1_setWhole 18 = .ok (.invokevirtual 38, 3) := by decide +kernel
theorem dX1_setWhole_21 : decode cX1_setWhole 21 = .ok (.return_, 1) := by decide +kernel
theorem dX1_fits_0 : decode cX1_fits 0 = .ok (.aload_n 0, 1) := by decide +kernel
theorem dX1_fits_1 : decode cX1_fits 1 = .ok (.getfield 10, 3) := by decide +kernel
theorem dX1_fits_4 : decode cX1_fits 4 = .ok (.invokevirtual 42, 3) := by decide +kernel
theorem dX1_fits_7 : decode cX1_fits 7 = .ok (.ifCond .eq 17, 3) := by decide +kernel
theorem dX1_fits_10 : decode cX1_fits 10 = .ok (.aload_n 0, 1) := by decide +kernel
theorem dX1_fits_11 : decode cX1_fits 11 = .ok (.getfield 16, 3) := by decide +kernel
theorem dX1_fits_14 : decode cX1_fits 14 = .ok (.invokevirtual 42, 3) := by decide +kernel
theorem dX1_fits_17 : decode cX1_fits 17 = .ok (.ifCond .eq 7, 3) := by decide +kernel
theorem dX1_fits_20 : decode cX1_fits 20 = .ok (.iconst 1, 1) := by decide +kernel
theorem dX1_fits_21 : decode cX1_fits 21 = .ok (.goto 4, 3) := by decide +kernel
theorem dX1_fits_24 : decode cX1_fits 24 = .ok (.iconst 0, 1) := by decide +kernel
theorem dX1_fits_25 : decode cX1_fits 25 = .ok (.ireturn, 1) := by decide +kernel
theorem dX1_isWhole_0 : decode cX1_isWhole 0 = .ok (.aload_n 0, 1) := by decide +kernel
theorem dX1_isWhole_1 : decode cX1_isWhole 1 = .ok (.getfield 16, 3) := by decide +kernel
theorem dX1_isWhole_4 : decode cX1_isWhole 4 = .ok (.invokevirtual 45, 3) := by decide +kernel
theorem dX1_isWhole_7 : decode cX1_isWhole 7 = .ok (.ireturn, 1) := by decide +kernel
theorem dX1_isSame_0 : decode cX1_isSame 0 = .ok (.aload_n 0, 1) := by decide +kernel
theorem dX1_isSame_1 : decode cX1_isSame 1 = .ok (.getfield 27, 3) := by decide +kernel
theorem dX1_isSame_4 : decode cX1_isSame 4 = .ok (.aload_n 1, 1) := by decide +kernel
theorem dX1_isSame_5 : decode cX1_isSame 5 = .ok (.getfield 27, 3) := by decide +kernel
theorem dX1_isSame_8 : decode cX1_isSame 8 = .ok (.if_icmp .ne 35, 3) := by decide +kernel
theorem dX1_isSame_11 : decode cX1_isSame 11 = .ok (.aload_n 0, 1) := by decide +kernel
theorem dX1_isSame_12 : decode cX1_isSame 12 = .ok (.getfield 10, 3) := by decide +kernel
theorem dX1_isSame_15 : decode cX1_isSame 15 = .ok (.aload_n 1, 1) := by decide +kernel
theorem dX1_isSame_16 : decode cX1_isSame 16 = .ok (.getfield 10, 3) := by decide +kernel
theorem dX1_isSame_19 : decode cX1_isSame 19 = .ok (.invokevirtual 48, 3) := by decide +kernel
theorem dX1_isSame_22 : decode cX1_isSame 22 = .ok (.ifCond .ne 21, 3) := by decide +kernel
theorem dX1_isSame_25 : decode cX1_isSame 25 = .ok (.aload_n 0, 1) := by decide +kernel
theorem dX1_isSame_26 : decode cX1_isSame 26 = .ok (.getfield 16, 3) := by decide +kernel
theorem dX1_isSame_29 : decode cX1_isSame 29 = .ok (.aload_n 1, 1) := by decide +kernel
theorem dX1_isSame_30 : decode cX1_isSame 30 = .ok (.getfield 16, 3) := by decide +kernel
theorem dX1_isSame_33 : decode cX1_isSame 33 = .ok (.invokevirtual 48, 3) := by decide +kernel
theorem dX1_isSame_36 : decode cX1_isSame 36 = .ok (.ifCond .ne 7, 3) := by decide +kernel
theorem dX1_isSame_39 : decode cX1_isSame 39 = .ok (.iconst 1, 1) := by decide +kernel
theorem dX1_isSame_40 : decode cX1_isSame 40 = .ok (.goto 4, 3) := by decide +kernel
theorem dX1_isSame_43 : decode cX1_isSame 43 = .ok (.iconst 0, 1) := by decide +kernel
theorem dX1_isSame_44 : decode cX1_isSame 44 = .ok (.ireturn, 1) := by decide +kernel
theorem dX2_init_0 : decode cX2_init 0 = .ok (.aload_n 0, 1) := by decide +kernel
theorem dX2_init_1 : decode cX2_init 1 = .ok (.invokespecial 3, 3) := by decide +kernel
theorem dX2_init_4 : decode cX2_init 4 = .ok (.aload_n 0, 1) := by decide +kernel
theorem dX2_init_5 : decode cX2_init 5 = .ok (.sipush 1000, 3) := by decide +kernel
theorem dX2_init_8 : decode cX2_init 8 = .ok (.anewarray 11, 3) := by decide +kernel
theorem dX2_init_11 : decode cX2_init 11 = .ok (.putfield 13, 3) := by decide +kernel
theorem dX2_init_14 : decode cX2_init 14 = .ok (.aload_n 0, 1) := by decide +kernel
theorem dX2_init_15 : decode cX2_init 15 = .ok (.bipush 11, 2) := by decide +kernel
theorem dX2_init_17 : decode cX2_init 17 = .ok (.anewarray 17, 3) := by decide +kernel
theorem dX2_init_20 : decode cX2_init 20 = .ok (.putfield 19, 3) := by decide +kernel
theorem dX2_init_23 : decode cX2_init 23 = .ok (.aload_n 0, 1) := by decide +kernel
theorem dX2_init_24 : decode cX2_init 24 = .ok (.bipush 11, 2) := by decide +kernel
theorem dX2_init_26 : decode cX2_init 26 = .ok (.newarray .int, 2) := by decide +kernel
theorem dX2_init_28 : decode cX2_init 28 = .ok (.putfield 23, 3) := by decide +kernel
theorem dX2_init_31 : decode cX2_init 31 = .ok (.aload_n 0, 1) := by decide +kernel
theorem dX2_init_32 : decode cX2_init 32 = .ok (.bipush 11, 2) := by decide +kernel
theorem dX2_init_34 : decode cX2_init 34 = .ok (.newarray .int, 2) := by decide +kernel
theorem dX2_init_36 : decode cX2_init 36 = .ok (.putfield 27, 3) := by decide +kernel
theorem dX2_init_39 : decode cX2_init 39 = .ok (.aload_n 0, 1) := by decide +kernel
theorem dX2_init_40 : decode cX2_init 40 = .ok (.new 11, 3) := by decide +kernel
theorem dX2_init_43 : decode cX2_init 43 = .ok (.dup, 1) := by decide +kernel
theorem dX2_init_44 : decode cX2_init 44 = .ok (.invokespecial 30, 3) := by decide +kernel
theorem dX2_init_47 : decode cX2_init 47 = .ok (.putfield 31, 3) := by decide +kernel
theorem dX2_init_50 : decode cX2_init 50 = .ok (.return_, 1) := by decide +kernel
theorem dX2_work_0 : decode cX2_work 0 = .ok (.aload_n 0, 1) := by decide +kernel
theorem dX2_work_1 : decode cX2_work 1 = .ok (.iconst 0, 1) := by decide +kernel
theorem dX2_work_2 : decode cX2_work 2 = .ok (.putfield 35, 3) := by decide +kernel
theorem dX2_work_5 : decode cX2_work 5 = .ok (.aload_n 0, 1) := by decide +kernel
theorem dX2_work_6 : decode cX2_work 6 = .ok (.iconst 0, 1) := by decide +kernel
theorem dX2_work_7 : decode cX2_work 7 = .ok (.putfield 39, 3) := by decide +kernel
theorem dX2_work_10 : decode cX2_work 10 = .ok (.aload_n 0, 1) := by decide +kernel
theorem dX2_work_11 : decode cX2_work 11 = .ok (.iconst 0, 1) := by decide +kernel
theorem dX2_work_12 : decode cX2_work 12 = .ok (.putfield 42, 3) := by decide +kernel
theorem dX2_work_15 : decode cX2_work 15 = .ok (.aload_n 0, 1) := by decide +kernel
theorem dX2_work_16 : decode cX2_work 16 = .ok (.aload_n 1, 1) := by decide +kernel
theorem dX2_work_17 : decode cX2_work 17 = .ok (.iconst 0, 1) := by decide +kernel
theorem dX2_work_18 : decode cX2_work 18 = .ok (.invokevirtual 45, 3) := by decide +kernel
theorem dX2_work_21 : decode cX2_work 21 = .ok (.iconst 0, 1) := by decide +kernel
theorem dX2_work_22 : decode cX2_work 22 = .ok (.istore 5, 2) := by decide +kernel
theorem dX2_work_24 : decode cX2_work 24 = .ok (.iload 5, 2) := by decide +kernel
theorem dX2_work_26 : decode cX2_work 26 = .ok (.ldc 49, 2) := by decide +kernel
theorem dX2_work_28 : decode cX2_work 28 = .ok (.if_icmp .ge 245, 3) := by decide +kernel
theorem dX2_work_31 : decode cX2_work 31 = .ok (.aload_n 0, 1) := by decide +kernel
theorem dX2_work_32 : decode cX2_work 32 = .ok (.getfield 19, 3) := by decide +kernel
theorem dX2_work_35 : decode cX2_work 35 = .ok (.aload_n 0, 1) := by decide +kernel
theorem dX2_work_36 : decode cX2_work 36 = .ok (.getfield 42, 3) := by decide +kernel
theorem dX2_work_39 : decode cX2_work 39 = .ok (.aaload, 1) := by decide +kernel
theorem dX2_work_40 : decode cX2_work 40 = .ok (.astore 6, 2) := by decide +kernel
theorem dX2_work_42 : decode cX2_work 42 = .ok (.aload_n 0, 1) := by decide +kernel
theorem dX2_work_43 : decode cX2_work 43 = .ok (.getfield 23, 3) := by decide +kernel
theorem dX2_work_46 : decode cX2_work 46 = .ok (.aload_n 0, 1) := by decide +kernel
theorem dX2_work_47 : decode cX2_work 47 = .ok (.getfield 42, 3) := by decide +kernel
theorem dX2_work_50 : decode cX2_work 50 = .ok (.iaload, 1) := by decide +kernel
theorem dX2_work_51 : decode cX2_work 51 = .ok (.istore 7, 2) := by decide +kernel
theorem dX2_work_53 : decode cX2_work 53 = .ok (.iload 7, 2) := by decide +kernel
theorem dX2_work_55 : decode cX2_work 55 = .ok (.aload 6, 2) := by decide +kernel
theorem dX2_work_57 : decode cX2_work 57 = .ok (.getfield 50, 3) := by decide +kernel
theorem dX2_work_60 : decode cX2_work 60 = .ok (.arraylength, 1) := by decide +kernel
theorem dX2_work_61 : decode cX2_work 61 = .ok (.if_icmp .lt 22, 3) := by decide +kernel
theorem dX2_work_64 : decode cX2_work 64 = .ok (.aload_n 0, 1) := by decide +kernel
theorem dX2_work_65 : decode cX2_work 65 = .ok (.getfield 42, 3) := by decide +kernel
theorem dX2_work_68 : decode cX2_work 68 = .ok (.ifCond .ne 5, 3) := by decide +kernel
theorem dX2_work_71 : decode cX2_work 71 = .ok (.iconst 0, 1) := by decide +kernel
theorem dX2_work_72 : decode cX2_work 72 = .ok (.ireturn, 1) := by decide +kernel
theorem dX2_work_73 : decode cX2_work 73 = .ok (.aload_n 0, 1) := by decide +kernel
theorem dX2_work_74 : decode cX2_work 74 = .ok (.aload_n 3, 1) := by decide +kernel
theorem dX2_work_75 : decode cX2_work 75 = .ok (.invokevirtual 53, 3) := by decide +kernel
theorem dX2_work_78 : decode cX2_work 78 = .ok (.istore 8, 2) := by decide +kernel
theorem dX2_work_80 : decode cX2_work 80 = .ok (.goto 179, 3) := by decide +kernel
theorem dX2_work_83 : decode cX2_work 83 = .ok (.aload_n 0, 1) := by decide +kernel
theorem dX2_work_84 : decode cX2_work 84 = .ok (.getfield 23, 3) := by decide +kernel
theorem dX2_work_87 : decode cX2_work 87 = .ok (.aload_n 0, 1) := by decide +kernel
theorem dX2_work_88 : decode cX2_work 88 = .ok (.getfield 42, 3) := by decide +kernel
theorem dX2_work_91 : decode cX2_work 91 = .ok (.iload 7, 2) := by decide +kernel
theorem dX2_work_93 : decode cX2_work 93 = .ok (.iconst 1, 1) := by decide +kernel
theorem dX2_work_94 : decode cX2_work 94 = .ok (.iadd, 1) := by decide +kernel
theorem dX2_work_95 : decode cX2_work 95 = .ok (.iastore, 1) := by decide +kernel
theorem dX2_work_96 : decode cX2_work 96 = .ok (.aload_n 0, 1) := by decide +kernel
theorem dX2_work_97 : decode cX2_work 97 = .ok (.getfield 42, 3) := by decide +kernel
theorem dX2_work_100 : decode cX2_work 100 = .ok (.ifCond .ne 15, 3) := by decide +kernel
theorem dX2_work_103 : decode cX2_work 103 = .ok (.aload_n 0, 1) := by decide +kernel
theorem dX2_work_104 : decode cX2_work 104 = .ok (.aload 6, 2) := by decide +kernel
theorem dX2_work_106 : decode cX2_work 106 = .ok (.getfield 57, 3) := by decide +kernel
theorem dX2_work_109 : decode cX2_work 109 = .ok (.iload 7, 2) := by decide +kernel
theorem dX2_work_111 : decode cX2_work 111 = .ok (.iaload, 1) := by decide +kernel
theorem dX2_work_112 : decode cX2_work 112 = .ok (.putfield 60, 3) := by decide +kernel
theorem dX2_work_115 : decode cX2_work 115 = .ok (.aload 6, 2) := by decide +kernel
theorem dX2_work_117 : decode cX2_work 117 = .ok (.getfield 50, 3) := by decide +kernel
theorem dX2_work_120 : decode cX2_work 120 = .ok (.iload 7, 2) := by decide +kernel
theorem dX2_work_122 : decode cX2_work 122 = .ok (.iaload, 1) := by decide +kernel
theorem dX2_work_123 : decode cX2_work 123 = .ok (.istore 9, 2) := by decide +kernel
theorem dX2_work_125 : decode cX2_work 125 = .ok (.iload 9, 2) := by decide +kernel
theorem dX2_work_127 : decode cX2_work 127 = .ok (.bipush 9, 2) := by decide +kernel
theorem dX2_work_129 : decode cX2_work 129 = .ok (.if_icmp .ne 29, 3) := by decide +kernel
theorem dX2_work_132 : decode cX2_work 132 = .ok (.aload_n 0, 1) := by decide +kernel
theorem dX2_work_133 : decode cX2_work 133 = .ok (.aload_n 2, 1) := by decide +kernel
theorem dX2_work_134 : decode cX2_work 134 = .ok (.aload_n 2, 1) := by decide +kernel
theorem dX2_work_135 : decode cX2_work 135 = .ok (.aload 6, 2) := by decide +kernel
theorem dX2_work_137 : decode cX2_work 137 = .ok (.getfield 63, 3) := by decide +kernel
theorem dX2_work_140 : decode cX2_work 140 = .ok (.iload 7, 2) := by decide +kernel
theorem dX2_work_142 : decode cX2_work 142 = .ok (.iaload, 1) := by decide +kernel
theorem dX2_work_143 : decode cX2_work 143 = .ok (.iconst 1, 1) := by decide +kernel
theorem dX2_work_144 : decode cX2_work 144 = .ok (.invokevirtual 66, 3) := by decide +kernel
theorem dX2_work_147 : decode cX2_work 147 = .ok (.invokevirtual 72, 3) := by decide +kernel
theorem dX2_work_150 : decode cX2_work 150 = .ok (.invokevirtual 76, 3) := by decide +kernel
theorem dX2_work_153 : decode cX2_work 153 = .ok (.istore 8, 2) := by decide +kernel
theorem dX2_work_155 : decode cX2_work 155 = .ok (.goto 104, 3) := by decide +kernel
theorem dX2_work_158 : decode cX2_work 158 = .ok (.iload 9, 2) := by decide +kernel
theorem dX2_work_160 : decode cX2_work 160 = .ok (.bipush 21, 2) := by decide +kernel
theorem dX2_work_162 : decode cX2_work 162 = .ok (.if_icmp .lt 21, 3) := by decide +kernel
theorem dX2_work_165 : decode cX2_work 165 = .ok (.aload_n 0, 1) := by decide +kernel
theorem dX2_work_166 : decode cX2_work 166 = .ok (.aload_n 0, 1) := by decide +kernel
theorem dX2_work_167 : decode cX2_work 167 = .ok (.aload 6, 2) := by decide +kernel
theorem dX2_work_169 : decode cX2_work 169 = .ok (.iload 7, 2) := by decide +kernel
theorem dX2_work_171 : decode cX2_work 171 = .ok (.aload_n 2, 1) := by decide +kernel
theorem dX2_work_172 : decode cX2_work 172 = .ok (.invokevirtual 80, 3) := by decide +kernel
theorem dX2_work_175 : decode cX2_work 175 = .ok (.invokevirtual 84, 3) := by decide +kernel
theorem dX2_work_178 : decode cX2_work 178 = .ok (.istore 8, 2) := by decide +kernel
theorem dX2_work_180 : decode cX2_work 180 = .ok (.goto 79, 3) := by decide +kernel
theorem dX2_work_183 : decode cX2_work 183 = .ok (.aload_n 0, 1) := by decide +kernel
theorem dX2_work_184 : decode cX2_work 184 = .ok (.iload 9, 2) := by decide +kernel
theorem dX2_work_186 : decode cX2_work 186 = .ok (.invokevirtual 88, 3) := by decide +kernel
theorem dX2_work_189 : decode cX2_work 189 = .ok (.istore 8, 2) := by decide +kernel
theorem dX2_work_191 : decode cX2_work 191 = .ok (.iload 8, 2) := by decide +kernel
theorem dX2_work_193 : decode cX2_work 193 = .ok (.ifCond .ne 66, 3) := by decide +kernel
theorem dX2_work_196 : decode cX2_work 196 = .ok (.aload_n 0, 1) := by decide +kernel
theorem dX2_work_197 : decode cX2_work 197 = .ok (.iload 9, 2) := by decide +kernel
theorem dX2_work_199 : decode cX2_work 199 = .ok (.aload_n 0, 1) := by decide +kernel
theorem dX2_work_200 : decode cX2_work 200 = .ok (.getfield 13, 3) := by decide +kernel
theorem dX2_work_203 : decode cX2_work 203 = .ok (.aload_n 0, 1) := by decide +kernel
theorem dX2_work_204 : decode cX2_work 204 = .ok (.getfield 35, 3) := by decide +kernel
theorem dX2_work_207 : decode cX2_work 207 = .ok (.iload 9, 2) := by decide +kernel
theorem dX2_work_209 : decode cX2_work 209 = .ok (.invokestatic 92, 3) := by decide +kernel
theorem dX2_work_212 : decode cX2_work 212 = .ok (.isub, 1) := by decide +kernel
theorem dX2_work_213 : decode cX2_work 213 = .ok (.aaload, 1) := by decide +kernel
theorem dX2_work_214 : decode cX2_work 214 = .ok (.aload_n 0, 1) := by decide +kernel
theorem dX2_work_215 : decode cX2_work 215 = .ok (.getfield 13, 3) := by decide +kernel
theorem dX2_work_218 : decode cX2_work 218 = .ok (.aload_n 0, 1) := by decide +kernel
theorem dX2_work_219 : decode cX2_work 219 = .ok (.getfield 35, 3) := by decide +kernel
theorem dX2_work_222 : decode cX2_work 222 = .ok (.iconst 1, 1) := by decide +kernel
theorem dX2_work_223 : decode cX2_work 223 = .ok (.isub, 1) := by decide +kernel
theorem dX2_work_224 : decode cX2_work 224 = .ok (.aaload, 1) := by decide +kernel
theorem dX2_work_225 : decode cX2_work 225 = .ok (.aload 4, 2) := by decide +kernel
theorem dX2_work_227 : decode cX2_work 227 = .ok (.invokevirtual 95, 3) := by decide +kernel
theorem dX2_work_230 : decode cX2_work 230 = .ok (.aload_n 0, 1) := by decide +kernel
theorem dX2_work_231 : decode cX2_work 231 = .ok (.getfield 31, 3) := by decide +kernel
theorem dX2_work_234 : decode cX2_work 234 = .ok (.invokevirtual 99, 3) := by decide +kernel
theorem dX2_work_237 : decode cX2_work 237 = .ok (.ifCond .eq 18, 3) := by decide +kernel
theorem dX2_work_240 : decode cX2_work 240 = .ok (.aload_n 0, 1) := by decide +kernel
theorem dX2_work_241 : decode cX2_work 241 = .ok (.iload 9, 2) := by decide +kernel
theorem dX2_work_243 : decode cX2_work 243 = .ok (.iload 9, 2) := by decide +kernel
theorem dX2_work_245 : decode cX2_work 245 = .ok (.invokestatic 92, 3) := by decide +kernel
theorem dX2_work_248 : decode cX2_work 248 = .ok (.aload_n 3, 1) := by decide +kernel
theorem dX2_work_249 : decode cX2_work 249 = .ok (.invokevirtual 103, 3) := by decide +kernel
theorem dX2_work_252 : decode cX2_work 252 = .ok (.goto 5, 3) := by decide +kernel
theorem dX2_work_255 : decode cX2_work 255 = .ok (.bipush 7, 2) := by decide +kernel
theorem dX2_work_257 : decode cX2_work 257 = .ok (.istore 8, 2) := by decide +kernel
theorem dX2_work_259 : decode cX2_work 259 = .ok (.iload 8, 2) := by decide +kernel
theorem dX2_work_261 : decode cX2_work 261 = .ok (.ifCond .eq 6, 3) := by decide +kernel
theorem dX2_work_264 : decode cX2_work 264 = .ok (.iload 8, 2) := by decide +kernel
theorem dX2_work_266 : decode cX2_work 266 = .ok (.ireturn, 1) := by decide +kernel
theorem dX2_work_267 : decode cX2_work 267 = .ok (.iinc 5 1, 3) := by decide +kernel
theorem dX2_work_270 : decode cX2_work 270 = .ok (.goto (-246), 3) := by decide +kernel
theorem dX2_work_273 : decode cX2_work 273 = .ok (.bipush 8, 2) := by decide +kernel
theorem dX2_work_275 : decode cX2_work 275 = .ok (.ireturn, 1) := by decide +kernel
theorem dX2_begin_0 : decode cX2_begin 0 = .ok (.aload_n 0, 1) := by decide +kernel
theorem dX2_begin_1 : decode cX2_begin 1 = .ok (.getfield 19, 3) := by decide +kernel
theorem dX2_begin_4 : decode cX2_begin 4 = .ok (.aload_n 0, 1) := by decide +kernel
theorem dX2_begin_5 : decode cX2_begin 5 = .ok (.getfield 42, 3) := by decide +kernel
theorem dX2_begin_8 : decode cX2_begin 8 = .ok (.aload_n 1, 1) := by decide +kernel
theorem dX2_begin_9 : decode cX2_begin 9 = .ok (.aastore, 1) := by decide +kernel
theorem dX2_begin_10 : decode cX2_begin 10 = .ok (.aload_n 0, 1) := by decide +kernel
theorem dX2_begin_11 : decode cX2_begin 11 = .ok (.getfield 23, 3) := by decide +kernel
theorem dX2_begin_14 : decode cX2_begin 14 = .ok (.aload_n 0, 1) := by decide +kernel
theorem dX2_begin_15 : decode cX2_begin 15 = .ok (.getfield 42, 3) := by decide +kernel
theorem dX2_begin_18 : decode cX2_begin 18 = .ok (.iconst 0, 1) := by decide +kernel
theorem dX2_begin_19 : decode cX2_begin 19 = .ok (.iastore, 1) := by decide +kernel
theorem dX2_begin_20 : decode cX2_begin 20 = .ok (.aload_n 0, 1) := by decide +kernel
theorem dX2_begin_21 : decode cX2_begin 21 = .ok (.getfield 27, 3) := by decide +kernel
theorem dX2_begin_24 : decode cX2_begin 24 = .ok (.aload_n 0, 1) := by decide +kernel
theorem dX2_begin_25 : decode cX2_begin 25 = .ok (.getfield 42, 3) := by decide +kernel
theorem dX2_begin_28 : decode cX2_begin 28 = .ok (.aload_n 0, 1) := by decide +kernel
theorem dX2_begin_29 : decode cX2_begin 29 = .ok (.getfield 35, 3) := by decide +kernel
theorem dX2_begin_32 : decode cX2_begin 32 = .ok (.iload_n 2, 1) := by decide +kernel
theorem dX2_begin_33 : decode cX2_begin 33 = .ok (.isub, 1) := by decide +kernel
theorem dX2_begin_34 : decode cX2_begin 34 = .ok (.iastore, 1) := by decide +kernel
theorem dX2_begin_35 : decode cX2_begin 35 = .ok (.return_, 1) := by decide +kernel
theorem dX2_valueAt_0 : decode cX2_valueAt 0 = .ok (.aload_n 1, 1) := by decide +kernel
theorem dX2_valueAt_1 : decode cX2_valueAt 1 = .ok (.getfield 63, 3) := by decide +kernel
theorem dX2_valueAt_4 : decode cX2_valueAt 4 = .ok (.iload_n 2, 1) := by decide +kernel
theorem dX2_valueAt_5 : decode cX2_valueAt 5 = .ok (.iaload, 1) := by decide +kernel
theorem dX2_valueAt_6 : decode cX2_valueAt 6 = .ok (.istore 4, 2) := by decide +kernel
theorem dX2_valueAt_8 : decode cX2_valueAt 8 = .ok (.aload_n 1, 1) := by decide +kernel
theorem dX2_valueAt_9 : decode cX2_valueAt 9 = .ok (.getfield 50, 3) := by decide +kernel
theorem dX2_valueAt_12 : decode cX2_valueAt 12 = .ok (.iload_n 2, 1) := by decide +kernel
theorem dX2_valueAt_13 : decode cX2_valueAt 13 = .ok (.iaload, 1) := by decide +kernel
theorem dX2_valueAt_14 : decode cX2_valueAt 14 = .ok (.bipush 21, 2) := by decide +kernel
theorem dX2_valueAt_16 : decode cX2_valueAt 16 = .ok (.if_icmp .ne 30, 3) := by decide +kernel
theorem dX2_valueAt_19 : decode cX2_valueAt 19 = .ok (.iload 4, 2) := by decide +kernel
theorem dX2_valueAt_21 : decode cX2_valueAt 21 = .ok (.ifCond .lt 23, 3) := by decide +kernel
theorem dX2_valueAt_24 : decode cX2_valueAt 24 = .ok (.iload 4, 2) := by decide +kernel
theorem dX2_valueAt_26 : decode cX2_valueAt 26 = .ok (.aload_n 1, 1) := by decide +kernel
theorem dX2_valueAt_27 : decode cX2_valueAt 27 = .ok (.getfield 107, 3) := by decide +kernel
theorem dX2_valueAt_30 : decode cX2_valueAt 30 = .ok (.arraylength, 1) := by decide +kernel
theorem dX2_valueAt_31 : decode cX2_valueAt 31 = .ok (.if_icmp .ge 13, 3) := by decide +kernel
theorem dX2_valueAt_34 : decode cX2_valueAt 34 = .ok (.aload_n 1, 1) := by decide +kernel
theorem dX2_valueAt_35 : decode cX2_valueAt 35 = .ok (.getfield 107, 3) := by decide +kernel
theorem dX2_valueAt_38 : decode cX2_valueAt 38 = .ok (.iload 4, 2) := by decide +kernel
theorem dX2_valueAt_40 : decode cX2_valueAt 40 = .ok (.aaload, 1) := by decide +kernel
theorem dX2_valueAt_41 : decode cX2_valueAt 41 = .ok (.goto 4, 3) := by decide +kernel
theorem dX2_valueAt_44 : decode cX2_valueAt 44 = .ok (.aconst_null, 1) := by decide +kernel
theorem dX2_valueAt_45 : decode cX2_valueAt 45 = .ok (.areturn, 1) := by decide +kernel
theorem dX2_valueAt_46 : decode cX2_valueAt 46 = .ok (.aload_n 1, 1) := by decide +kernel
theorem dX2_valueAt_47 : decode cX2_valueAt 47 = .ok (.getfield 50, 3) := by decide +kernel
theorem dX2_valueAt_50 : decode cX2_valueAt 50 = .ok (.iload_n 2, 1) := by decide +kernel
theorem dX2_valueAt_51 : decode cX2_valueAt 51 = .ok (.iaload, 1) := by decide +kernel
theorem dX2_valueAt_52 : decode cX2_valueAt 52 = .ok (.bipush 23, 2) := by decide +kernel
theorem dX2_valueAt_54 : decode cX2_valueAt 54 = .ok (.if_icmp .ne 43, 3) := by decide +kernel
theorem dX2_valueAt_57 : decode cX2_valueAt 57 = .ok (.aload_n 0, 1) := by decide +kernel
theorem dX2_valueAt_58 : decode cX2_valueAt 58 = .ok (.getfield 27, 3) := by decide +kernel
theorem dX2_valueAt_61 : decode cX2_valueAt 61 = .ok (.aload_n 0, 1) := by decide +kernel
theorem dX2_valueAt_62 : decode cX2_valueAt 62 = .ok (.getfield 42, 3) := by decide +kernel
theorem dX2_valueAt_65 : decode cX2_valueAt 65 = .ok (.iaload, 1) := by decide +kernel
theorem dX2_valueAt_66 : decode cX2_valueAt 66 = .ok (.iload 4, 2) := by decide +kernel
theorem dX2_valueAt_68 : decode cX2_valueAt 68 = .ok (.iadd, 1) := by decide +kernel
theorem dX2_valueAt_69 : decode cX2_valueAt 69 = .ok (.istore 5, 2) := by decide +kernel
theorem dX2_valueAt_71 : decode cX2_valueAt 71 = .ok (.iload 5, 2) := by decide +kernel
theorem dX2_valueAt_73 : decode cX2_valueAt 73 = .ok (.ifCond .lt 22, 3) := by decide +kernel
theorem dX2_valueAt_76 : decode cX2_valueAt 76 = .ok (.iload 5, 2) := by decide +kernel
theorem dX2_valueAt_78 : decode cX2_valueAt 78 = .ok (.aload_n 0, 1) := by decide +kernel
theorem dX2_valueAt_79 : decode cX2_valueAt 79 = .ok (.getfield 35, 3) := by decide +kernel
theorem dX2_valueAt_82 : decode cX2_valueAt 82 = .ok (.if_icmp .ge 13, 3) := by decide +kernel
theorem dX2_valueAt_85 : decode cX2_valueAt 85 = .ok (.aload_n 0, 1) := by decide +kernel
theorem dX2_valueAt_86 : decode cX2_valueAt 86 = .ok (.getfield 13, 3) := by decide +kernel
theorem dX2_valueAt_89 : decode cX2_valueAt 89 = .ok (.iload 5, 2) := by decide +kernel
theorem dX2_valueAt_91 : decode cX2_valueAt 91 = .ok (.aaload, 1) := by decide +kernel
theorem dX2_valueAt_92 : decode cX2_valueAt 92 = .ok (.goto 4, 3) := by decide +kernel
theorem dX2_valueAt_95 : decode cX2_valueAt 95 = .ok (.aconst_null, 1) := by decide +kernel
theorem dX2_valueAt_96 : decode cX2_valueAt 96 = .ok (.areturn, 1) := by decide +kernel
theorem dX2_valueAt_97 : decode cX2_valueAt 97 = .ok (.aload_n 3, 1) := by decide +kernel
theorem dX2_valueAt_98 : decode cX2_valueAt 98 = .ok (.aload_n 3, 1) := by decide +kernel
theorem dX2_valueAt_99 : decode cX2_valueAt 99 = .ok (.iload 4, 2) := by decide +kernel
theorem dX2_valueAt_101 : decode cX2_valueAt 101 = .ok (.iconst 0, 1) := by decide +kernel
theorem dX2_valueAt_102 : decode cX2_valueAt 102 = .ok (.invokevirtual 66, 3) := by decide +kernel
theorem dX2_valueAt_105 : decode cX2_valueAt 105 = .ok (.invokevirtual 72, 3) := by decide +kernel
theorem dX2_valueAt_108 : decode cX2_valueAt 108 = .ok (.astore 5, 2) := by decide +kernel
theorem dX2_valueAt_110 : decode cX2_valueAt 110 = .ok (.aload 5, 2) := by decide +kernel
theorem dX2_valueAt_112 : decode cX2_valueAt 112 = .ok (.ifnonnull 7, 3) := by decide +kernel
theorem dX2_valueAt_115 : decode cX2_valueAt 115 = .ok (.aconst_null, 1) := by decide +kernel
theorem dX2_valueAt_116 : decode cX2_valueAt 116 = .ok (.goto 8, 3) := by decide +kernel
theorem dX2_valueAt_119 : decode cX2_valueAt 119 = .ok (.aload 5, 2) := by decide +kernel
theorem dX2_valueAt_121 : decode cX2_valueAt 121 = .ok (.getfield 110, 3) := by decide +kernel
theorem dX2_valueAt_124 : decode cX2_valueAt 124 = .ok (.areturn, 1) := by decide +kernel
theorem dX2_push_0 : decode cX2_push 0 = .ok (.aload_n 1, 1) := by decide +kernel
theorem dX2_push_1 : decode cX2_push 1 = .ok (.ifnull 15, 3) := by decide +kernel
theorem dX2_push_4 : decode cX2_push 4 = .ok (.aload_n 0, 1) := by decide +kernel
theorem dX2_push_5 : decode cX2_push 5 = .ok (.getfield 35, 3) := by decide +kernel
theorem dX2_push_8 : decode cX2_push 8 = .ok (.aload_n 0, 1) := by decide +kernel
theorem dX2_push_9 : decode cX2_push 9 = .ok (.getfield 13, 3) := by decide +kernel
theorem dX2_push_12 : decode cX2_push 12 = .ok (.arraylength, 1) := by decide +kernel
theorem dX2_push_13 : decode cX2_push 13 = .ok (.if_icmp .lt 6, 3) := by decide +kernel
theorem dX2_push_16 : decode cX2_push 16 = .ok (.bipush 7, 2) := by decide +kernel
theorem dX2_push_18 : decode cX2_push 18 = .ok (.ireturn, 1) := by decide +kernel
theorem dX2_push_19 : decode cX2_push 19 = .ok (.aload_n 0, 1) := by decide +kernel
theorem dX2_push_20 : decode cX2_push 20 = .ok (.getfield 13, 3) := by decide +kernel
theorem dX2_push_23 : decode cX2_push 23 = .ok (.aload_n 0, 1) := by decide +kernel
theorem dX2_push_24 : decode cX2_push 24 = .ok (.getfield 35, 3) := by decide +kernel
theorem dX2_push_27 : decode cX2_push 27 = .ok (.aaload, 1) := by decide +kernel
theorem dX2_push_28 : decode cX2_push 28 = .ok (.ifnonnull 19, 3) := by decide +kernel
theorem dX2_push_31 : decode cX2_push 31 = .ok (.aload_n 0, 1) := by decide +kernel
theorem dX2_push_32 : decode cX2_push 32 = .ok (.getfield 13, 3) := by decide +kernel
theorem dX2_push_35 : decode cX2_push 35 = .ok (.aload_n 0, 1) := by decide +kernel
theorem dX2_push_36 : decode cX2_push 36 = .ok (.getfield 35, 3) := by decide +kernel
theorem dX2_push_39 : decode cX2_push 39 = .ok (.new 11, 3) := by decide +kernel
theorem dX2_push_42 : decode cX2_push 42 = .ok (.dup, 1) := by decide +kernel
theorem dX2_push_43 : decode cX2_push 43 = .ok (.invokespecial 30, 3) := by decide +kernel
theorem dX2_push_46 : decode cX2_push 46 = .ok (.aastore, 1) := by decide +kernel
theorem dX2_push_47 : decode cX2_push 47 = .ok (.aload_n 0, 1) := by decide +kernel
theorem dX2_push_48 : decode cX2_push 48 = .ok (.getfield 13, 3) := by decide +kernel
theorem dX2_push_51 : decode cX2_push 51 = .ok (.aload_n 0, 1) := by decide +kernel
theorem dX2_push_52 : decode cX2_push 52 = .ok (.getfield 35, 3) := by decide +kernel
theorem dX2_push_55 : decode cX2_push 55 = .ok (.aaload, 1) := by decide +kernel
theorem dX2_push_56 : decode cX2_push 56 = .ok (.aload_n 1, 1) := by decide +kernel
theorem dX2_push_57 : decode cX2_push 57 = .ok (.invokevirtual 115, 3) := by decide +kernel
theorem dX2_push_60 : decode cX2_push 60 = .ok (.aload_n 0, 1) := by decide +kernel
theorem dX2_push_61 : decode cX2_push 61 = .ok (.dup, 1) := by decide +kernel
theorem dX2_push_62 : decode cX2_push 62 = .ok (.getfield 35, 3) := by decide +kernel
theorem dX2_push_65 : decode cX2_push 65 = .ok (.iconst 1, 1) := by decide +kernel
theorem dX2_push_66 : decode cX2_push 66 = .ok (.iadd, 1) := by decide +kernel
theorem dX2_push_67 : decode cX2_push 67 = .ok (.putfield 35, 3) := by decide +kernel
theorem dX2_push_70 : decode cX2_push 70 = .ok (.aload_n 0, 1) := by decide +kernel
theorem dX2_push_71 : decode cX2_push 71 = .ok (.getfield 31, 3) := by decide +kernel
theorem dX2_push_74 : decode cX2_push 74 = .ok (.aload_n 1, 1) := by decide +kernel
theorem dX2_push_75 : decode cX2_push 75 = .ok (.invokevirtual 115, 3) := by decide +kernel
theorem dX2_push_78 : decode cX2_push 78 = .ok (.iconst 0, 1) := by decide +kernel
theorem dX2_push_79 : decode cX2_push 79 = .ok (.ireturn, 1) := by decide +kernel
theorem dX2_enter_0 : decode cX2_enter 0 = .ok (.aload_n 1, 1) := by decide +kernel
theorem dX2_enter_1 : decode cX2_enter 1 = .ok (.ifnull 28, 3) := by decide +kernel
theorem dX2_enter_4 : decode cX2_enter 4 = .ok (.aload_n 0, 1) := by decide +kernel
theorem dX2_enter_5 : decode cX2_enter 5 = .ok (.getfield 42, 3) := by decide +kernel
theorem dX2_enter_8 : decode cX2_enter 8 = .ok (.iconst 1, 1) := by decide +kernel
theorem dX2_enter_9 : decode cX2_enter 9 = .ok (.iadd, 1) := by decide +kernel
theorem dX2_enter_10 : decode cX2_enter 10 = .ok (.aload_n 0, 1) := by decide +kernel
theorem dX2_enter_11 : decode cX2_enter 11 = .ok (.getfield 19, 3) := by decide +kernel
theorem dX2_enter_14 : decode cX2_enter 14 = .ok (.arraylength, 1) := by decide +kernel
theorem dX2_enter_15 : decode cX2_enter 15 = .ok (.if_icmp .ge 14, 3) := by decide +kernel
theorem dX2_enter_18 : decode cX2_enter 18 = .ok (.aload_n 1, 1) := by decide +kernel
theorem dX2_enter_19 : decode cX2_enter 19 = .ok (.getfield 119, 3) := by decide +kernel
theorem dX2_enter_22 : decode cX2_enter 22 = .ok (.aload_n 0, 1) := by decide +kernel
theorem dX2_enter_23 : decode cX2_enter 23 = .ok (.getfield 35, 3) := by decide +kernel
theorem dX2_enter_26 : decode cX2_enter 26 = .ok (.if_icmp .le 6, 3) := by decide +kernel
theorem dX2_enter_29 : decode cX2_enter 29 = .ok (.bipush 8, 2) := by decide +kernel
theorem dX2_enter_31 : decode cX2_enter 31 = .ok (.ireturn, 1) := by decide +kernel
theorem dX2_enter_32 : decode cX2_enter 32 = .ok (.aload_n 0, 1) := by decide +kernel
theorem dX2_enter_33 : decode cX2_enter 33 = .ok (.dup, 1) := by decide +kernel
theorem dX2_enter_34 : decode cX2_enter 34 = .ok (.getfield 42, 3) := by decide +kernel
theorem dX2_enter_37 : decode cX2_enter 37 = .ok (.iconst 1, 1) := by decide +kernel
theorem dX2_enter_38 : decode cX2_enter 38 = .ok (.iadd, 1) := by decide +kernel
theorem dX2_enter_39 : decode cX2_enter 39 = .ok (.putfield 42, 3) := by decide +kernel
theorem dX2_enter_42 : decode cX2_enter 42 = .ok (.aload_n 0, 1) := by decide +kernel
theorem dX2_enter_43 : decode cX2_enter 43 = .ok (.aload_n 1, 1) := by decide +kernel
theorem dX2_enter_44 : decode cX2_enter 44 = .ok (.getfield 122, 3) := by decide +kernel
theorem dX2_enter_47 : decode cX2_enter 47 = .ok (.aload_n 1, 1) := by decide +kernel
theorem dX2_enter_48 : decode cX2_enter 48 = .ok (.getfield 119, 3) := by decide +kernel
theorem dX2_enter_51 : decode cX2_enter 51 = .ok (.invokevirtual 45, 3) := by decide +kernel
theorem dX2_enter_54 : decode cX2_enter 54 = .ok (.iconst 0, 1) := by decide +kernel
theorem dX2_enter_55 : decode cX2_enter 55 = .ok (.ireturn, 1) := by decide +kernel
theorem dX2_leave_0 : decode cX2_leave 0 = .ok (.aload_n 0, 1) := by decide +kernel
theorem dX2_leave_1 : decode cX2_leave 1 = .ok (.getfield 39, 3) := by decide +kernel
theorem dX2_leave_4 : decode cX2_leave 4 = .ok (.sipush 200, 3) := by decide +kernel
theorem dX2_leave_7 : decode cX2_leave 7 = .ok (.if_icmp .lt 6, 3) := by decide +kernel
theorem dX2_leave_10 : decode cX2_leave 10 = .ok (.bipush 8, 2) := by decide +kernel
theorem dX2_leave_12 : decode cX2_leave 12 = .ok (.ireturn, 1) := by decide +kernel
theorem dX2_leave_13 : decode cX2_leave 13 = .ok (.aload_n 0, 1) := by decide +kernel
theorem dX2_leave_14 : decode cX2_leave 14 = .ok (.getfield 35, 3) := by decide +kernel
theorem dX2_leave_17 : decode cX2_leave 17 = .ok (.aload_n 0, 1) := by decide +kernel
theorem dX2_leave_18 : decode cX2_leave 18 = .ok (.getfield 27, 3) := by decide +kernel
theorem dX2_leave_21 : decode cX2_leave 21 = .ok (.aload_n 0, 1) := by decide +kernel
theorem dX2_leave_22 : decode cX2_leave 22 = .ok (.getfield 42, 3) := by decide +kernel
theorem dX2_leave_25 : decode cX2_leave 25 = .ok (.iaload, 1) := by decide +kernel
theorem dX2_leave_26 : decode cX2_leave 26 = .ok (.isub, 1) := by decide +kernel
theorem dX2_leave_27 : decode cX2_leave 27 = .ok (.istore_n 2, 1) := by decide +kernel
theorem dX2_leave_28 : decode cX2_leave 28 = .ok (.aload_n 0, 1) := by decide +kernel
theorem dX2_leave_29 : decode cX2_leave 29 = .ok (.dup, 1) := by decide +kernel
theorem dX2_leave_30 : decode cX2_leave 30 = .ok (.getfield 42, 3) := by decide +kernel
theorem dX2_leave_33 : decode cX2_leave 33 = .ok (.iconst 1, 1) := by decide +kernel
theorem dX2_leave_34 : decode cX2_leave 34 = .ok (.isub, 1) := by decide +kernel
theorem dX2_leave_35 : decode cX2_leave 35 = .ok (.putfield 42, 3) := by decide +kernel
theorem dX2_leave_38 : decode cX2_leave 38 = .ok (.aload_n 0, 1) := by decide +kernel
theorem dX2_leave_39 : decode cX2_leave 39 = .ok (.bipush 9, 2) := by decide +kernel
theorem dX2_leave_41 : decode cX2_leave 41 = .ok (.iload_n 2, 1) := by decide +kernel
theorem dX2_leave_42 : decode cX2_leave 42 = .ok (.aload_n 1, 1) := by decide +kernel
theorem dX2_leave_43 : decode cX2_leave 43 = .ok (.invokevirtual 103, 3) := by decide +kernel
theorem dX2_leave_46 : decode cX2_leave 46 = .ok (.ireturn, 1) := by decide +kernel
theorem dX2_finish_0 : decode cX2_finish 0 = .ok (.aload_n 0, 1) := by decide +kernel
theorem dX2_finish_1 : decode cX2_finish 1 = .ok (.dup, 1) := by decide +kernel
theorem dX2_finish_2 : decode cX2_finish 2 = .ok (.getfield 39, 3) := by decide +kernel
theorem dX2_finish_5 : decode cX2_finish 5 = .ok (.iconst 1, 1) := by decide +kernel
theorem dX2_finish_6 : decode cX2_finish 6 = .ok (.iadd, 1) := by decide +kernel
theorem dX2_finish_7 : decode cX2_finish 7 = .ok (.putfield 39, 3) := by decide +kernel
theorem dX2_finish_10 : decode cX2_finish 10 = .ok (.aload_n 3, 1) := by decide +kernel
theorem dX2_finish_11 : decode cX2_finish 11 = .ok (.ifnull 12, 3) := by decide +kernel
theorem dX2_finish_14 : decode cX2_finish 14 = .ok (.aload_n 3, 1) := by decide +kernel
theorem dX2_finish_15 : decode cX2_finish 15 = .ok (.iload_n 1, 1) := by decide +kernel
theorem dX2_finish_16 : decode cX2_finish 16 = .ok (.aload_n 0, 1) := by decide +kernel
theorem dX2_finish_17 : decode cX2_finish 17 = .ok (.getfield 31, 3) := by decide +kernel
theorem dX2_finish_20 : decode cX2_finish 20 = .ok (.invokevirtual 126, 3) := by decide +kernel
theorem dX2_finish_23 : decode cX2_finish 23 = .ok (.aload_n 0, 1) := by decide +kernel
theorem dX2_finish_24 : decode cX2_finish 24 = .ok (.dup, 1) := by decide +kernel
theorem dX2_finish_25 : decode cX2_finish 25 = .ok (.getfield 35, 3) := by decide +kernel
theorem dX2_finish_28 : decode cX2_finish 28 = .ok (.iload_n 2, 1) := by decide +kernel
theorem dX2_finish_29 : decode cX2_finish 29 = .ok (.isub, 1) := by decide +kernel
theorem dX2_finish_30 : decode cX2_finish 30 = .ok (.putfield 35, 3) := by decide +kernel
theorem dX2_finish_33 : decode cX2_finish 33 = .ok (.aload_n 0, 1) := by decide +kernel
theorem dX2_finish_34 : decode cX2_finish 34 = .ok (.aload_n 0, 1) := by decide +kernel
theorem dX2_finish_35 : decode cX2_finish 35 = .ok (.getfield 31, 3) := by decide +kernel
theorem dX2_finish_38 : decode cX2_finish 38 = .ok (.invokevirtual 84, 3) := by decide +kernel
theorem dX2_finish_41 : decode cX2_finish 41 = .ok (.ireturn, 1) := by decide +kernel
theorem dX2_objection_0 : decode cX2_objection 0 = .ok (.aload_n 0, 1) := by decide +kernel
theorem dX2_objection_1 : decode cX2_objection 1 = .ok (.getfield 39, 3) := by decide +kernel
theorem dX2_objection_4 : decode cX2_objection 4 = .ok (.sipush 200, 3) := by decide +kernel
theorem dX2_objection_7 : decode cX2_objection 7 = .ok (.if_icmp .ge 14, 3) := by decide +kernel
theorem dX2_objection_10 : decode cX2_objection 10 = .ok (.aload_n 0, 1) := by decide +kernel
theorem dX2_objection_11 : decode cX2_objection 11 = .ok (.getfield 35, 3) := by decide +kernel
theorem dX2_objection_14 : decode cX2_objection 14 = .ok (.iload_n 1, 1) := by decide +kernel
theorem dX2_objection_15 : decode cX2_objection 15 = .ok (.invokestatic 92, 3) := by decide +kernel
theorem dX2_objection_18 : decode cX2_objection 18 = .ok (.if_icmp .ge 6, 3) := by decide +kernel
theorem dX2_objection_21 : decode cX2_objection 21 = .ok (.bipush 8, 2) := by decide +kernel
theorem dX2_objection_23 : decode cX2_objection 23 = .ok (.ireturn, 1) := by decide +kernel
theorem dX2_objection_24 : decode cX2_objection 24 = .ok (.aload_n 0, 1) := by decide +kernel
theorem dX2_objection_25 : decode cX2_objection 25 = .ok (.getfield 13, 3) := by decide +kernel
theorem dX2_objection_28 : decode cX2_objection 28 = .ok (.aload_n 0, 1) := by decide +kernel
theorem dX2_objection_29 : decode cX2_objection 29 = .ok (.getfield 35, 3) := by decide +kernel
theorem dX2_objection_32 : decode cX2_objection 32 = .ok (.iload_n 1, 1) := by decide +kernel
theorem dX2_objection_33 : decode cX2_objection 33 = .ok (.invokestatic 92, 3) := by decide +kernel
theorem dX2_objection_36 : decode cX2_objection 36 = .ok (.isub, 1) := by decide +kernel
theorem dX2_objection_37 : decode cX2_objection 37 = .ok (.aaload, 1) := by decide +kernel
theorem dX2_objection_38 : decode cX2_objection 38 = .ok (.astore_n 2, 1) := by decide +kernel
theorem dX2_objection_39 : decode cX2_objection 39 = .ok (.aload_n 0, 1) := by decide +kernel
theorem dX2_objection_40 : decode cX2_objection 40 = .ok (.getfield 13, 3) := by decide +kernel
theorem dX2_objection_43 : decode cX2_objection 43 = .ok (.aload_n 0, 1) := by decide +kernel
theorem dX2_objection_44 : decode cX2_objection 44 = .ok (.getfield 35, 3) := by decide +kernel
theorem dX2_objection_47 : decode cX2_objection 47 = .ok (.iconst 1, 1) := by decide +kernel
theorem dX2_objection_48 : decode cX2_objection 48 = .ok (.isub, 1) := by decide +kernel
theorem dX2_objection_49 : decode cX2_objection 49 = .ok (.aaload, 1) := by decide +kernel
theorem dX2_objection_50 : decode cX2_objection 50 = .ok (.astore_n 3, 1) := by decide +kernel
theorem dX2_objection_51 : decode cX2_objection 51 = .ok (.iload_n 1, 1) := by decide +kernel
theorem dX2_objection_52 : decode cX2_objection 52 = .ok (.tableswitch 157 4 11 #[48, 48, 61, 115, 157, 157, 136, 136], 48) := by decide +kernel
theorem dX2_objection_100 : decode cX2_objection 100 = .ok (.aload_n 3, 1) := by decide +kernel
theorem dX2_objection_101 : decode cX2_objection 101 = .ok (.getfield 132, 3) := by decide +kernel
theorem dX2_objection_104 : decode cX2_objection 104 = .ok (.ifCond .ne 7, 3) := by decide +kernel
theorem dX2_objection_107 : decode cX2_objection 107 = .ok (.iconst 5, 1) := by decide +kernel
theorem dX2_objection_108 : decode cX2_objection 108 = .ok (.goto 4, 3) := by decide +kernel
theorem dX2_objection_111 : decode cX2_objection 111 = .ok (.iconst 0, 1) := by decide +kernel
theorem dX2_objection_112 : decode cX2_objection 112 = .ok (.ireturn, 1) := by decide +kernel
theorem dX2_objection_113 : decode cX2_objection 113 = .ok (.aload_n 3, 1) := by decide +kernel
theorem dX2_objection_114 : decode cX2_objection 114 = .ok (.invokevirtual 135, 3) := by decide +kernel
theorem dX2_objection_117 : decode cX2_objection 117 = .ok (.ifCond .eq 27, 3) := by decide +kernel
theorem dX2_objection_120 : decode cX2_objection 120 = .ok (.aload_n 3, 1) := by decide +kernel
theorem dX2_objection_121 : decode cX2_objection 121 = .ok (.getfield 138, 3) := by decide +kernel
theorem dX2_objection_124 : decode cX2_objection 124 = .ok (.getfield 142, 3) := by decide +kernel
theorem dX2_objection_127 : decode cX2_objection 127 = .ok (.iconst 1, 1) := by decide +kernel
theorem dX2_objection_128 : decode cX2_objection 128 = .ok (.if_icmp .gt 16, 3) := by decide +kernel
theorem dX2_objection_131 : decode cX2_objection 131 = .ok (.aload_n 3, 1) := by decide +kernel
theorem dX2_objection_132 : decode cX2_objection 132 = .ok (.getfield 138, 3) := by decide +kernel
theorem dX2_objection_135 : decode cX2_objection 135 = .ok (.iconst 0, 1) := by decide +kernel
theorem dX2_objection_136 : decode cX2_objection 136 = .ok (.invokevirtual 147, 3) := by decide +kernel
theorem dX2_objection_139 : decode cX2_objection 139 = .ok (.bipush 100, 2) := by decide +kernel
theorem dX2_objection_141 : decode cX2_objection 141 = .ok (.if_icmp .le 6, 3) := by decide +kernel
theorem dX2_objection_144 : decode cX2_objection 144 = .ok (.bipush 6, 2) := by decide +kernel
theorem dX2_objection_146 : decode cX2_objection 146 = .ok (.ireturn, 1) := by decide +kernel
theorem dX2_objection_147 : decode cX2_objection 147 = .ok (.aload_n 2, 1) := by decide +kernel
theorem dX2_objection_148 : decode cX2_objection 148 = .ok (.getfield 132, 3) := by decide +kernel
theorem dX2_objection_151 : decode cX2_objection 151 = .ok (.ifCond .ne 14, 3) := by decide +kernel
theorem dX2_objection_154 : decode cX2_objection 154 = .ok (.aload_n 3, 1) := by decide +kernel
theorem dX2_objection_155 : decode cX2_objection 155 = .ok (.getfield 132, 3) := by decide +kernel
theorem dX2_objection_158 : decode cX2_objection 158 = .ok (.ifCond .ge 7, 3) := by decide +kernel
theorem dX2_objection_161 : decode cX2_objection 161 = .ok (.iconst 5, 1) := by decide +kernel
theorem dX2_objection_162 : decode cX2_objection 162 = .ok (.goto 4, 3) := by decide +kernel
theorem dX2_objection_165 : decode cX2_objection 165 = .ok (.iconst 0, 1) := by decide +kernel
theorem dX2_objection_166 : decode cX2_objection 166 = .ok (.ireturn, 1) := by decide +kernel
theorem dX2_objection_167 : decode cX2_objection 167 = .ok (.aload_n 2, 1) := by decide +kernel
theorem dX2_objection_168 : decode cX2_objection 168 = .ok (.invokevirtual 135, 3) := by decide +kernel
theorem dX2_objection_171 : decode cX2_objection 171 = .ok (.ifCond .eq 14, 3) := by decide +kernel
theorem dX2_objection_174 : decode cX2_objection 174 = .ok (.aload_n 2, 1) := by decide +kernel
theorem dX2_objection_175 : decode cX2_objection 175 = .ok (.getfield 132, 3) := by decide +kernel
theorem dX2_objection_178 : decode cX2_objection 178 = .ok (.ifCond .lt 7, 3) := by decide +kernel
theorem dX2_objection_181 : decode cX2_objection 181 = .ok (.iconst 0, 1) := by decide +kernel
theorem dX2_objection_182 : decode cX2_objection 182 = .ok (.goto 5, 3) := by decide +kernel
theorem dX2_objection_185 : decode cX2_objection 185 = .ok (.bipush 6, 2) := by decide +kernel
theorem dX2_objection_187 : decode cX2_objection 187 = .ok (.ireturn, 1) := by decide +kernel
theorem dX2_objection_188 : decode cX2_objection 188 = .ok (.aload_n 2, 1) := by decide +kernel
theorem dX2_objection_189 : decode cX2_objection 189 = .ok (.invokevirtual 135, 3) := by decide +kernel
theorem dX2_objection_192 : decode cX2_objection 192 = .ok (.ifCond .eq 14, 3) := by decide +kernel
theorem dX2_objection_195 : decode cX2_objection 195 = .ok (.aload_n 3, 1) := by decide +kernel
theorem dX2_objection_196 : decode cX2_objection 196 = .ok (.invokevirtual 135, 3) := by decide +kernel
theorem dX2_objection_199 : decode cX2_objection 199 = .ok (.ifCond .eq 7, 3) := by decide +kernel
theorem dX2_objection_202 : decode cX2_objection 202 = .ok (.iconst 0, 1) := by decide +kernel
theorem dX2_objection_203 : decode cX2_objection 203 = .ok (.goto 5, 3) := by decide +kernel
theorem dX2_objection_206 : decode cX2_objection 206 = .ok (.bipush 6, 2) := by decide +kernel
theorem dX2_objection_208 : decode cX2_objection 208 = .ok (.ireturn, 1) := by decide +kernel
theorem dX2_objection_209 : decode cX2_objection 209 = .ok (.iconst 0, 1) := by decide +kernel
theorem dX2_objection_210 : decode cX2_objection 210 = .ok (.ireturn, 1) := by decide +kernel
theorem dX2_calculate_0 : decode cX2_calculate 0 = .ok (.iload_n 1, 1) := by decide +kernel
theorem dX2_calculate_1 : decode cX2_calculate 1 = .ok (.tableswitch 351 1 18 #[87, 87, 111, 125, 144, 167, 193, 206, 351, 245, 259, 273, 273, 273, 206, 287, 310, 310], 87) := by decide +kernel
theorem dX2_calculate_88 : decode cX2_calculate 88 = .ok (.aload 4, 2) := by decide +kernel
theorem dX2_calculate_90 : decode cX2_calculate 90 = .ok (.aload_n 2, 1) := by decide +kernel
theorem dX2_calculate_91 : decode cX2_calculate 91 = .ok (.aload_n 3, 1) := by decide +kernel
theorem dX2_calculate_92 : decode cX2_calculate 92 = .ok (.iload_n 1, 1) := by decide +kernel
theorem dX2_calculate_93 : decode cX2_calculate 93 = .ok (.iconst 2, 1) := by decide +kernel
theorem dX2_calculate_94 : decode cX2_calculate 94 = .ok (.if_icmp .ne 7, 3) := by decide +kernel
theorem dX2_calculate_97 : decode cX2_calculate 97 = .ok (.iconst 1, 1) := by decide +kernel
theorem dX2_calculate_98 : decode cX2_calculate 98 = .ok (.goto 4, 3) := by decide +kernel
theorem dX2_calculate_101 : decode cX2_calculate 101 = .ok (.iconst 0, 1) := by decide +kernel
theorem dX2_calculate_102 : decode cX2_calculate 102 = .ok (.aload_n 0, 1) := by decide +kernel
theorem dX2_calculate_103 : decode cX2_calculate 103 = .ok (.getfield 31, 3) := by decide +kernel
theorem dX2_calculate_106 : decode cX2_calculate 106 = .ok (.invokevirtual 150, 3) := by decide +kernel
theorem dX2_calculate_109 : decode cX2_calculate 109 = .ok (.goto 284, 3) := by decide +kernel
theorem dX2_calculate_112 : decode cX2_calculate 112 = .ok (.aload 4, 2) := by decide +kernel
theorem dX2_calculate_114 : decode cX2_calculate 114 = .ok (.aload_n 2, 1) := by decide +kernel
theorem dX2_calculate_115 : decode cX2_calculate 115 = .ok (.aload_n 3, 1) := by decide +kernel
theorem dX2_calculate_116 : decode cX2_calculate 116 = .ok (.aload_n 0, 1) := by decide +kernel
theorem dX2_calculate_117 : decode cX2_calculate 117 = .ok (.getfield 31, 3) := by decide +kernel
theorem dX2_calculate_120 : decode cX2_calculate 120 = .ok (.invokevirtual 156, 3) := by decide +kernel
theorem dX2_calculate_123 : decode cX2_calculate 123 = .ok (.goto 270, 3) := by decide +kernel
theorem dX2_calculate_126 : decode cX2_calculate 126 = .ok (.aload 4, 2) := by decide +kernel
theorem dX2_calculate_128 : decode cX2_calculate 128 = .ok (.aload_n 2, 1) := by decide +kernel
theorem dX2_calculate_129 : decode cX2_calculate 129 = .ok (.aload 4, 2) := by decide +kernel
theorem dX2_calculate_131 : decode cX2_calculate 131 = .ok (.aload_n 3, 1) := by decide +kernel
theorem dX2_calculate_132 : decode cX2_calculate 132 = .ok (.invokevirtual 160, 3) := by decide +kernel
theorem dX2_calculate_135 : decode cX2_calculate 135 = .ok (.aload_n 0, 1) := by decide +kernel
theorem dX2_calculate_136 : decode cX2_calculate 136 = .ok (.getfield 31, 3) := by decide +kernel
theorem dX2_calculate_139 : decode cX2_calculate 139 = .ok (.invokevirtual 156, 3) := by decide +kernel
theorem dX2_calculate_142 : decode cX2_calculate 142 = .ok (.goto 251, 3) := by decide +kernel
theorem dX2_calculate_145 : decode cX2_calculate 145 = .ok (.aload 4, 2) := by decide +kernel
theorem dX2_calculate_147 : decode cX2_calculate 147 = .ok (.aload_n 2, 1) := by decide +kernel
theorem dX2_calculate_148 : decode cX2_calculate 148 = .ok (.aload_n 3, 1) := by decide +kernel
theorem dX2_calculate_149 : decode cX2_calculate 149 = .ok (.aload_n 0, 1) := by decide +kernel
theorem dX2_calculate_150 : decode cX2_calculate 150 = .ok (.getfield 31, 3) := by decide +kernel
theorem dX2_calculate_153 : decode cX2_calculate 153 = .ok (.invokevirtual 164, 3) := by decide +kernel
theorem dX2_calculate_156 : decode cX2_calculate 156 = .ok (.aload 4, 2) := by decide +kernel
theorem dX2_calculate_158 : decode cX2_calculate 158 = .ok (.aload_n 0, 1) := by decide +kernel
theorem dX2_calculate_159 : decode cX2_calculate 159 = .ok (.getfield 31, 3) := by decide +kernel
theorem dX2_calculate_162 : decode cX2_calculate 162 = .ok (.invokevirtual 167, 3) := by decide +kernel
theorem dX2_calculate_165 : decode cX2_calculate 165 = .ok (.goto 228, 3) := by decide +kernel
theorem dX2_calculate_168 : decode cX2_calculate 168 = .ok (.aload 4, 2) := by decide +kernel
theorem dX2_calculate_170 : decode cX2_calculate 170 = .ok (.aload_n 2, 1) := by decide +kernel
theorem dX2_calculate_171 : decode cX2_calculate 171 = .ok (.aload_n 3, 1) := by decide +kernel
theorem dX2_calculate_172 : decode cX2_calculate 172 = .ok (.getfield 132, 3) := by decide +kernel
theorem dX2_calculate_175 : decode cX2_calculate 175 = .ok (.aload_n 3, 1) := by decide +kernel
theorem dX2_calculate_176 : decode cX2_calculate 176 = .ok (.getfield 138, 3) := by decide +kernel
theorem dX2_calculate_179 : decode cX2_calculate 179 = .ok (.iconst 0, 1) := by decide +kernel
theorem dX2_calculate_180 : decode cX2_calculate 180 = .ok (.invokevirtual 147, 3) := by decide +kernel
theorem dX2_calculate_183 : decode cX2_calculate 183 = .ok (.imul, 1) := by decide +kernel
theorem dX2_calculate_184 : decode cX2_calculate 184 = .ok (.aload_n 0, 1) := by decide +kernel
theorem dX2_calculate_185 : decode cX2_calculate 185 = .ok (.getfield 31, 3) := by decide +kernel
theorem dX2_calculate_188 : decode cX2_calculate 188 = .ok (.invokevirtual 170, 3) := by decide +kernel
theorem dX2_calculate_191 : decode cX2_calculate 191 = .ok (.goto 202, 3) := by decide +kernel
theorem dX2_calculate_194 : decode cX2_calculate 194 = .ok (.aload 4, 2) := by decide +kernel
theorem dX2_calculate_196 : decode cX2_calculate 196 = .ok (.aload_n 2, 1) := by decide +kernel
theorem dX2_calculate_197 : decode cX2_calculate 197 = .ok (.aload_n 0, 1) := by decide +kernel
theorem dX2_calculate_198 : decode cX2_calculate 198 = .ok (.getfield 31, 3) := by decide +kernel
theorem dX2_calculate_201 : decode cX2_calculate 201 = .ok (.invokevirtual 174, 3) := by decide +kernel
theorem dX2_calculate_204 : decode cX2_calculate 204 = .ok (.goto 189, 3) := by decide +kernel
theorem dX2_calculate_207 : decode cX2_calculate 207 = .ok (.aload_n 0, 1) := by decide +kernel
theorem dX2_calculate_208 : decode cX2_calculate 208 = .ok (.getfield 31, 3) := by decide +kernel
theorem dX2_calculate_211 : decode cX2_calculate 211 = .ok (.aload_n 2, 1) := by decide +kernel
theorem dX2_calculate_212 : decode cX2_calculate 212 = .ok (.invokevirtual 115, 3) := by decide +kernel
theorem dX2_calculate_215 : decode cX2_calculate 215 = .ok (.aload_n 0, 1) := by decide +kernel
theorem dX2_calculate_216 : decode cX2_calculate 216 = .ok (.getfield 31, 3) := by decide +kernel
theorem dX2_calculate_219 : decode cX2_calculate 219 = .ok (.iload_n 1, 1) := by decide +kernel
theorem dX2_calculate_220 : decode cX2_calculate 220 = .ok (.bipush 15, 2) := by decide +kernel
theorem dX2_calculate_222 : decode cX2_calculate 222 = .ok (.if_icmp .ne 13, 3) := by decide +kernel
theorem dX2_calculate_225 : decode cX2_calculate 225 = .ok (.aload_n 2, 1) := by decide +kernel
theorem dX2_calculate_226 : decode cX2_calculate 226 = .ok (.getfield 132, 3) := by decide +kernel
theorem dX2_calculate_229 : decode cX2_calculate 229 = .ok (.invokestatic 178, 3) := by decide +kernel
theorem dX2_calculate_232 : decode cX2_calculate 232 = .ok (.goto 8, 3) := by decide +kernel
theorem dX2_calculate_235 : decode cX2_calculate 235 = .ok (.aload_n 2, 1) := by decide +kernel
theorem dX2_calculate_236 : decode cX2_calculate 236 = .ok (.getfield 132, 3) := by decide +kernel
theorem dX2_calculate_239 : decode cX2_calculate 239 = .ok (.ineg, 1) := by decide +kernel
theorem dX2_calculate_240 : decode cX2_calculate 240 = .ok (.putfield 132, 3) := by decide +kernel
theorem dX2_calculate_243 : decode cX2_calculate 243 = .ok (.goto 150, 3) := by decide +kernel
theorem dX2_calculate_246 : decode cX2_calculate 246 = .ok (.aload 4, 2) := by decide +kernel
theorem dX2_calculate_248 : decode cX2_calculate 248 = .ok (.aload_n 2, 1) := by decide +kernel
theorem dX2_calculate_249 : decode cX2_calculate 249 = .ok (.aload_n 3, 1) := by decide +kernel
theorem dX2_calculate_250 : decode cX2_calculate 250 = .ok (.aload_n 0, 1) := by decide +kernel
theorem dX2_calculate_251 : decode cX2_calculate 251 = .ok (.getfield 31, 3) := by decide +kernel
theorem dX2_calculate_254 : decode cX2_calculate 254 = .ok (.invokevirtual 183, 3) := by decide +kernel
theorem dX2_calculate_257 : decode cX2_calculate 257 = .ok (.goto 136, 3) := by decide +kernel
theorem dX2_calculate_260 : decode cX2_calculate 260 = .ok (.aload 4, 2) := by decide +kernel
theorem dX2_calculate_262 : decode cX2_calculate 262 = .ok (.aload_n 2, 1) := by decide +kernel
theorem dX2_calculate_263 : decode cX2_calculate 263 = .ok (.aload_n 3, 1) := by decide +kernel
theorem dX2_calculate_264 : decode cX2_calculate 264 = .ok (.aload_n 0, 1) := by decide +kernel
theorem dX2_calculate_265 : decode cX2_calculate 265 = .ok (.getfield 31, 3) := by decide +kernel
theorem dX2_calculate_268 : decode cX2_calculate 268 = .ok (.invokevirtual 186, 3) := by decide +kernel
theorem dX2_calculate_271 : decode cX2_calculate 271 = .ok (.goto 122, 3) := by decide +kernel
theorem dX2_calculate_274 : decode cX2_calculate 274 = .ok (.aload 4, 2) := by decide +kernel
theorem dX2_calculate_276 : decode cX2_calculate 276 = .ok (.aload_n 2, 1) := by decide +kernel
theorem dX2_calculate_277 : decode cX2_calculate 277 = .ok (.iload_n 1, 1) := by decide +kernel
theorem dX2_calculate_278 : decode cX2_calculate 278 = .ok (.aload_n 0, 1) := by decide +kernel
theorem dX2_calculate_279 : decode cX2_calculate 279 = .ok (.getfield 31, 3) := by decide +kernel
theorem dX2_calculate_282 : decode cX2_calculate 282 = .ok (.invokevirtual 189, 3) := by decide +kernel
theorem dX2_calculate_285 : decode cX2_calculate 285 = .ok (.goto 108, 3) := by decide +kernel
theorem dX2_calculate_288 : decode cX2_calculate 288 = .ok (.aload 4, 2) := by decide +kernel
theorem dX2_calculate_290 : decode cX2_calculate 290 = .ok (.aload_n 2, 1) := by decide +kernel
theorem dX2_calculate_291 : decode cX2_calculate 291 = .ok (.aload_n 3, 1) := by decide +kernel
theorem dX2_calculate_292 : decode cX2_calculate 292 = .ok (.aload_n 0, 1) := by decide +kernel
theorem dX2_calculate_293 : decode cX2_calculate 293 = .ok (.getfield 31, 3) := by decide +kernel
theorem dX2_calculate_296 : decode cX2_calculate 296 = .ok (.invokevirtual 192, 3) := by decide +kernel
theorem dX2_calculate_299 : decode cX2_calculate 299 = .ok (.aload 4, 2) := by decide +kernel
theorem dX2_calculate_301 : decode cX2_calculate 301 = .ok (.aload_n 0, 1) := by decide +kernel
theorem dX2_calculate_302 : decode cX2_calculate 302 = .ok (.getfield 31, 3) := by decide +kernel
theorem dX2_calculate_305 : decode cX2_calculate 305 = .ok (.invokevirtual 167, 3) := by decide +kernel
theorem dX2_calculate_308 : decode cX2_calculate 308 = .ok (.goto 85, 3) := by decide +kernel
theorem dX2_calculate_311 : decode cX2_calculate 311 = .ok (.aload_n 0, 1) := by decide +kernel
theorem dX2_calculate_312 : decode cX2_calculate 312 = .ok (.getfield 31, 3) := by decide +kernel
theorem dX2_calculate_315 : decode cX2_calculate 315 = .ok (.iload_n 1, 1) := by decide +kernel
theorem dX2_calculate_316 : decode cX2_calculate 316 = .ok (.bipush 17, 2) := by decide +kernel
theorem dX2_calculate_318 : decode cX2_calculate 318 = .ok (.if_icmp .ne 10, 3) := by decide +kernel
theorem dX2_calculate_321 : decode cX2_calculate 321 = .ok (.aload_n 2, 1) := by decide +kernel
theorem dX2_calculate_322 : decode cX2_calculate 322 = .ok (.getfield 138, 3) := by decide +kernel
theorem dX2_calculate_325 : decode cX2_calculate 325 = .ok (.goto 7, 3) := by decide +kernel
theorem dX2_calculate_328 : decode cX2_calculate 328 = .ok (.aload_n 2, 1) := by decide +kernel
theorem dX2_calculate_329 : decode cX2_calculate 329 = .ok (.getfield 195, 3) := by decide +kernel
theorem dX2_calculate_332 : decode cX2_calculate 332 = .ok (.iload_n 1, 1) := by decide +kernel
theorem dX2_calculate_333 : decode cX2_calculate 333 = .ok (.bipush 17, 2) := by decide +kernel
theorem dX2_calculate_335 : decode cX2_calculate 335 = .ok (.if_icmp .ne 10, 3) := by decide +kernel
theorem dX2_calculate_338 : decode cX2_calculate 338 = .ok (.aload_n 2, 1) := by decide +kernel
theorem dX2_calculate_339 : decode cX2_calculate 339 = .ok (.getfield 132, 3) := by decide +kernel
theorem dX2_calculate_342 : decode cX2_calculate 342 = .ok (.goto 4, 3) := by decide +kernel
theorem dX2_calculate_345 : decode cX2_calculate 345 = .ok (.iconst 1, 1) := by decide +kernel
theorem dX2_calculate_346 : decode cX2_calculate 346 = .ok (.invokevirtual 198, 3) := by decide +kernel
theorem dX2_calculate_349 : decode cX2_calculate 349 = .ok (.goto 44, 3) := by decide +kernel
theorem dX2_calculate_352 : decode cX2_calculate 352 = .ok (.aload_n 0, 1) := by decide +kernel
theorem dX2_calculate_353 : decode cX2_calculate 353 = .ok (.getfield 31, 3) := by decide +kernel
theorem dX2_calculate_356 : decode cX2_calculate 356 = .ok (.aload 4, 2) := by decide +kernel
theorem dX2_calculate_358 : decode cX2_calculate 358 = .ok (.aload_n 2, 1) := by decide +kernel
theorem dX2_calculate_359 : decode cX2_calculate 359 = .ok (.aload_n 3, 1) := by decide +kernel
theorem dX2_calculate_360 : decode cX2_calculate 360 = .ok (.invokevirtual 202, 3) := by decide +kernel
theorem dX2_calculate_363 : decode cX2_calculate 363 = .ok (.ifCond .ge 7, 3) := by decide +kernel
theorem dX2_calculate_366 : decode cX2_calculate 366 = .ok (.iconst 1, 1) := by decide +kernel
theorem dX2_calculate_367 : decode cX2_calculate 367 = .ok (.goto 4, 3) := by decide +kernel
theorem dX2_calculate_370 : decode cX2_calculate 370 = .ok (.iconst 0, 1) := by decide +kernel
theorem dX2_calculate_371 : decode cX2_calculate 371 = .ok (.iload_n 1, 1) := by decide +kernel
theorem dX2_calculate_372 : decode cX2_calculate 372 = .ok (.bipush 19, 2) := by decide +kernel
theorem dX2_calculate_374 : decode cX2_calculate 374 = .ok (.if_icmp .ne 7, 3) := by decide +kernel
theorem dX2_calculate_377 : decode cX2_calculate 377 = .ok (.iconst 1, 1) := by decide +kernel
theorem dX2_calculate_378 : decode cX2_calculate 378 = .ok (.goto 4, 3) := by decide +kernel
theorem dX2_calculate_381 : decode cX2_calculate 381 = .ok (.iconst 0, 1) := by decide +kernel
theorem dX2_calculate_382 : decode cX2_calculate 382 = .ok (.if_icmp .ne 7, 3) := by decide +kernel
theorem dX2_calculate_385 : decode cX2_calculate 385 = .ok (.aload_n 2, 1) := by decide +kernel
theorem dX2_calculate_386 : decode cX2_calculate 386 = .ok (.goto 4, 3) := by decide +kernel
theorem dX2_calculate_389 : decode cX2_calculate 389 = .ok (.aload_n 3, 1) := by decide +kernel
theorem dX2_calculate_390 : decode cX2_calculate 390 = .ok (.invokevirtual 115, 3) := by decide +kernel
theorem dX2_calculate_393 : decode cX2_calculate 393 = .ok (.return_, 1) := by decide +kernel
theorem dX3_init_0 : decode cX3_init 0 = .ok (.aload_n 0, 1) := by decide +kernel
theorem dX3_init_1 : decode cX3_init 1 = .ok (.invokespecial 1, 3) := by decide +kernel
theorem dX3_init_4 : decode cX3_init 4 = .ok (.aload_n 0, 1) := by decide +kernel
theorem dX3_init_5 : decode cX3_init 5 = .ok (.iconst 4, 1) := by decide +kernel
theorem dX3_init_6 : decode cX3_init 6 = .ok (.newarray .int, 2) := by decide +kernel
theorem dX3_init_8 : decode cX3_init 8 = .ok (.putfield 7, 3) := by decide +kernel
theorem dX3_init_11 : decode cX3_init 11 = .ok (.return_, 1) := by decide +kernel
theorem dX3_isZero_0 : decode cX3_isZero 0 = .ok (.aload_n 0, 1) := by decide +kernel
theorem dX3_isZero_1 : decode cX3_isZero 1 = .ok (.getfield 13, 3) := by decide +kernel
theorem dX3_isZero_4 : decode cX3_isZero 4 = .ok (.ifCond .ne 7, 3) := by decide +kernel
theorem dX3_isZero_7 : decode cX3_isZero 7 = .ok (.iconst 1, 1) := by decide +kernel
theorem dX3_isZero_8 : decode cX3_isZero 8 = .ok (.goto 4, 3) := by decide +kernel
theorem dX3_isZero_11 : decode cX3_isZero 11 = .ok (.iconst 0, 1) := by decide +kernel
theorem dX3_isZero_12 : decode cX3_isZero 12 = .ok (.ireturn, 1) := by decide +kernel
theorem dX3_isOne_0 : decode cX3_isOne 0 = .ok (.aload_n 0, 1) := by decide +kernel
theorem dX3_isOne_1 : decode cX3_isOne 1 = .ok (.getfield 13, 3) := by decide +kernel
theorem dX3_isOne_4 : decode cX3_isOne 4 = .ok (.iconst 1, 1) := by decide +kernel
theorem dX3_isOne_5 : decode cX3_isOne 5 = .ok (.if_icmp .ne 17, 3) := by decide +kernel
theorem dX3_isOne_8 : decode cX3_isOne 8 = .ok (.aload_n 0, 1) := by decide +kernel
theorem dX3_isOne_9 : decode cX3_isOne 9 = .ok (.getfield 7, 3) := by decide +kernel
theorem dX3_isOne_12 : decode cX3_isOne 12 = .ok (.iconst 0, 1) := by decide +kernel
theorem dX3_isOne_13 : decode cX3_isOne 13 = .ok (.iaload, 1) := by decide +kernel
theorem dX3_isOne_14 : decode cX3_isOne 14 = .ok (.iconst 1, 1) := by decide +kernel
theorem dX3_isOne_15 : decode cX3_isOne 15 = .ok (.if_icmp .ne 7, 3) := by decide +kernel
theorem dX3_isOne_18 : decode cX3_isOne 18 = .ok (.iconst 1, 1) := by decide +kernel
theorem dX3_isOne_19 : decode cX3_isOne 19 = .ok (.goto 4, 3) := by decide +kernel
theorem dX3_isOne_22 : decode cX3_isOne 22 = .ok (.iconst 0, 1) := by decide +kernel
theorem dX3_isOne_23 : decode cX3_isOne 23 = .ok (.ireturn, 1) := by decide +kernel
theorem dX3_fits_0 : decode cX3_fits 0 = .ok (.aload_n 0, 1) := by decide +kernel
theorem dX3_fits_1 : decode cX3_fits 1 = .ok (.getfield 13, 3) := by decide +kernel
theorem dX3_fits_4 : decode cX3_fits 4 = .ok (.iconst 4, 1) := by decide +kernel
theorem dX3_fits_5 : decode cX3_fits 5 = .ok (.if_icmp .lt 23, 3) := by decide +kernel
theorem dX3_fits_8 : decode cX3_fits 8 = .ok (.aload_n 0, 1) := by decide +kernel
theorem dX3_fits_9 : decode cX3_fits 9 = .ok (.getfield 13, 3) := by decide +kernel
theorem dX3_fits_12 : decode cX3_fits 12 = .ok (.iconst 4, 1) := by decide +kernel
theorem dX3_fits_13 : decode cX3_fits 13 = .ok (.if_icmp .ne 19, 3) := by decide +kernel
theorem dX3_fits_16 : decode cX3_fits 16 = .ok (.aload_n 0, 1) := by decide +kernel
theorem dX3_fits_17 : decode cX3_fits 17 = .ok (.getfield 7, 3) := by decide +kernel
theorem dX3_fits_20 : decode cX3_fits 20 = .ok (.iconst 3, 1) := by decide +kernel
theorem dX3_fits_21 : decode cX3_fits 21 = .ok (.iaload, 1) := by decide +kernel
theorem dX3_fits_22 : decode cX3_fits 22 = .ok (.sipush 1000, 3) := by decide +kernel
theorem dX3_fits_25 : decode cX3_fits 25 = .ok (.if_icmp .ge 7, 3) := by decide +kernel
theorem dX3_fits_28 : decode cX3_fits 28 = .ok (.iconst 1, 1) := by decide +kernel
theorem dX3_fits_29 : decode cX3_fits 29 = .ok (.goto 4, 3) := by decide +kernel
theorem dX3_fits_32 : decode cX3_fits 32 = .ok (.iconst 0, 1) := by decide +kernel
theorem dX3_fits_33 : decode cX3_fits 33 = .ok (.ireturn, 1) := by decide +kernel
theorem dX3_isLong_0 : decode cX3_isLong 0 = .ok (.aload_n 0, 1) := by decide +kernel
theorem dX3_isLong_1 : decode cX3_isLong 1 = .ok (.getfield 13, 3) := by decide +kernel
theorem dX3_isLong_4 : decode cX3_isLong 4 = .ok (.iconst 2, 1) := by decide +kernel
theorem dX3_isLong_5 : decode cX3_isLong 5 = .ok (.if_icmp .gt 7, 3) := by decide +kernel
theorem dX3_isLong_8 : decode cX3_isLong 8 = .ok (.iconst 1, 1) := by decide +kernel
theorem dX3_isLong_9 : decode cX3_isLong 9 = .ok (.goto 4, 3) := by decide +kernel
theorem dX3_isLong_12 : decode cX3_isLong 12 = .ok (.iconst 0, 1) := by decide +kernel
theorem dX3_isLong_13 : decode cX3_isLong 13 = .ok (.ireturn, 1) := by decide +kernel
theorem dX3_asLong_0 : decode cX3_asLong 0 = .ok (.aload_n 0, 1) := by decide +kernel
theorem dX3_asLong_1 : decode cX3_asLong 1 = .ok (.getfield 13, 3) := by decide +kernel
theorem dX3_asLong_4 : decode cX3_asLong 4 = .ok (.iconst 1, 1) := by decide +kernel
theorem dX3_asLong_5 : decode cX3_asLong 5 = .ok (.if_icmp .le 13, 3) := by decide +kernel
theorem dX3_asLong_8 : decode cX3_asLong 8 = .ok (.aload_n 0, 1) := by decide +kernel
theorem dX3_asLong_9 : decode cX3_asLong 9 = .ok (.getfield 7, 3) := by decide +kernel
theorem dX3_asLong_12 : decode cX3_asLong 12 = .ok (.iconst 1, 1) := by decide +kernel
theorem dX3_asLong_13 : decode cX3_asLong 13 = .ok (.iaload, 1) := by decide +kernel
theorem dX3_asLong_14 : decode cX3_asLong 14 = .ok (.i2l, 1) := by decide +kernel
theorem dX3_asLong_15 : decode cX3_asLong 15 = .ok (.goto 4, 3) := by decide +kernel
theorem dX3_asLong_18 : decode cX3_asLong 18 = .ok (.lconst 0, 1) := by decide +kernel
theorem dX3_asLong_19 : decode cX3_asLong 19 = .ok (.lstore_n 1, 1) := by decide +kernel
theorem dX3_asLong_20 : decode cX3_asLong 20 = .ok (.lload_n 1, 1) := by decide +kernel
theorem dX3_asLong_21 : decode cX3_asLong 21 = .ok (.ldc2_w 17, 3) := by decide +kernel
theorem dX3_asLong_24 : decode cX3_asLong 24 = .ok (.lmul, 1) := by decide +kernel
theorem dX3_asLong_25 : decode cX3_asLong 25 = .ok (.aload_n 0, 1) := by decide +kernel
theorem dX3_asLong_26 : decode cX3_asLong 26 = .ok (.getfield 13, 3) := by decide +kernel
theorem dX3_asLong_29 : decode cX3_asLong 29 = .ok (.ifCond .le 12, 3) := by decide +kernel
theorem dX3_asLong_32 : decode cX3_asLong 32 = .ok (.aload_n 0, 1) := by decide +kernel
theorem dX3_asLong_33 : decode cX3_asLong 33 = .ok (.getfield 7, 3) := by decide +kernel
theorem dX3_asLong_36 : decode cX3_asLong 36 = .ok (.iconst 0, 1) := by decide +kernel
theorem dX3_asLong_37 : decode cX3_asLong 37 = .ok (.iaload, 1) := by decide +kernel
theorem dX3_asLong_38 : decode cX3_asLong 38 = .ok (.goto 4, 3) := by decide +kernel
theorem dX3_asLong_41 : decode cX3_asLong 41 = .ok (.iconst 0, 1) := by decide +kernel
theorem dX3_asLong_42 : decode cX3_asLong 42 = .ok (.i2l, 1) := by decide +kernel
theorem dX3_asLong_43 : decode cX3_asLong 43 = .ok (.ladd, 1) := by decide +kernel
theorem dX3_asLong_44 : decode cX3_asLong 44 = .ok (.lreturn, 1) := by decide +kernel
theorem dX3_isMultiple_0 : decode cX3_isMultiple 0 = .ok (.aload_n 0, 1) := by decide +kernel
theorem dX3_isMultiple_1 : decode cX3_isMultiple 1 = .ok (.getfield 13, 3) := by decide +kernel
theorem dX3_isMultiple_4 : decode cX3_isMultiple 4 = .ok (.ifCond .eq 23, 3) := by decide +kernel
theorem dX3_isMultiple_7 : decode cX3_isMultiple 7 = .ok (.aload_n 0, 1) := by decide +kernel
theorem dX3_isMultiple_8 : decode cX3_isMultiple 8 = .ok (.getfield 7, 3) := by decide +kernel
theorem dX3_isMultiple_11 : decode cX3_isMultiple 11 = .ok (.iconst 0, 1) := by decide +kernel
theorem dX3_isMultiple_12 : decode cX3_isMultiple 12 = .ok (.iaload, 1) := by decide +kernel
theorem dX3_isMultiple_13 : decode cX3_isMultiple 13 = .ok (.iload_n 1, 1) := by decide +kernel
theorem dX3_isMultiple_14 : decode cX3_isMultiple 14 = .ok (.iconst 2, 1) := by decide +kernel
theorem dX3_isMultiple_15 : decode cX3_isMultiple 15 = .ok (.if_icmp .ne 7, 3) := by decide +kernel
theorem dX3_isMultiple_18 : decode cX3_isMultiple 18 = .ok (.iconst 2, 1) := by decide +kernel
theorem dX3_isMultiple_19 : decode cX3_isMultiple 19 = .ok (.goto 4, 3) := by decide +kernel
theorem dX3_isMultiple_22 : decode cX3_isMultiple 22 = .ok (.iconst 5, 1) := by decide +kernel
theorem dX3_isMultiple_23 : decode cX3_isMultiple 23 = .ok (.irem, 1) := by decide +kernel
theorem dX3_isMultiple_24 : decode cX3_isMultiple 24 = .ok (.ifCond .ne 7, 3) := by decide +kernel
theorem dX3_isMultiple_27 : decode cX3_isMultiple 27 = .ok (.iconst 1, 1) := by decide +kernel
theorem dX3_isMultiple_28 : decode cX3_isMultiple 28 = .ok (.goto 4, 3) := by decide +kernel
theorem dX3_isMultiple_31 : decode cX3_isMultiple 31 = .ok (.iconst 0, 1) := by decide +kernel
theorem dX3_isMultiple_32 : decode cX3_isMultiple 32 = .ok (.ireturn, 1) := by decide +kernel
theorem dX3_setSmall_0 : decode cX3_setSmall 0 = .ok (.aload_n 0, 1) := by decide +kernel
theorem dX3_setSmall_1 : decode cX3_setSmall 1 = .ok (.getfield 7, 3) := by decide +kernel
theorem dX3_setSmall_4 : decode cX3_setSmall 4 = .ok (.iconst 0, 1) := by decide +kernel
theorem dX3_setSmall_5 : decode cX3_setSmall 5 = .ok (.lload_n 1, 1) := by decide +kernel
theorem dX3_setSmall_6 : decode cX3_setSmall 6 = .ok (.ldc2_w 17, 3) := by decide +kernel
theorem dX3_setSmall_9 : decode cX3_setSmall 9 = .ok (.lrem, 1) := by decide +kernel
theorem dX3_setSmall_10 : decode cX3_setSmall 10 = .ok (.l2i, 1) := by decide +kernel
theorem dX3_setSmall_11 : decode cX3_setSmall 11 = .ok (.iastore, 1) := by decide +kernel
theorem dX3_setSmall_12 : decode cX3_setSmall 12 = .ok (.aload_n 0, 1) := by decide +kernel
theorem dX3_setSmall_13 : decode cX3_setSmall 13 = .ok (.getfield 7, 3) := by decide +kernel
theorem dX3_setSmall_16 : decode cX3_setSmall 16 = .ok (.iconst 1, 1) := by decide +kernel
theorem dX3_setSmall_17 : decode cX3_setSmall 17 = .ok (.lload_n 1, 1) := by decide +kernel
theorem dX3_setSmall_18 : decode cX3_setSmall 18 = .ok (.ldc2_w 17, 3) := by decide +kernel
theorem dX3_setSmall_21 : decode cX3_setSmall 21 = .ok (.ldiv, 1) := by decide +kernel
theorem dX3_setSmall_22 : decode cX3_setSmall 22 = .ok (.l2i, 1) := by decide +kernel
theorem dX3_setSmall_23 : decode cX3_setSmall 23 = .ok (.iastore, 1) := by decide +kernel
theorem dX3_setSmall_24 : decode cX3_setSmall 24 = .ok (.aload_n 0, 1) := by decide +kernel
theorem dX3_setSmall_25 : decode cX3_setSmall 25 = .ok (.aload_n 0, 1) := by decide +kernel
theorem dX3_setSmall_26 : decode cX3_setSmall 26 = .ok (.getfield 7, 3) := by decide +kernel
theorem dX3_setSmall_29 : decode cX3_setSmall 29 = .ok (.iconst 1, 1) := by decide +kernel
theorem dX3_setSmall_30 : decode cX3_setSmall 30 = .ok (.iaload, 1) := by decide +kernel
theorem dX3_setSmall_31 : decode cX3_setSmall 31 = .ok (.ifCond .eq 7, 3) := by decide +kernel
theorem dX3_setSmall_34 : decode cX3_setSmall 34 = .ok (.iconst 2, 1) := by decide +kernel
theorem dX3_setSmall_35 : decode cX3_setSmall 35 = .ok (.goto 17, 3) := by decide +kernel
theorem dX3_setSmall_38 : decode cX3_setSmall 38 = .ok (.aload_n 0, 1) := by decide +kernel
theorem dX3_setSmall_39 : decode cX3_setSmall 39 = .ok (.getfield 7, 3) := by decide +kernel
theorem dX3_setSmall_42 : decode cX3_setSmall 42 = .ok (.iconst 0, 1) := by decide +kernel
theorem dX3_setSmall_43 : decode cX3_setSmall 43 = .ok (.iaload, 1) := by decide +kernel
theorem dX3_setSmall_44 : decode cX3_setSmall 44 = .ok (.ifCond .eq 7, 3) := by decide +kernel
theorem dX3_setSmall_47 : decode cX3_setSmall 47 = .ok (.iconst 1, 1) := by decide +kernel
theorem dX3_setSmall_48 : decode cX3_setSmall 48 = .ok (.goto 4, 3) := by decide +kernel
theorem dX3_setSmall_51 : decode cX3_setSmall 51 = .ok (.iconst 0, 1) := by decide +kernel
theorem dX3_setSmall_52 : decode cX3_setSmall 52 = .ok (.putfield 13, 3) := by decide +kernel
theorem dX3_setSmall_55 : decode cX3_setSmall 55 = .ok (.return_, 1) := by decide +kernel
theorem dX3_setTo_0 : decode cX3_setTo 0 = .ok (.aload_n 0, 1) := by decide +kernel
theorem dX3_setTo_1 : decode cX3_setTo 1 = .ok (.getfield 7, 3) := by decide +kernel
theorem dX3_setTo_4 : decode cX3_setTo 4 = .ok (.arraylength, 1) := by decide +kernel
theorem dX3_setTo_5 : decode cX3_setTo 5 = .ok (.aload_n 1, 1) := by decide +kernel
theorem dX3_setTo_6 : decode cX3_setTo 6 = .ok (.getfield 13, 3) := by decide +kernel
theorem dX3_setTo_9 : decode cX3_setTo 9 = .ok (.if_icmp .ge 15, 3) := by decide +kernel
theorem dX3_setTo_12 : decode cX3_setTo 12 = .ok (.aload_n 0, 1) := by decide +kernel
theorem dX3_setTo_13 : decode cX3_setTo 13 = .ok (.aload_n 1, 1) := by decide +kernel
theorem dX3_setTo_14 : decode cX3_setTo 14 = .ok (.getfield 13, 3) := by decide +kernel
theorem dX3_setTo_17 : decode cX3_setTo 17 = .ok (.iconst 2, 1) := by decide +kernel
theorem dX3_setTo_18 : decode cX3_setTo 18 = .ok (.imul, 1) := by decide +kernel
theorem dX3_setTo_19 : decode cX3_setTo 19 = .ok (.newarray .int, 2) := by decide +kernel
theorem dX3_setTo_21 : decode cX3_setTo 21 = .ok (.putfield 7, 3) := by decide +kernel
theorem dX3_setTo_24 : decode cX3_setTo 24 = .ok (.iconst 0, 1) := by decide +kernel
theorem dX3_setTo_25 : decode cX3_setTo 25 = .ok (.istore_n 2, 1) := by decide +kernel
theorem dX3_setTo_26 : decode cX3_setTo 26 = .ok (.iload_n 2, 1) := by decide +kernel
theorem dX3_setTo_27 : decode cX3_setTo 27 = .ok (.aload_n 1, 1) := by decide +kernel
theorem dX3_setTo_28 : decode cX3_setTo 28 = .ok (.getfield 13, 3) := by decide +kernel
theorem dX3_setTo_31 : decode cX3_setTo 31 = .ok (.if_icmp .ge 21, 3) := by decide +kernel
theorem dX3_setTo_34 : decode cX3_setTo 34 = .ok (.aload_n 0, 1) := by decide +kernel
theorem dX3_setTo_35 : decode cX3_setTo 35 = .ok (.getfield 7, 3) := by decide +kernel
theorem dX3_setTo_38 : decode cX3_setTo 38 = .ok (.iload_n 2, 1) := by decide +kernel
theorem dX3_setTo_39 : decode cX3_setTo 39 = .ok (.aload_n 1, 1) := by decide +kernel
theorem dX3_setTo_40 : decode cX3_setTo 40 = .ok (.getfield 7, 3) := by decide +kernel
theorem dX3_setTo_43 : decode cX3_setTo 43 = .ok (.iload_n 2, 1) := by decide +kernel
theorem dX3_setTo_44 : decode cX3_setTo 44 = .ok (.iaload, 1) := by decide +kernel
theorem dX3_setTo_45 : decode cX3_setTo 45 = .ok (.iastore, 1) := by decide +kernel
theorem dX3_setTo_46 : decode cX3_setTo 46 = .ok (.iinc 2 1, 3) := by decide +kernel
theorem dX3_setTo_49 : decode cX3_setTo 49 = .ok (.goto (-23), 3) := by decide +kernel
theorem dX3_setTo_52 : decode cX3_setTo 52 = .ok (.aload_n 0, 1) := by decide +kernel
theorem dX3_setTo_53 : decode cX3_setTo 53 = .ok (.aload_n 1, 1) := by decide +kernel
theorem dX3_setTo_54 : decode cX3_setTo 54 = .ok (.getfield 13, 3) := by decide +kernel
theorem dX3_setTo_57 : decode cX3_setTo 57 = .ok (.putfield 13, 3) := by decide +kernel
theorem dX3_setTo_60 : decode cX3_setTo 60 = .ok (.return_, 1) := by decide +kernel
theorem dX3_trim_0 : decode cX3_trim 0 = .ok (.aload_n 0, 1) := by decide +kernel
theorem dX3_trim_1 : decode cX3_trim 1 = .ok (.getfield 13, 3) := by decide +kernel
theorem dX3_trim_4 : decode cX3_trim 4 = .ok (.ifCond .le 30, 3) := by decide +kernel
theorem dX3_trim_7 : decode cX3_trim 7 = .ok (.aload_n 0, 1) := by decide +kernel
theorem dX3_trim_8 : decode cX3_trim 8 = .ok (.getfield 7, 3) := by decide +kernel
theorem dX3_trim_11 : decode cX3_trim 11 = .ok (.aload_n 0, 1) := by decide +kernel
theorem dX3_trim_12 : decode cX3_trim 12 = .ok (.getfield 13, 3) := by decide +kernel
theorem dX3_trim_15 : decode cX3_trim 15 = .ok (.iconst 1, 1) := by decide +kernel
theorem dX3_trim_16 : decode cX3_trim 16 = .ok (.isub, 1) := by decide +kernel
theorem dX3_trim_17 : decode cX3_trim 17 = .ok (.iaload, 1) := by decide +kernel
theorem dX3_trim_18 : decode cX3_trim 18 = .ok (.ifCond .ne 16, 3) := by decide +kernel
theorem dX3_trim_21 : decode cX3_trim 21 = .ok (.aload_n 0, 1) := by decide +kernel
theorem dX3_trim_22 : decode cX3_trim 22 = .ok (.dup, 1) := by decide +kernel
theorem dX3_trim_23 : decode cX3_trim 23 = .ok (.getfield 13, 3) := by decide +kernel
theorem dX3_trim_26 : decode cX3_trim 26 = .ok (.iconst 1, 1) := by decide +kernel
theorem dX3_trim_27 : decode cX3_trim 27 = .ok (.isub, 1) := by decide +kernel
theorem dX3_trim_28 : decode cX3_trim 28 = .ok (.putfield 13, 3) := by decide +kernel
theorem dX3_trim_31 : decode cX3_trim 31 = .ok (.goto (-31), 3) := by decide +kernel
theorem dX3_trim_34 : decode cX3_trim 34 = .ok (.return_, 1) := by decide +kernel
theorem dX3_against_0 : decode cX3_against 0 = .ok (.aload_n 0, 1) := by decide +kernel
theorem dX3_against_1 : decode cX3_against 1 = .ok (.getfield 13, 3) := by decide +kernel
theorem dX3_against_4 : decode cX3_against 4 = .ok (.aload_n 1, 1) := by decide +kernel
theorem dX3_against_5 : decode cX3_against 5 = .ok (.getfield 13, 3) := by decide +kernel
theorem dX3_against_8 : decode cX3_against 8 = .ok (.if_icmp .eq 20, 3) := by decide +kernel
theorem dX3_against_11 : decode cX3_against 11 = .ok (.aload_n 0, 1) := by decide +kernel
theorem dX3_against_12 : decode cX3_against 12 = .ok (.getfield 13, 3) := by decide +kernel
theorem dX3_against_15 : decode cX3_against 15 = .ok (.aload_n 1, 1) := by decide +kernel
theorem dX3_against_16 : decode cX3_against 16 = .ok (.getfield 13, 3) := by decide +kernel
theorem dX3_against_19 : decode cX3_against 19 = .ok (.if_icmp .ge 7, 3) := by decide +kernel
theorem dX3_against_22 : decode cX3_against 22 = .ok (.iconst (-1), 1) := by decide +kernel
theorem dX3_against_23 : decode cX3_against 23 = .ok (.goto 4, 3) := by decide +kernel
theorem dX3_against_26 : decode cX3_against 26 = .ok (.iconst 1, 1) := by decide +kernel
theorem dX3_against_27 : decode cX3_against 27 = .ok (.ireturn, 1) := by decide +kernel
theorem dX3_against_28 : decode cX3_against 28 = .ok (.aload_n 0, 1) := by decide +kernel
theorem dX3_against_29 : decode cX3_against 29 = .ok (.getfield 13, 3) := by decide +kernel
theorem dX3_against_32 : decode cX3_against 32 = .ok (.iconst 1, 1) := by decide +kernel
theorem dX3_against_33 : decode cX3_against 33 = .ok (.isub, 1) := by decide +kernel
theorem dX3_against_34 : decode cX3_against 34 = .ok (.istore_n 2, 1) := by decide +kernel
theorem dX3_against_35 : decode cX3_against 35 = .ok (.iload_n 2, 1) := by decide +kernel
theorem dX3_against_36 : decode cX3_against 36 = .ok (.ifCond .lt 45, 3) := by decide +kernel
theorem dX3_against_39 : decode cX3_against 39 = .ok (.aload_n 0, 1) := by decide +kernel
theorem dX3_against_40 : decode cX3_against 40 = .ok (.getfield 7, 3) := by decide +kernel
theorem dX3_against_43 : decode cX3_against 43 = .ok (.iload_n 2, 1) := by decide +kernel
theorem dX3_against_44 : decode cX3_against 44 = .ok (.iaload, 1) := by decide +kernel
theorem dX3_against_45 : decode cX3_against 45 = .ok (.aload_n 1, 1) := by decide +kernel
theorem dX3_against_46 : decode cX3_against 46 = .ok (.getfield 7, 3) := by decide +kernel
theorem dX3_against_49 : decode cX3_against 49 = .ok (.iload_n 2, 1) := by decide +kernel
theorem dX3_against_50 : decode cX3_against 50 = .ok (.iaload, 1) := by decide +kernel
theorem dX3_against_51 : decode cX3_against 51 = .ok (.if_icmp .eq 24, 3) := by decide +kernel
theorem dX3_against_54 : decode cX3_against 54 = .ok (.aload_n 0, 1) := by decide +kernel
theorem dX3_against_55 : decode cX3_against 55 = .ok (.getfield 7, 3) := by decide +kernel
theorem dX3_against_58 : decode cX3_against 58 = .ok (.iload_n 2, 1) := by decide +kernel
theorem dX3_against_59 : decode cX3_against 59 = .ok (.iaload, 1) := by decide +kernel
theorem dX3_against_60 : decode cX3_against 60 = .ok (.aload_n 1, 1) := by decide +kernel
theorem dX3_against_61 : decode cX3_against 61 = .ok (.getfield 7, 3) := by decide +kernel
theorem dX3_against_64 : decode cX3_against 64 = .ok (.iload_n 2, 1) := by decide +kernel
theorem dX3_against_65 : decode cX3_against 65 = .ok (.iaload, 1) := by decide +kernel
theorem dX3_against_66 : decode cX3_against 66 = .ok (.if_icmp .ge 7, 3) := by decide +kernel
theorem dX3_against_69 : decode cX3_against 69 = .ok (.iconst (-1), 1) := by decide +kernel
theorem dX3_against_70 : decode cX3_against 70 = .ok (.goto 4, 3) := by decide +kernel
theorem dX3_against_73 : decode cX3_against 73 = .ok (.iconst 1, 1) := by decide +kernel
theorem dX3_against_74 : decode cX3_against 74 = .ok (.ireturn, 1) := by decide +kernel
theorem dX3_against_75 : decode cX3_against 75 = .ok (.iinc 2 (-1), 3) := by decide +kernel
theorem dX3_against_78 : decode cX3_against 78 = .ok (.goto (-43), 3) := by decide +kernel
theorem dX3_against_81 : decode cX3_against 81 = .ok (.iconst 0, 1) := by decide +kernel
theorem dX3_against_82 : decode cX3_against 82 = .ok (.ireturn, 1) := by decide +kernel
theorem dX3_limb_0 : decode cX3_limb 0 = .ok (.iload_n 1, 1) := by decide +kernel
theorem dX3_limb_1 : decode cX3_limb 1 = .ok (.ifCond .lt 20, 3) := by decide +kernel
theorem dX3_limb_4 : decode cX3_limb 4 = .ok (.iload_n 1, 1) := by decide +kernel
theorem dX3_limb_5 : decode cX3_limb 5 = .ok (.aload_n 0, 1) := by decide +kernel
theorem dX3_limb_6 : decode cX3_limb 6 = .ok (.getfield 13, 3) := by decide +kernel
theorem dX3_limb_9 : decode cX3_limb 9 = .ok (.if_icmp .ge 12, 3) := by decide +kernel
theorem dX3_limb_12 : decode cX3_limb 12 = .ok (.aload_n 0, 1) := by decide +kernel
theorem dX3_limb_13 : decode cX3_limb 13 = .ok (.getfield 7, 3) := by decide +kernel
theorem dX3_limb_16 : decode cX3_limb 16 = .ok (.iload_n 1, 1) := by decide +kernel
theorem dX3_limb_17 : decode cX3_limb 17 = .ok (.iaload, 1) := by decide +kernel
theorem dX3_limb_18 : decode cX3_limb 18 = .ok (.goto 4, 3) := by decide +kernel
theorem dX3_limb_21 : decode cX3_limb 21 = .ok (.iconst 0, 1) := by decide +kernel
theorem dX3_limb_22 : decode cX3_limb 22 = .ok (.ireturn, 1) := by decide +kernel
theorem dX3_plus_0 : decode cX3_plus 0 = .ok (.aload_n 0, 1) := by decide +kernel
theorem dX3_plus_1 : decode cX3_plus 1 = .ok (.getfield 13, 3) := by decide +kernel
theorem dX3_plus_4 : decode cX3_plus 4 = .ok (.aload_n 1, 1) := by decide +kernel
theorem dX3_plus_5 : decode cX3_plus 5 = .ok (.getfield 13, 3) := by decide +kernel
theorem dX3_plus_8 : decode cX3_plus 8 = .ok (.invokestatic 19, 3) := by decide +kernel
theorem dX3_plus_11 : decode cX3_plus 11 = .ok (.istore_n 2, 1) := by decide +kernel
theorem dX3_plus_12 : decode cX3_plus 12 = .ok (.aload_n 0, 1) := by decide +kernel
theorem dX3_plus_13 : decode cX3_plus 13 = .ok (.getfield 7, 3) := by decide +kernel
theorem dX3_plus_16 : decode cX3_plus 16 = .ok (.arraylength, 1) := by decide +kernel
theorem dX3_plus_17 : decode cX3_plus 17 = .ok (.iload_n 2, 1) := by decide +kernel
theorem dX3_plus_18 : decode cX3_plus 18 = .ok (.if_icmp .gt 19, 3) := by decide +kernel
theorem dX3_plus_21 : decode cX3_plus 21 = .ok (.aload_n 0, 1) := by decide +kernel
theorem dX3_plus_22 : decode cX3_plus 22 = .ok (.aload_n 0, 1) := by decide +kernel
theorem dX3_plus_23 : decode cX3_plus 23 = .ok (.getfield 7, 3) := by decide +kernel
theorem dX3_plus_26 : decode cX3_plus 26 = .ok (.iload_n 2, 1) := by decide +kernel
theorem dX3_plus_27 : decode cX3_plus 27 = .ok (.iconst 2, 1) := by decide +kernel
theorem dX3_plus_28 : decode cX3_plus 28 = .ok (.imul, 1) := by decide +kernel
theorem dX3_plus_29 : decode cX3_plus 29 = .ok (.iconst 1, 1) := by decide +kernel
theorem dX3_plus_30 : decode cX3_plus 30 = .ok (.iadd, 1) := by decide +kernel
theorem dX3_plus_31 : decode cX3_plus 31 = .ok (.invokestatic 25, 3) := by decide +kernel
theorem dX3_plus_34 : decode cX3_plus 34 = .ok (.putfield 7, 3) := by decide +kernel
theorem dX3_plus_37 : decode cX3_plus 37 = .ok (.iconst 0, 1) := by decide +kernel
theorem dX3_plus_38 : decode cX3_plus 38 = .ok (.istore_n 3, 1) := by decide +kernel
theorem dX3_plus_39 : decode cX3_plus 39 = .ok (.iconst 0, 1) := by decide +kernel
theorem dX3_plus_40 : decode cX3_plus 40 = .ok (.istore 4, 2) := by decide +kernel
theorem dX3_plus_42 : decode cX3_plus 42 = .ok (.iload 4, 2) := by decide +kernel
theorem dX3_plus_44 : decode cX3_plus 44 = .ok (.iload_n 2, 1) := by decide +kernel
theorem dX3_plus_45 : decode cX3_plus 45 = .ok (.if_icmp .ge 53, 3) := by decide +kernel
theorem dX3_plus_48 : decode cX3_plus 48 = .ok (.aload_n 0, 1) := by decide +kernel
theorem dX3_plus_49 : decode cX3_plus 49 = .ok (.iload 4, 2) := by decide +kernel
theorem dX3_plus_51 : decode cX3_plus 51 = .ok (.invokevirtual 31, 3) := by decide +kernel
theorem dX3_plus_54 : decode cX3_plus 54 = .ok (.aload_n 1, 1) := by decide +kernel
theorem dX3_plus_55 : decode cX3_plus 55 = .ok (.iload 4, 2) := by decide +kernel
theorem dX3_plus_57 : decode cX3_plus 57 = .ok (.invokevirtual 31, 3) := by decide +kernel
theorem dX3_plus_60 : decode cX3_plus 60 = .ok (.iadd, 1) := by decide +kernel
theorem dX3_plus_61 : decode cX3_plus 61 = .ok (.iload_n 3, 1) := by decide +kernel
theorem dX3_plus_62 : decode cX3_plus 62 = .ok (.iadd, 1) := by decide +kernel
theorem dX3_plus_63 : decode cX3_plus 63 = .ok (.istore 5, 2) := by decide +kernel
theorem dX3_plus_65 : decode cX3_plus 65 = .ok (.iload 5, 2) := by decide +kernel
theorem dX3_plus_67 : decode cX3_plus 67 = .ok (.ldc 35, 2) := by decide +kernel
theorem dX3_plus_69 : decode cX3_plus 69 = .ok (.if_icmp .lt 7, 3) := by decide +kernel
theorem dX3_plus_72 : decode cX3_plus 72 = .ok (.iconst 1, 1) := by decide +kernel
theorem dX3_plus_73 : decode cX3_plus 73 = .ok (.goto 4, 3) := by decide +kernel
theorem dX3_plus_76 : decode cX3_plus 76 = .ok (.iconst 0, 1) := by decide +kernel
theorem dX3_plus_77 : decode cX3_plus 77 = .ok (.istore_n 3, 1) := by decide +kernel
theorem dX3_plus_78 : decode cX3_plus 78 = .ok (.aload_n 0, 1) := by decide +kernel
theorem dX3_plus_79 : decode cX3_plus 79 = .ok (.getfield 7, 3) := by decide +kernel
theorem dX3_plus_82 : decode cX3_plus 82 = .ok (.iload 4, 2) := by decide +kernel
theorem dX3_plus_84 : decode cX3_plus 84 = .ok (.iload 5, 2) := by decide +kernel
theorem dX3_plus_86 : decode cX3_plus 86 = .ok (.iload_n 3, 1) := by decide +kernel
theorem dX3_plus_87 : decode cX3_plus 87 = .ok (.ldc 35, 2) := by decide +kernel
theorem dX3_plus_89 : decode cX3_plus 89 = .ok (.imul, 1) := by decide +kernel
theorem dX3_plus_90 : decode cX3_plus 90 = .ok (.isub, 1) := by decide +kernel
theorem dX3_plus_91 : decode cX3_plus 91 = .ok (.iastore, 1) := by decide +kernel
theorem dX3_plus_92 : decode cX3_plus 92 = .ok (.iinc 4 1, 3) := by decide +kernel
theorem dX3_plus_95 : decode cX3_plus 95 = .ok (.goto (-53), 3) := by decide +kernel
theorem dX3_plus_98 : decode cX3_plus 98 = .ok (.aload_n 0, 1) := by decide +kernel
theorem dX3_plus_99 : decode cX3_plus 99 = .ok (.getfield 7, 3) := by decide +kernel
theorem dX3_plus_102 : decode cX3_plus 102 = .ok (.iload_n 2, 1) := by decide +kernel
theorem dX3_plus_103 : decode cX3_plus 103 = .ok (.iload_n 3, 1) := by decide +kernel
theorem dX3_plus_104 : decode cX3_plus 104 = .ok (.iastore, 1) := by decide +kernel
theorem dX3_plus_105 : decode cX3_plus 105 = .ok (.aload_n 0, 1) := by decide +kernel
theorem dX3_plus_106 : decode cX3_plus 106 = .ok (.iload_n 2, 1) := by decide +kernel
theorem dX3_plus_107 : decode cX3_plus 107 = .ok (.iconst 1, 1) := by decide +kernel
theorem dX3_plus_108 : decode cX3_plus 108 = .ok (.iadd, 1) := by decide +kernel
theorem dX3_plus_109 : decode cX3_plus 109 = .ok (.putfield 13, 3) := by decide +kernel
theorem dX3_plus_112 : decode cX3_plus 112 = .ok (.aload_n 0, 1) := by decide +kernel
theorem dX3_plus_113 : decode cX3_plus 113 = .ok (.invokevirtual 36, 3) := by decide +kernel
theorem dX3_plus_116 : decode cX3_plus 116 = .ok (.return_, 1) := by decide +kernel
theorem dX3_minus_0 : decode cX3_minus 0 = .ok (.iconst 0, 1) := by decide +kernel
theorem dX3_minus_1 : decode cX3_minus 1 = .ok (.istore_n 2, 1) := by decide +kernel
theorem dX3_minus_2 : decode cX3_minus 2 = .ok (.iconst 0, 1) := by decide +kernel
theorem dX3_minus_3 : decode cX3_minus 3 = .ok (.istore_n 3, 1) := by decide +kernel
theorem dX3_minus_4 : decode cX3_minus 4 = .ok (.iload_n 3, 1) := by decide +kernel
theorem dX3_minus_5 : decode cX3_minus 5 = .ok (.aload_n 0, 1) := by decide +kernel
theorem dX3_minus_6 : decode cX3_minus 6 = .ok (.getfield 13, 3) := by decide +kernel
theorem dX3_minus_9 : decode cX3_minus 9 = .ok (.if_icmp .ge 49, 3) := by decide +kernel
theorem dX3_minus_12 : decode cX3_minus 12 = .ok (.aload_n 0, 1) := by decide +kernel
theorem dX3_minus_13 : decode cX3_minus 13 = .ok (.getfield 7, 3) := by decide +kernel
theorem dX3_minus_16 : decode cX3_minus 16 = .ok (.iload_n 3, 1) := by decide +kernel
theorem dX3_minus_17 : decode cX3_minus 17 = .ok (.iaload, 1) := by decide +kernel
theorem dX3_minus_18 : decode cX3_minus 18 = .ok (.aload_n 1, 1) := by decide +kernel
theorem dX3_minus_19 : decode cX3_minus 19 = .ok (.iload_n 3, 1) := by decide +kernel
theorem dX3_minus_20 : decode cX3_minus 20 = .ok (.invokevirtual 31, 3) := by decide +kernel
theorem dX3_minus_23 : decode cX3_minus 23 = .ok (.isub, 1) := by decide +kernel
theorem dX3_minus_24 : decode cX3_minus 24 = .ok (.iload_n 2, 1) := by decide +kernel
theorem dX3_minus_25 : decode cX3_minus 25 = .ok (.isub, 1) := by decide +kernel
theorem dX3_minus_26 : decode cX3_minus 26 = .ok (.istore 4, 2) := by decide +kernel
theorem dX3_minus_28 : decode cX3_minus 28 = .ok (.iload 4, 2) := by decide +kernel
theorem dX3_minus_30 : decode cX3_minus 30 = .ok (.ifCond .ge 7, 3) := by decide +kernel
theorem dX3_minus_33 : decode cX3_minus 33 = .ok (.iconst 1, 1) := by decide +kernel
theorem dX3_minus_34 : decode cX3_minus 34 = .ok (.goto 4, 3) := by decide +kernel
theorem dX3_minus_37 : decode cX3_minus 37 = .ok (.iconst 0, 1) := by decide +kernel
theorem dX3_minus_38 : decode cX3_minus 38 = .ok (.istore_n 2, 1) := by decide +kernel
theorem dX3_minus_39 : decode cX3_minus 39 = .ok (.aload_n 0, 1) := by decide +kernel
theorem dX3_minus_40 : decode cX3_minus 40 = .ok (.getfield 7, 3) := by decide +kernel
theorem dX3_minus_43 : decode cX3_minus 43 = .ok (.iload_n 3, 1) := by decide +kernel
theorem dX3_minus_44 : decode cX3_minus 44 = .ok (.iload 4, 2) := by decide +kernel
theorem dX3_minus_46 : decode cX3_minus 46 = .ok (.iload_n 2, 1) := by decide +kernel
theorem dX3_minus_47 : decode cX3_minus 47 = .ok (.ldc 35, 2) := by decide +kernel
theorem dX3_minus_49 : decode cX3_minus 49 = .ok (.imul, 1) := by decide +kernel
theorem dX3_minus_50 : decode cX3_minus 50 = .ok (.iadd, 1) := by decide +kernel
theorem dX3_minus_51 : decode cX3_minus 51 = .ok (.iastore, 1) := by decide +kernel
theorem dX3_minus_52 : decode cX3_minus 52 = .ok (.iinc 3 1, 3) := by decide +kernel
theorem dX3_minus_55 : decode cX3_minus 55 = .ok (.goto (-51), 3) := by decide +kernel
theorem dX3_minus_58 : decode cX3_minus 58 = .ok (.aload_n 0, 1) := by decide +kernel
theorem dX3_minus_59 : decode cX3_minus 59 = .ok (.invokevirtual 36, 3) := by decide +kernel
theorem dX3_minus_62 : decode cX3_minus 62 = .ok (.return_, 1) := by decide +kernel
theorem dX3_raise_0 : decode cX3_raise 0 = .ok (.iload_n 2, 1) := by decide +kernel
theorem dX3_raise_1 : decode cX3_raise 1 = .ok (.i2l, 1) := by decide +kernel
theorem dX3_raise_2 : decode cX3_raise 2 = .ok (.lstore_n 3, 1) := by decide +kernel
theorem dX3_raise_3 : decode cX3_raise 3 = .ok (.iconst 0, 1) := by decide +kernel
theorem dX3_raise_4 : decode cX3_raise 4 = .ok (.istore 5, 2) := by decide +kernel
theorem dX3_raise_6 : decode cX3_raise 6 = .ok (.iload 5, 2) := by decide +kernel
theorem dX3_raise_8 : decode cX3_raise 8 = .ok (.aload_n 0, 1) := by decide +kernel
theorem dX3_raise_9 : decode cX3_raise 9 = .ok (.getfield 13, 3) := by decide +kernel
theorem dX3_raise_12 : decode cX3_raise 12 = .ok (.if_icmp .ge 42, 3) := by decide +kernel
theorem dX3_raise_15 : decode cX3_raise 15 = .ok (.lload_n 3, 1) := by decide +kernel
theorem dX3_raise_16 : decode cX3_raise 16 = .ok (.aload_n 0, 1) := by decide +kernel
theorem dX3_raise_17 : decode cX3_raise 17 = .ok (.getfield 7, 3) := by decide +kernel
theorem dX3_raise_20 : decode cX3_raise 20 = .ok (.iload 5, 2) := by decide +kernel
theorem dX3_raise_22 : decode cX3_raise 22 = .ok (.iaload, 1) := by decide +kernel
theorem dX3_raise_23 : decode cX3_raise 23 = .ok (.i2l, 1) := by decide +kernel
theorem dX3_raise_24 : decode cX3_raise 24 = .ok (.iload_n 1, 1) := by decide +kernel
theorem dX3_raise_25 : decode cX3_raise 25 = .ok (.i2l, 1) := by decide +kernel
theorem dX3_raise_26 : decode cX3_raise 26 = .ok (.lmul, 1) := by decide +kernel
theorem dX3_raise_27 : decode cX3_raise 27 = .ok (.ladd, 1) := by decide +kernel
theorem dX3_raise_28 : decode cX3_raise 28 = .ok (.lstore_n 3, 1) := by decide +kernel
theorem dX3_raise_29 : decode cX3_raise 29 = .ok (.aload_n 0, 1) := by decide +kernel
theorem dX3_raise_30 : decode cX3_raise 30 = .ok (.getfield 7, 3) := by decide +kernel
theorem dX3_raise_33 : decode cX3_raise 33 = .ok (.iload 5, 2) := by decide +kernel
theorem dX3_raise_35 : decode cX3_raise 35 = .ok (.lload_n 3, 1) := by decide +kernel
theorem dX3_raise_36 : decode cX3_raise 36 = .ok (.ldc2_w 17, 3) := by decide +kernel
theorem dX3_raise_39 : decode cX3_raise 39 = .ok (.lrem, 1) := by decide +kernel
theorem dX3_raise_40 : decode cX3_raise 40 = .ok (.l2i, 1) := by decide +kernel
theorem dX3_raise_41 : decode cX3_raise 41 = .ok (.iastore, 1) := by decide +kernel
theorem dX3_raise_42 : decode cX3_raise 42 = .ok (.lload_n 3, 1) := by decide +kernel
theorem dX3_raise_43 : decode cX3_raise 43 = .ok (.ldc2_w 17, 3) := by decide +kernel
theorem dX3_raise_46 : decode cX3_raise 46 = .ok (.ldiv, 1) := by decide +kernel
theorem dX3_raise_47 : decode cX3_raise 47 = .ok (.lstore_n 3, 1) := by decide +kernel
theorem dX3_raise_48 : decode cX3_raise 48 = .ok (.iinc 5 1, 3) := by decide +kernel
theorem dX3_raise_51 : decode cX3_raise 51 = .ok (.goto (-45), 3) := by decide +kernel
theorem dX3_raise_54 : decode cX3_raise 54 = .ok (.lload_n 3, 1) := by decide +kernel
theorem dX3_raise_55 : decode cX3_raise 55 = .ok (.lconst 0, 1) := by decide +kernel
theorem dX3_raise_56 : decode cX3_raise 56 = .ok (.lcmp, 1) := by decide +kernel
theorem dX3_raise_57 : decode cX3_raise 57 = .ok (.ifCond .le 55, 3) := by decide +kernel
theorem dX3_raise_60 : decode cX3_raise 60 = .ok (.aload_n 0, 1) := by decide +kernel
theorem dX3_raise_61 : decode cX3_raise 61 = .ok (.getfield 7, 3) := by decide +kernel
theorem dX3_raise_64 : decode cX3_raise 64 = .ok (.arraylength, 1) := by decide +kernel
theorem dX3_raise_65 : decode cX3_raise 65 = .ok (.aload_n 0, 1) := by decide +kernel
theorem dX3_raise_66 : decode cX3_raise 66 = .ok (.getfield 13, 3) := by decide +kernel
theorem dX3_raise_69 : decode cX3_raise 69 = .ok (.if_icmp .gt 22, 3) := by decide +kernel
theorem dX3_raise_72 : decode cX3_raise 72 = .ok (.aload_n 0, 1) := by decide +kernel
theorem dX3_raise_73 : decode cX3_raise 73 = .ok (.aload_n 0, 1) := by decide +kernel
theorem dX3_raise_74 : decode cX3_raise 74 = .ok (.getfield 7, 3) := by decide +kernel
theorem dX3_raise_77 : decode cX3_raise 77 = .ok (.aload_n 0, 1) := by decide +kernel
theorem dX3_raise_78 : decode cX3_raise 78 = .ok (.getfield 13, 3) := by decide +kernel
theorem dX3_raise_81 : decode cX3_raise 81 = .ok (.iconst 2, 1) := by decide +kernel
theorem dX3_raise_82 : decode cX3_raise 82 = .ok (.imul, 1) := by decide +kernel
theorem dX3_raise_83 : decode cX3_raise 83 = .ok (.iconst 1, 1) := by decide +kernel
theorem dX3_raise_84 : decode cX3_raise 84 = .ok (.iadd, 1) := by decide +kernel
theorem dX3_raise_85 : decode cX3_raise 85 = .ok (.invokestatic 25, 3) := by decide +kernel
theorem dX3_raise_88 : decode cX3_raise 88 = .ok (.putfield 7, 3) := by decide +kernel
theorem dX3_raise_91 : decode cX3_raise 91 = .ok (.aload_n 0, 1) := by decide +kernel
theorem dX3_raise_92 : decode cX3_raise 92 = .ok (.getfield 7, 3) := by decide +kernel
theorem dX3_raise_95 : decode cX3_raise 95 = .ok (.aload_n 0, 1) := by decide +kernel
theorem dX3_raise_96 : decode cX3_raise 96 = .ok (.getfield 13, 3) := by decide +kernel
theorem dX3_raise_99 : decode cX3_raise 99 = .ok (.lload_n 3, 1) := by decide +kernel
theorem dX3_raise_100 : decode cX3_raise 100 = .ok (.l2i, 1) := by decide +kernel
theorem dX3_raise_101 : decode cX3_raise 101 = .ok (.iastore, 1) := by decide +kernel
theorem dX3_raise_102 : decode cX3_raise 102 = .ok (.aload_n 0, 1) := by decide +kernel
theorem dX3_raise_103 : decode cX3_raise 103 = .ok (.dup, 1) := by decide +kernel
theorem dX3_raise_104 : decode cX3_raise 104 = .ok (.getfield 13, 3) := by decide +kernel
theorem dX3_raise_107 : decode cX3_raise 107 = .ok (.iconst 1, 1) := by decide +kernel
theorem dX3_raise_108 : decode cX3_raise 108 = .ok (.iadd, 1) := by decide +kernel
theorem dX3_raise_109 : decode cX3_raise 109 = .ok (.putfield 13, 3) := by decide +kernel
theorem dX3_raise_112 : decode cX3_raise 112 = .ok (.return_, 1) := by decide +kernel
theorem dX3_lower_0 : decode cX3_lower 0 = .ok (.iload_n 1, 1) := by decide +kernel
theorem dX3_lower_1 : decode cX3_lower 1 = .ok (.iconst 1, 1) := by decide +kernel
theorem dX3_lower_2 : decode cX3_lower 2 = .ok (.if_icmp .ge 5, 3) := by decide +kernel
theorem dX3_lower_5 : decode cX3_lower 5 = .ok (.iconst 0, 1) := by decide +kernel
theorem dX3_lower_6 : decode cX3_lower 6 = .ok (.ireturn, 1) := by decide +kernel
theorem dX3_lower_7 : decode cX3_lower 7 = .ok (.lconst 0, 1) := by decide +kernel
theorem dX3_lower_8 : decode cX3_lower 8 = .ok (.lstore_n 2, 1) := by decide +kernel
theorem dX3_lower_9 : decode cX3_lower 9 = .ok (.aload_n 0, 1) := by decide +kernel
theorem dX3_lower_10 : decode cX3_lower 10 = .ok (.getfield 13, 3) := by decide +kernel
theorem dX3_lower_13 : decode cX3_lower 13 = .ok (.iconst 1, 1) := by decide +kernel
theorem dX3_lower_14 : decode cX3_lower 14 = .ok (.isub, 1) := by decide +kernel
theorem dX3_lower_15 : decode cX3_lower 15 = .ok (.istore 4, 2) := by decide +kernel
theorem dX3_lower_17 : decode cX3_lower 17 = .ok (.iload 4, 2) := by decide +kernel
theorem dX3_lower_19 : decode cX3_lower 19 = .ok (.ifCond .lt 41, 3) := by decide +kernel
theorem dX3_lower_22 : decode cX3_lower 22 = .ok (.lload_n 2, 1) := by decide +kernel
theorem dX3_lower_23 : decode cX3_lower 23 = .ok (.ldc2_w 17, 3) := by decide +kernel
theorem dX3_lower_26 : decode cX3_lower 26 = .ok (.lmul, 1) := by decide +kernel
theorem dX3_lower_27 : decode cX3_lower 27 = .ok (.aload_n 0, 1) := by decide +kernel
theorem dX3_lower_28 : decode cX3_lower 28 = .ok (.getfield 7, 3) := by decide +kernel
theorem dX3_lower_31 : decode cX3_lower 31 = .ok (.iload 4, 2) := by decide +kernel
theorem dX3_lower_33 : decode cX3_lower 33 = .ok (.iaload, 1) := by decide +kernel
theorem dX3_lower_34 : decode cX3_lower 34 = .ok (.i2l, 1) := by decide +kernel
theorem dX3_lower_35 : decode cX3_lower 35 = .ok (.ladd, 1) := by decide +kernel
theorem dX3_lower_36 : decode cX3_lower 36 = .ok (.lstore_n 2, 1) := by decide +kernel
theorem dX3_lower_37 : decode cX3_lower 37 = .ok (.aload_n 0, 1) := by decide +kernel
theorem dX3_lower_38 : decode cX3_lower 38 = .ok (.getfield 7, 3) := by decide +kernel
theorem dX3_lower_41 : decode cX3_lower 41 = .ok (.iload 4, 2) := by decide +kernel
theorem dX3_lower_43 : decode cX3_lower 43 = .ok (.lload_n 2, 1) := by decide +kernel
theorem dX3_lower_44 : decode cX3_lower 44 = .ok (.iload_n 1, 1) := by decide +kernel
theorem dX3_lower_45 : decode cX3_lower 45 = .ok (.i2l, 1) := by decide +kernel
theorem dX3_lower_46 : decode cX3_lower 46 = .ok (.ldiv, 1) := by decide +kernel
theorem dX3_lower_47 : decode cX3_lower 47 = .ok (.l2i, 1) := by decide +kernel
theorem dX3_lower_48 : decode cX3_lower 48 = .ok (.iastore, 1) := by decide +kernel
theorem dX3_lower_49 : decode cX3_lower 49 = .ok (.lload_n 2, 1) := by decide +kernel
theorem dX3_lower_50 : decode cX3_lower 50 = .ok (.iload_n 1, 1) := by decide +kernel
theorem dX3_lower_51 : decode cX3_lower 51 = .ok (.i2l, 1) := by decide +kernel
theorem dX3_lower_52 : decode cX3_lower 52 = .ok (.lrem, 1) := by decide +kernel
theorem dX3_lower_53 : decode cX3_lower 53 = .ok (.lstore_n 2, 1) := by decide +kernel
theorem dX3_lower_54 : decode cX3_lower 54 = .ok (.iinc 4 (-1), 3) := by decide +kernel
theorem dX3_lower_57 : decode cX3_lower 57 = .ok (.goto (-40), 3) := by decide +kernel
theorem dX3_lower_60 : decode cX3_lower 60 = .ok (.aload_n 0, 1) := by decide +kernel
theorem dX3_lower_61 : decode cX3_lower 61 = .ok (.getfield 13, 3) := by decide +kernel
theorem dX3_lower_64 : decode cX3_lower 64 = .ok (.ifCond .le 27, 3) := by decide +kernel
theorem dX3_lower_67 : decode cX3_lower 67 = .ok (.aload_n 0, 1) := by decide +kernel
theorem dX3_lower_68 : decode cX3_lower 68 = .ok (.getfield 7, 3) := by decide +kernel
theorem dX3_lower_71 : decode cX3_lower 71 = .ok (.aload_n 0, 1) := by decide +kernel
theorem dX3_lower_72 : decode cX3_lower 72 = .ok (.getfield 13, 3) := by decide +kernel
theorem dX3_lower_75 : decode cX3_lower 75 = .ok (.iconst 1, 1) := by decide +kernel
theorem dX3_lower_76 : decode cX3_lower 76 = .ok (.isub, 1) := by decide +kernel
theorem dX3_lower_77 : decode cX3_lower 77 = .ok (.iaload, 1) := by decide +kernel
theorem dX3_lower_78 : decode cX3_lower 78 = .ok (.ifCond .ne 13, 3) := by decide +kernel
theorem dX3_lower_81 : decode cX3_lower 81 = .ok (.aload_n 0, 1) := by decide +kernel
theorem dX3_lower_82 : decode cX3_lower 82 = .ok (.dup, 1) := by decide +kernel
theorem dX3_lower_83 : decode cX3_lower 83 = .ok (.getfield 13, 3) := by decide +kernel
theorem dX3_lower_86 : decode cX3_lower 86 = .ok (.iconst 1, 1) := by decide +kernel
theorem dX3_lower_87 : decode cX3_lower 87 = .ok (.isub, 1) := by decide +kernel
theorem dX3_lower_88 : decode cX3_lower 88 = .ok (.putfield 13, 3) := by decide +kernel
theorem dX3_lower_91 : decode cX3_lower 91 = .ok (.lload_n 2, 1) := by decide +kernel
theorem dX3_lower_92 : decode cX3_lower 92 = .ok (.l2i, 1) := by decide +kernel
theorem dX3_lower_93 : decode cX3_lower 93 = .ok (.ireturn, 1) := by decide +kernel
theorem dX3_setProduct_0 : decode cX3_setProduct 0 = .ok (.aload_n 1, 1) := by decide +kernel
theorem dX3_setProduct_1 : decode cX3_setProduct 1 = .ok (.getfield 13, 3) := by decide +kernel
theorem dX3_setProduct_4 : decode cX3_setProduct 4 = .ok (.aload_n 2, 1) := by decide +kernel
theorem dX3_setProduct_5 : decode cX3_setProduct 5 = .ok (.getfield 13, 3) := by decide +kernel
theorem dX3_setProduct_8 : decode cX3_setProduct 8 = .ok (.iadd, 1) := by decide +kernel
theorem dX3_setProduct_9 : decode cX3_setProduct 9 = .ok (.istore_n 3, 1) := by decide +kernel
theorem dX3_setProduct_10 : decode cX3_setProduct 10 = .ok (.aload_n 0, 1) := by decide +kernel
theorem dX3_setProduct_11 : decode cX3_setProduct 11 = .ok (.getfield 7, 3) := by decide +kernel
theorem dX3_setProduct_14 : decode cX3_setProduct 14 = .ok (.arraylength, 1) := by decide +kernel
theorem dX3_setProduct_15 : decode cX3_setProduct 15 = .ok (.iload_n 3, 1) := by decide +kernel
theorem dX3_setProduct_16 : decode cX3_setProduct 16 = .ok (.if_icmp .ge 12, 3) := by decide +kernel
theorem dX3_setProduct_19 : decode cX3_setProduct 19 = .ok (.aload_n 0, 1) := by decide +kernel
theorem dX3_setProduct_20 : decode cX3_setProduct 20 = .ok (.iload_n 3, 1) := by decide +kernel
theorem dX3_setProduct_21 : decode cX3_setProduct 21 = .ok (.iconst 2, 1) := by decide +kernel
theorem dX3_setProduct_22 : decode cX3_setProduct 22 = .ok (.imul, 1) := by decide +kernel
theorem dX3_setProduct_23 : decode cX3_setProduct 23 = .ok (.newarray .int, 2) := by decide +kernel
theorem dX3_setProduct_25 : decode cX3_setProduct 25 = .ok (.putfield 7, 3) := by decide +kernel
theorem dX3_setProduct_28 : decode cX3_setProduct 28 = .ok (.iconst 0, 1) := by decide +kernel
theorem dX3_setProduct_29 : decode cX3_setProduct 29 = .ok (.istore 4, 2) := by decide +kernel
theorem dX3_setProduct_31 : decode cX3_setProduct 31 = .ok (.iload 4, 2) := by decide +kernel
theorem dX3_setProduct_33 : decode cX3_setProduct 33 = .ok (.iload_n 3, 1) := by decide +kernel
theorem dX3_setProduct_34 : decode cX3_setProduct 34 = .ok (.if_icmp .ge 17, 3) := by decide +kernel
theorem dX3_setProduct_37 : decode cX3_setProduct 37 = .ok (.aload_n 0, 1) := by decide +kernel
theorem dX3_setProduct_38 : decode cX3_setProduct 38 = .ok (.getfield 7, 3) := by decide +kernel
theorem dX3_setProduct_41 : decode cX3_setProduct 41 = .ok (.iload 4, 2) := by decide +kernel
theorem dX3_setProduct_43 : decode cX3_setProduct 43 = .ok (.iconst 0, 1) := by decide +kernel
theorem dX3_setProduct_44 : decode cX3_setProduct 44 = .ok (.iastore, 1) := by decide +kernel
theorem dX3_setProduct_45 : decode cX3_setProduct 45 = .ok (.iinc 4 1, 3) := by decide +kernel
theorem dX3_setProduct_48 : decode cX3_setProduct 48 = .ok (.goto (-17), 3) := by decide +kernel
theorem dX3_setProduct_51 : decode cX3_setProduct 51 = .ok (.iconst 0, 1) := by decide +kernel
theorem dX3_setProduct_52 : decode cX3_setProduct 52 = .ok (.istore 4, 2) := by decide +kernel
theorem dX3_setProduct_54 : decode cX3_setProduct 54 = .ok (.iload 4, 2) := by decide +kernel
theorem dX3_setProduct_56 : decode cX3_setProduct 56 = .ok (.aload_n 1, 1) := by decide +kernel
theorem dX3_setProduct_57 : decode cX3_setProduct 57 = .ok (.getfield 13, 3) := by decide +kernel
theorem dX3_setProduct_60 : decode cX3_setProduct 60 = .ok (.if_icmp .ge 104, 3) := by decide +kernel
theorem dX3_setProduct_63 : decode cX3_setProduct 63 = .ok (.lconst 0, 1) := by decide +kernel
theorem dX3_setProduct_64 : decode cX3_setProduct 64 = .ok (.lstore 5, 2) := by decide +kernel
theorem dX3_setProduct_66 : decode cX3_setProduct 66 = .ok (.iconst 0, 1) := by decide +kernel
theorem dX3_setProduct_67 : decode cX3_setProduct 67 = .ok (.istore 7, 2) := by decide +kernel
theorem dX3_setProduct_69 : decode cX3_setProduct 69 = .ok (.iload 7, 2) := by decide +kernel
theorem dX3_setProduct_71 : decode cX3_setProduct 71 = .ok (.aload_n 2, 1) := by decide +kernel
theorem dX3_setProduct_72 : decode cX3_setProduct 72 = .ok (.getfield 13, 3) := by decide +kernel
theorem dX3_setProduct_75 : decode cX3_setProduct 75 = .ok (.if_icmp .ge 68, 3) := by decide +kernel
theorem dX3_setProduct_78 : decode cX3_setProduct 78 = .ok (.lload 5, 2) := by decide +kernel
theorem dX3_setProduct_80 : decode cX3_setProduct 80 = .ok (.aload_n 1, 1) := by decide +kernel
theorem dX3_setProduct_81 : decode cX3_setProduct 81 = .ok (.getfield 7, 3) := by decide +kernel
theorem dX3_setProduct_84 : decode cX3_setProduct 84 = .ok (.iload 4, 2) := by decide +kernel
theorem dX3_setProduct_86 : decode cX3_setProduct 86 = .ok (.iaload, 1) := by decide +kernel
theorem dX3_setProduct_87 : decode cX3_setProduct 87 = .ok (.i2l, 1) := by decide +kernel
theorem dX3_setProduct_88 : decode cX3_setProduct 88 = .ok (.aload_n 2, 1) := by decide +kernel
theorem dX3_setProduct_89 : decode cX3_setProduct 89 = .ok (.getfield 7, 3) := by decide +kernel
theorem dX3_setProduct_92 : decode cX3_setProduct 92 = .ok (.iload 7, 2) := by decide +kernel
theorem dX3_setProduct_94 : decode cX3_setProduct 94 = .ok (.iaload, 1) := by decide +kernel
theorem dX3_setProduct_95 : decode cX3_setProduct 95 = .ok (.i2l, 1) := by decide +kernel
theorem dX3_setProduct_96 : decode cX3_setProduct 96 = .ok (.lmul, 1) := by decide +kernel
theorem dX3_setProduct_97 : decode cX3_setProduct 97 = .ok (.aload_n 0, 1) := by decide +kernel
theorem dX3_setProduct_98 : decode cX3_setProduct 98 = .ok (.getfield 7, 3) := by decide +kernel
theorem dX3_setProduct_101 : decode cX3_setProduct 101 = .ok (.iload 4, 2) := by decide +kernel
theorem dX3_setProduct_103 : decode cX3_setProduct 103 = .ok (.iload 7, 2) := by decide +kernel
theorem dX3_setProduct_105 : decode cX3_setProduct 105 = .ok (.iadd, 1) := by decide +kernel
theorem dX3_setProduct_106 : decode cX3_setProduct 106 = .ok (.iaload, 1) := by decide +kernel
theorem dX3_setProduct_107 : decode cX3_setProduct 107 = .ok (.i2l, 1) := by decide +kernel
theorem dX3_setProduct_108 : decode cX3_setProduct 108 = .ok (.ladd, 1) := by decide +kernel
theorem dX3_setProduct_109 : decode cX3_setProduct 109 = .ok (.ladd, 1) := by decide +kernel
theorem dX3_setProduct_110 : decode cX3_setProduct 110 = .ok (.lstore 5, 2) := by decide +kernel
theorem dX3_setProduct_112 : decode cX3_setProduct 112 = .ok (.aload_n 0, 1) := by decide +kernel
theorem dX3_setProduct_113 : decode cX3_setProduct 113 = .ok (.getfield 7, 3) := by decide +kernel
theorem dX3_setProduct_116 : decode cX3_setProduct 116 = .ok (.iload 4, 2) := by decide +kernel
theorem dX3_setProduct_118 : decode cX3_setProduct 118 = .ok (.iload 7, 2) := by decide +kernel
theorem dX3_setProduct_120 : decode cX3_setProduct 120 = .ok (.iadd, 1) := by decide +kernel
theorem dX3_setProduct_121 : decode cX3_setProduct 121 = .ok (.lload 5, 2) := by decide +kernel
theorem dX3_setProduct_123 : decode cX3_setProduct 123 = .ok (.ldc2_w 17, 3) := by decide +kernel
theorem dX3_setProduct_126 : decode cX3_setProduct 126 = .ok (.lrem, 1) := by decide +kernel
theorem dX3_setProduct_127 : decode cX3_setProduct 127 = .ok (.l2i, 1) := by decide +kernel
theorem dX3_setProduct_128 : decode cX3_setProduct 128 = .ok (.iastore, 1) := by decide +kernel
theorem dX3_setProduct_129 : decode cX3_setProduct 129 = .ok (.lload 5, 2) := by decide +kernel
theorem dX3_setProduct_131 : decode cX3_setProduct 131 = .ok (.ldc2_w 17, 3) := by decide +kernel
theorem dX3_setProduct_134 : decode cX3_setProduct 134 = .ok (.ldiv, 1) := by decide +kernel
theorem dX3_setProduct_135 : decode cX3_setProduct 135 = .ok (.lstore 5, 2) := by decide +kernel
theorem dX3_setProduct_137 : decode cX3_setProduct 137 = .ok (.iinc 7 1, 3) := by decide +kernel
theorem dX3_setProduct_140 : decode cX3_setProduct 140 = .ok (.goto (-71), 3) := by decide +kernel
theorem dX3_setProduct_143 : decode cX3_setProduct 143 = .ok (.aload_n 0, 1) := by decide +kernel
theorem dX3_setProduct_144 : decode cX3_setProduct 144 = .ok (.getfield 7, 3) := by decide +kernel
theorem dX3_setProduct_147 : decode cX3_setProduct 147 = .ok (.iload 4, 2) := by decide +kernel
theorem dX3_setProduct_149 : decode cX3_setProduct 149 = .ok (.aload_n 2, 1) := by decide +kernel
theorem dX3_setProduct_150 : decode cX3_setProduct 150 = .ok (.getfield 13, 3) := by decide +kernel
theorem dX3_setProduct_153 : decode cX3_setProduct 153 = .ok (.iadd, 1) := by decide +kernel
theorem dX3_setProduct_154 : decode cX3_setProduct 154 = .ok (.lload 5, 2) := by decide +kernel
theorem dX3_setProduct_156 : decode cX3_setProduct 156 = .ok (.l2i, 1) := by decide +kernel
theorem dX3_setProduct_157 : decode cX3_setProduct 157 = .ok (.iastore, 1) := by decide +kernel
theorem dX3_setProduct_158 : decode cX3_setProduct 158 = .ok (.iinc 4 1, 3) := by decide +kernel
theorem dX3_setProduct_161 : decode cX3_setProduct 161 = .ok (.goto (-107), 3) := by decide +kernel
theorem dX3_setProduct_164 : decode cX3_setProduct 164 = .ok (.aload_n 0, 1) := by decide +kernel
theorem dX3_setProduct_165 : decode cX3_setProduct 165 = .ok (.iload_n 3, 1) := by decide +kernel
theorem dX3_setProduct_166 : decode cX3_setProduct 166 = .ok (.putfield 13, 3) := by decide +kernel
theorem dX3_setProduct_169 : decode cX3_setProduct 169 = .ok (.aload_n 0, 1) := by decide +kernel
theorem dX3_setProduct_170 : decode cX3_setProduct 170 = .ok (.invokevirtual 36, 3) := by decide +kernel
theorem dX3_setProduct_173 : decode cX3_setProduct 173 = .ok (.return_, 1) := by decide +kernel
theorem dX3_digitCount_0 : decode cX3_digitCount 0 = .ok (.aload_n 0, 1) := by decide +kernel
theorem dX3_digitCount_1 : decode cX3_digitCount 1 = .ok (.getfield 13, 3) := by decide +kernel
theorem dX3_digitCount_4 : decode cX3_digitCount 4 = .ok (.ifCond .ne 5, 3) := by decide +kernel
theorem dX3_digitCount_7 : decode cX3_digitCount 7 = .ok (.iconst 1, 1) := by decide +kernel
theorem dX3_digitCount_8 : decode cX3_digitCount 8 = .ok (.ireturn, 1) := by decide +kernel
theorem dX3_digitCount_9 : decode cX3_digitCount 9 = .ok (.aload_n 0, 1) := by decide +kernel
theorem dX3_digitCount_10 : decode cX3_digitCount 10 = .ok (.getfield 13, 3) := by decide +kernel
theorem dX3_digitCount_13 : decode cX3_digitCount 13 = .ok (.iconst 1, 1) := by decide +kernel
theorem dX3_digitCount_14 : decode cX3_digitCount 14 = .ok (.isub, 1) := by decide +kernel
theorem dX3_digitCount_15 : decode cX3_digitCount 15 = .ok (.bipush 9, 2) := by decide +kernel
theorem dX3_digitCount_17 : decode cX3_digitCount 17 = .ok (.imul, 1) := by decide +kernel
theorem dX3_digitCount_18 : decode cX3_digitCount 18 = .ok (.istore_n 1, 1) := by decide +kernel
theorem dX3_digitCount_19 : decode cX3_digitCount 19 = .ok (.aload_n 0, 1) := by decide +kernel
theorem dX3_digitCount_20 : decode cX3_digitCount 20 = .ok (.getfield 7, 3) := by decide +kernel
theorem dX3_digitCount_23 : decode cX3_digitCount 23 = .ok (.aload_n 0, 1) := by decide +kernel
theorem dX3_digitCount_24 : decode cX3_digitCount 24 = .ok (.getfield 13, 3) := by decide +kernel
theorem dX3_digitCount_27 : decode cX3_digitCount 27 = .ok (.iconst 1, 1) := by decide +kernel
theorem dX3_digitCount_28 : decode cX3_digitCount 28 = .ok (.isub, 1) := by decide +kernel
theorem dX3_digitCount_29 : decode cX3_digitCount 29 = .ok (.iaload, 1) := by decide +kernel
theorem dX3_digitCount_30 : decode cX3_digitCount 30 = .ok (.istore_n 2, 1) := by decide +kernel
theorem dX3_digitCount_31 : decode cX3_digitCount 31 = .ok (.iload_n 2, 1) := by decide +kernel
theorem dX3_digitCount_32 : decode cX3_digitCount 32 = .ok (.ifCond .le 14, 3) := by decide +kernel
theorem dX3_digitCount_35 : decode cX3_digitCount 35 = .ok (.iinc 1 1, 3) := by decide +kernel
theorem dX3_digitCount_38 : decode cX3_digitCount 38 = .ok (.iload_n 2, 1) := by decide +kernel
theorem dX3_digitCount_39 : decode cX3_digitCount 39 = .ok (.bipush 10, 2) := by decide +kernel
theorem dX3_digitCount_41 : decode cX3_digitCount 41 = .ok (.idiv, 1) := by decide +kernel
theorem dX3_digitCount_42 : decode cX3_digitCount 42 = .ok (.istore_n 2, 1) := by decide +kernel
theorem dX3_digitCount_43 : decode cX3_digitCount 43 = .ok (.goto (-12), 3) := by decide +kernel
theorem dX3_digitCount_46 : decode cX3_digitCount 46 = .ok (.iload_n 1, 1) := by decide +kernel
theorem dX3_digitCount_47 : decode cX3_digitCount 47 = .ok (.ireturn, 1) := by decide +kernel
theorem dX3_digitAt_0 : decode cX3_digitAt 0 = .ok (.aload_n 0, 1) := by decide +kernel
theorem dX3_digitAt_1 : decode cX3_digitAt 1 = .ok (.invokevirtual 39, 3) := by decide +kernel
theorem dX3_digitAt_4 : decode cX3_digitAt 4 = .ok (.iconst 1, 1) := by decide +kernel
theorem dX3_digitAt_5 : decode cX3_digitAt 5 = .ok (.isub, 1) := by decide +kernel
theorem dX3_digitAt_6 : decode cX3_digitAt 6 = .ok (.iload_n 1, 1) := by decide +kernel
theorem dX3_digitAt_7 : decode cX3_digitAt 7 = .ok (.isub, 1) := by decide +kernel
theorem dX3_digitAt_8 : decode cX3_digitAt 8 = .ok (.istore_n 2, 1) := by decide +kernel
theorem dX3_digitAt_9 : decode cX3_digitAt 9 = .ok (.aload_n 0, 1) := by decide +kernel
theorem dX3_digitAt_10 : decode cX3_digitAt 10 = .ok (.iload_n 2, 1) := by decide +kernel
theorem dX3_digitAt_11 : decode cX3_digitAt 11 = .ok (.bipush 9, 2) := by decide +kernel
theorem dX3_digitAt_13 : decode cX3_digitAt 13 = .ok (.idiv, 1) := by decide +kernel
theorem dX3_digitAt_14 : decode cX3_digitAt 14 = .ok (.invokevirtual 31, 3) := by decide +kernel
theorem dX3_digitAt_17 : decode cX3_digitAt 17 = .ok (.istore_n 3, 1) := by decide +kernel
theorem dX3_digitAt_18 : decode cX3_digitAt 18 = .ok (.iload_n 2, 1) := by decide +kernel
theorem dX3_digitAt_19 : decode cX3_digitAt 19 = .ok (.bipush 9, 2) := by decide +kernel
theorem dX3_digitAt_21 : decode cX3_digitAt 21 = .ok (.irem, 1) := by decide +kernel
theorem dX3_digitAt_22 : decode cX3_digitAt 22 = .ok (.istore 4, 2) := by decide +kernel
theorem dX3_digitAt_24 : decode cX3_digitAt 24 = .ok (.iload 4, 2) := by decide +kernel
theorem dX3_digitAt_26 : decode cX3_digitAt 26 = .ok (.ifCond .le 14, 3) := by decide +kernel
theorem dX3_digitAt_29 : decode cX3_digitAt 29 = .ok (.iload_n 3, 1) := by decide +kernel
theorem dX3_digitAt_30 : decode cX3_digitAt 30 = .ok (.bipush 10, 2) := by decide +kernel
theorem dX3_digitAt_32 : decode cX3_digitAt 32 = .ok (.idiv, 1) := by decide +kernel
theorem dX3_digitAt_33 : decode cX3_digitAt 33 = .ok (.istore_n 3, 1) := by decide +kernel
theorem dX3_digitAt_34 : decode cX3_digitAt 34 = .ok (.iinc 4 (-1), 3) := by decide +kernel
theorem dX3_digitAt_37 : decode cX3_digitAt 37 = .ok (.goto (-13), 3) := by decide +kernel
theorem dX3_digitAt_40 : decode cX3_digitAt 40 = .ok (.iload_n 3, 1) := by decide +kernel
theorem dX3_digitAt_41 : decode cX3_digitAt 41 = .ok (.bipush 10, 2) := by decide +kernel
theorem dX3_digitAt_43 : decode cX3_digitAt 43 = .ok (.irem, 1) := by decide +kernel
theorem dX3_digitAt_44 : decode cX3_digitAt 44 = .ok (.ireturn, 1) := by decide +kernel
theorem dX4_init_0 : decode cX4_init 0 = .ok (.aload_n 0, 1) := by decide +kernel
theorem dX4_init_1 : decode cX4_init 1 = .ok (.invokespecial 3, 3) := by decide +kernel
theorem dX4_init_4 : decode cX4_init 4 = .ok (.aload_n 0, 1) := by decide +kernel
theorem dX4_init_5 : decode cX4_init 5 = .ok (.sipush 200, 3) := by decide +kernel
theorem dX4_init_8 : decode cX4_init 8 = .ok (.newarray .int, 2) := by decide +kernel
theorem dX4_init_10 : decode cX4_init 10 = .ok (.putfield 9, 3) := by decide +kernel
theorem dX4_init_13 : decode cX4_init 13 = .ok (.aload_n 0, 1) := by decide +kernel
theorem dX4_init_14 : decode cX4_init 14 = .ok (.sipush 201, 3) := by decide +kernel
theorem dX4_init_17 : decode cX4_init 17 = .ok (.newarray .int, 2) := by decide +kernel
theorem dX4_init_19 : decode cX4_init 19 = .ok (.putfield 15, 3) := by decide +kernel
theorem dX4_init_22 : decode cX4_init 22 = .ok (.aload_n 0, 1) := by decide +kernel
theorem dX4_init_23 : decode cX4_init 23 = .ok (.sipush 201, 3) := by decide +kernel
theorem dX4_init_26 : decode cX4_init 26 = .ok (.newarray .int, 2) := by decide +kernel
theorem dX4_init_28 : decode cX4_init 28 = .ok (.putfield 18, 3) := by decide +kernel
theorem dX4_init_31 : decode cX4_init 31 = .ok (.aload_n 0, 1) := by decide +kernel
theorem dX4_init_32 : decode cX4_init 32 = .ok (.sipush 201, 3) := by decide +kernel
theorem dX4_init_35 : decode cX4_init 35 = .ok (.newarray .int, 2) := by decide +kernel
theorem dX4_init_37 : decode cX4_init 37 = .ok (.putfield 21, 3) := by decide +kernel
theorem dX4_init_40 : decode cX4_init 40 = .ok (.aload_n 0, 1) := by decide +kernel
theorem dX4_init_41 : decode cX4_init 41 = .ok (.sipush 200, 3) := by decide +kernel
theorem dX4_init_44 : decode cX4_init 44 = .ok (.newarray .int, 2) := by decide +kernel
theorem dX4_init_46 : decode cX4_init 46 = .ok (.putfield 24, 3) := by decide +kernel
theorem dX4_init_49 : decode cX4_init 49 = .ok (.aload_n 0, 1) := by decide +kernel
theorem dX4_init_50 : decode cX4_init 50 = .ok (.sipush 200, 3) := by decide +kernel
theorem dX4_init_53 : decode cX4_init 53 = .ok (.newarray .int, 2) := by decide +kernel
theorem dX4_init_55 : decode cX4_init 55 = .ok (.putfield 27, 3) := by decide +kernel
theorem dX4_init_58 : decode cX4_init 58 = .ok (.aload_n 0, 1) := by decide +kernel
theorem dX4_init_59 : decode cX4_init 59 = .ok (.sipush 200, 3) := by decide +kernel
theorem dX4_init_62 : decode cX4_init 62 = .ok (.newarray .int, 2) := by decide +kernel
theorem dX4_init_64 : decode cX4_init 64 = .ok (.putfield 30, 3) := by decide +kernel
theorem dX4_init_67 : decode cX4_init 67 = .ok (.aload_n 0, 1) := by decide +kernel
theorem dX4_init_68 : decode cX4_init 68 = .ok (.sipush 200, 3) := by decide +kernel
theorem dX4_init_71 : decode cX4_init 71 = .ok (.newarray .int, 2) := by decide +kernel
theorem dX4_init_73 : decode cX4_init 73 = .ok (.putfield 33, 3) := by decide +kernel
theorem dX4_init_76 : decode cX4_init 76 = .ok (.aload_n 0, 1) := by decide +kernel
theorem dX4_init_77 : decode cX4_init 77 = .ok (.iconst 4, 1) := by decide +kernel
theorem dX4_init_78 : decode cX4_init 78 = .ok (.newarray .int, 2) := by decide +kernel
theorem dX4_init_80 : decode cX4_init 80 = .ok (.putfield 36, 3) := by decide +kernel
theorem dX4_init_83 : decode cX4_init 83 = .ok (.return_, 1) := by decide +kernel
theorem dX4_read_0 : decode cX4_read 0 = .ok (.aload_n 0, 1) := by decide +kernel
theorem dX4_read_1 : decode cX4_read 1 = .ok (.iload_n 2, 1) := by decide +kernel
theorem dX4_read_2 : decode cX4_read 2 = .ok (.aload_n 1, 1) := by decide +kernel
theorem dX4_read_3 : decode cX4_read 3 = .ok (.arraylength, 1) := by decide +kernel
theorem dX4_read_4 : decode cX4_read 4 = .ok (.aload_n 0, 1) := by decide +kernel
theorem dX4_read_5 : decode cX4_read 5 = .ok (.getfield 9, 3) := by decide +kernel
theorem dX4_read_8 : decode cX4_read 8 = .ok (.arraylength, 1) := by decide +kernel
theorem dX4_read_9 : decode cX4_read 9 = .ok (.invokestatic 39, 3) := by decide +kernel
theorem dX4_read_12 : decode cX4_read 12 = .ok (.invokestatic 39, 3) := by decide +kernel
theorem dX4_read_15 : decode cX4_read 15 = .ok (.putfield 45, 3) := by decide +kernel
theorem dX4_read_18 : decode cX4_read 18 = .ok (.iconst 0, 1) := by decide +kernel
theorem dX4_read_19 : decode cX4_read 19 = .ok (.istore 4, 2) := by decide +kernel
theorem dX4_read_21 : decode cX4_read 21 = .ok (.iload 4, 2) := by decide +kernel
theorem dX4_read_23 : decode cX4_read 23 = .ok (.aload_n 0, 1) := by decide +kernel
theorem dX4_read_24 : decode cX4_read 24 = .ok (.getfield 45, 3) := by decide +kernel
theorem dX4_read_27 : decode cX4_read 27 = .ok (.if_icmp .ge 20, 3) := by decide +kernel
theorem dX4_read_30 : decode cX4_read 30 = .ok (.aload_n 0, 1) := by decide +kernel
theorem dX4_read_31 : decode cX4_read 31 = .ok (.getfield 9, 3) := by decide +kernel
theorem dX4_read_34 : decode cX4_read 34 = .ok (.iload 4, 2) := by decide +kernel
theorem dX4_read_36 : decode cX4_read 36 = .ok (.aload_n 1, 1) := by decide +kernel
theorem dX4_read_37 : decode cX4_read 37 = .ok (.iload 4, 2) := by decide +kernel
theorem dX4_read_39 : decode cX4_read 39 = .ok (.iaload, 1) := by decide +kernel
theorem dX4_read_40 : decode cX4_read 40 = .ok (.iastore, 1) := by decide +kernel
theorem dX4_read_41 : decode cX4_read 41 = .ok (.iinc 4 1, 3) := by decide +kernel
theorem dX4_read_44 : decode cX4_read 44 = .ok (.goto (-23), 3) := by decide +kernel
theorem dX4_read_47 : decode cX4_read 47 = .ok (.aload_n 0, 1) := by decide +kernel
theorem dX4_read_48 : decode cX4_read 48 = .ok (.invokevirtual 49, 3) := by decide +kernel
theorem dX4_read_51 : decode cX4_read 51 = .ok (.aload_n 0, 1) := by decide +kernel
theorem dX4_read_52 : decode cX4_read 52 = .ok (.iconst 0, 1) := by decide +kernel
theorem dX4_read_53 : decode cX4_read 53 = .ok (.putfield 52, 3) := by decide +kernel
theorem dX4_read_56 : decode cX4_read 56 = .ok (.aload_n 0, 1) := by decide +kernel
theorem dX4_read_57 : decode cX4_read 57 = .ok (.iconst 0, 1) := by decide +kernel
theorem dX4_read_58 : decode cX4_read 58 = .ok (.putfield 55, 3) := by decide +kernel
theorem dX4_read_61 : decode cX4_read 61 = .ok (.aload_n 0, 1) := by decide +kernel
theorem dX4_read_62 : decode cX4_read 62 = .ok (.iconst 0, 1) := by decide +kernel
theorem dX4_read_63 : decode cX4_read 63 = .ok (.putfield 58, 3) := by decide +kernel
theorem dX4_read_66 : decode cX4_read 66 = .ok (.aload_n 0, 1) := by decide +kernel
theorem dX4_read_67 : decode cX4_read 67 = .ok (.iconst 0, 1) := by decide +kernel
theorem dX4_read_68 : decode cX4_read 68 = .ok (.putfield 61, 3) := by decide +kernel
theorem dX4_read_71 : decode cX4_read 71 = .ok (.aload_n 0, 1) := by decide +kernel
theorem dX4_read_72 : decode cX4_read 72 = .ok (.invokevirtual 64, 3) := by decide +kernel
theorem dX4_read_75 : decode cX4_read 75 = .ok (.ifCond .eq 22, 3) := by decide +kernel
theorem dX4_read_78 : decode cX4_read 78 = .ok (.aload_n 0, 1) := by decide +kernel
theorem dX4_read_79 : decode cX4_read 79 = .ok (.iconst 0, 1) := by decide +kernel
theorem dX4_read_80 : decode cX4_read 80 = .ok (.invokevirtual 68, 3) := by decide +kernel
theorem dX4_read_83 : decode cX4_read 83 = .ok (.ifCond .eq 14, 3) := by decide +kernel
theorem dX4_read_86 : decode cX4_read 86 = .ok (.aload_n 0, 1) := by decide +kernel
theorem dX4_read_87 : decode cX4_read 87 = .ok (.aload_n 0, 1) := by decide +kernel
theorem dX4_read_88 : decode cX4_read 88 = .ok (.getfield 61, 3) := by decide +kernel
theorem dX4_read_91 : decode cX4_read 91 = .ok (.invokevirtual 72, 3) := by decide +kernel
theorem dX4_read_94 : decode cX4_read 94 = .ok (.ifCond .eq 12, 3) := by decide +kernel
theorem dX4_read_97 : decode cX4_read 97 = .ok (.aload_n 0, 1) := by decide +kernel
theorem dX4_read_98 : decode cX4_read 98 = .ok (.aload_n 0, 1) := by decide +kernel
theorem dX4_read_99 : decode cX4_read 99 = .ok (.getfield 61, 3) := by decide +kernel
theorem dX4_read_102 : decode cX4_read 102 = .ok (.invokevirtual 76, 3) := by decide +kernel
theorem dX4_read_105 : decode cX4_read 105 = .ok (.ireturn, 1) := by decide +kernel
theorem dX4_read_106 : decode cX4_read 106 = .ok (.aload_n 0, 1) := by decide +kernel
theorem dX4_read_107 : decode cX4_read 107 = .ok (.new 79, 3) := by decide +kernel
theorem dX4_read_110 : decode cX4_read 110 = .ok (.dup, 1) := by decide +kernel
theorem dX4_read_111 : decode cX4_read 111 = .ok (.aload_n 0, 1) := by decide +kernel
theorem dX4_read_112 : decode cX4_read 112 = .ok (.getfield 24, 3) := by decide +kernel
theorem dX4_read_115 : decode cX4_read 115 = .ok (.aload_n 0, 1) := by decide +kernel
theorem dX4_read_116 : decode cX4_read 116 = .ok (.getfield 52, 3) := by decide +kernel
theorem dX4_read_119 : decode cX4_read 119 = .ok (.invokestatic 81, 3) := by decide +kernel
theorem dX4_read_122 : decode cX4_read 122 = .ok (.aload_n 0, 1) := by decide +kernel
theorem dX4_read_123 : decode cX4_read 123 = .ok (.getfield 27, 3) := by decide +kernel
theorem dX4_read_126 : decode cX4_read 126 = .ok (.aload_n 0, 1) := by decide +kernel
theorem dX4_read_127 : decode cX4_read 127 = .ok (.getfield 52, 3) := by decide +kernel
theorem dX4_read_130 : decode cX4_read 130 = .ok (.invokestatic 81, 3) := by decide +kernel
theorem dX4_read_133 : decode cX4_read 133 = .ok (.aload_n 0, 1) := by decide +kernel
theorem dX4_read_134 : decode cX4_read 134 = .ok (.getfield 30, 3) := by decide +kernel
theorem dX4_read_137 : decode cX4_read 137 = .ok (.aload_n 0, 1) := by decide +kernel
theorem dX4_read_138 : decode cX4_read 138 = .ok (.getfield 52, 3) := by decide +kernel
theorem dX4_read_141 : decode cX4_read 141 = .ok (.invokestatic 81, 3) := by decide +kernel
theorem dX4_read_144 : decode cX4_read 144 = .ok (.aload_n 0, 1) := by decide +kernel
theorem dX4_read_145 : decode cX4_read 145 = .ok (.getfield 33, 3) := by decide +kernel
theorem dX4_read_148 : decode cX4_read 148 = .ok (.aload_n 0, 1) := by decide +kernel
theorem dX4_read_149 : decode cX4_read 149 = .ok (.getfield 52, 3) := by decide +kernel
theorem dX4_read_152 : decode cX4_read 152 = .ok (.invokestatic 81, 3) := by decide +kernel
theorem dX4_read_155 : decode cX4_read 155 = .ok (.aload_n 0, 1) := by decide +kernel
theorem dX4_read_156 : decode cX4_read 156 = .ok (.aload_n 3, 1) := by decide +kernel
theorem dX4_read_157 : decode cX4_read 157 = .ok (.invokevirtual 87, 3) := by decide +kernel
theorem dX4_read_160 : decode cX4_read 160 = .ok (.invokespecial 91, 3) := by decide +kernel
theorem dX4_read_163 : decode cX4_read 163 = .ok (.putfield 94, 3) := by decide +kernel
theorem dX4_read_166 : decode cX4_read 166 = .ok (.iconst (-1), 1) := by decide +kernel
theorem dX4_read_167 : decode cX4_read 167 = .ok (.ireturn, 1) := by decide +kernel
theorem dX4_byteAt_0 : decode cX4_byteAt 0 = .ok (.iload_n 1, 1) := by decide +kernel
theorem dX4_byteAt_1 : decode cX4_byteAt 1 = .ok (.ifCond .lt 20, 3) := by decide +kernel
theorem dX4_byteAt_4 : decode cX4_byteAt 4 = .ok (.iload_n 1, 1) := by decide +kernel
theorem dX4_byteAt_5 : decode cX4_byteAt 5 = .ok (.aload_n 0, 1) := by decide +kernel
theorem dX4_byteAt_6 : decode cX4_byteAt 6 = .ok (.getfield 45, 3) := by decide +kernel
theorem dX4_byteAt_9 : decode cX4_byteAt 9 = .ok (.if_icmp .ge 12, 3) := by decide +kernel
theorem dX4_byteAt_12 : decode cX4_byteAt 12 = .ok (.aload_n 0, 1) := by decide +kernel
theorem dX4_byteAt_13 : decode cX4_byteAt 13 = .ok (.getfield 9, 3) := by decide +kernel
theorem dX4_byteAt_16 : decode cX4_byteAt 16 = .ok (.iload_n 1, 1) := by decide +kernel
theorem dX4_byteAt_17 : decode cX4_byteAt 17 = .ok (.iaload, 1) := by decide +kernel
theorem dX4_byteAt_18 : decode cX4_byteAt 18 = .ok (.goto 4, 3) := by decide +kernel
theorem dX4_byteAt_21 : decode cX4_byteAt 21 = .ok (.iconst 0, 1) := by decide +kernel
theorem dX4_byteAt_22 : decode cX4_byteAt 22 = .ok (.ireturn, 1) := by decide +kernel
theorem dX4_isDigit_0 : decode cX4_isDigit 0 = .ok (.aload_n 0, 1) := by decide +kernel
theorem dX4_isDigit_1 : decode cX4_isDigit 1 = .ok (.iload_n 1, 1) := by decide +kernel
theorem dX4_isDigit_2 : decode cX4_isDigit 2 = .ok (.invokevirtual 98, 3) := by decide +kernel
theorem dX4_isDigit_5 : decode cX4_isDigit 5 = .ok (.bipush 48, 2) := by decide +kernel
theorem dX4_isDigit_7 : decode cX4_isDigit 7 = .ok (.if_icmp .lt 17, 3) := by decide +kernel
theorem dX4_isDigit_10 : decode cX4_isDigit 10 = .ok (.aload_n 0, 1) := by decide +kernel
theorem dX4_isDigit_11 : decode cX4_isDigit 11 = .ok (.iload_n 1, 1) := by decide +kernel
theorem dX4_isDigit_12 : decode cX4_isDigit 12 = .ok (.invokevirtual 98, 3) := by decide +kernel
theorem dX4_isDigit_15 : decode cX4_isDigit 15 = .ok (.bipush 57, 2) := by decide +kernel
theorem dX4_isDigit_17 : decode cX4_isDigit 17 = .ok (.if_icmp .gt 7, 3) := by decide +kernel
theorem dX4_isDigit_20 : decode cX4_isDigit 20 = .ok (.iconst 1, 1) := by decide +kernel
theorem dX4_isDigit_21 : decode cX4_isDigit 21 = .ok (.goto 4, 3) := by decide +kernel
theorem dX4_isDigit_24 : decode cX4_isDigit 24 = .ok (.iconst 0, 1) := by decide +kernel
theorem dX4_isDigit_25 : decode cX4_isDigit 25 = .ok (.ireturn, 1) := by decide +kernel
theorem dX4_isLetter_0 : decode cX4_isLetter 0 = .ok (.aload_n 0, 1) := by decide +kernel
theorem dX4_isLetter_1 : decode cX4_isLetter 1 = .ok (.iload_n 1, 1) := by decide +kernel
theorem dX4_isLetter_2 : decode cX4_isLetter 2 = .ok (.invokevirtual 98, 3) := by decide +kernel
theorem dX4_isLetter_5 : decode cX4_isLetter 5 = .ok (.bipush 97, 2) := by decide +kernel
theorem dX4_isLetter_7 : decode cX4_isLetter 7 = .ok (.if_icmp .lt 17, 3) := by decide +kernel
theorem dX4_isLetter_10 : decode cX4_isLetter 10 = .ok (.aload_n 0, 1) := by decide +kernel
theorem dX4_isLetter_11 : decode cX4_isLetter 11 = .ok (.iload_n 1, 1) := by decide +kernel
theorem dX4_isLetter_12 : decode cX4_isLetter 12 = .ok (.invokevirtual 98, 3) := by decide +kernel
theorem dX4_isLetter_15 : decode cX4_isLetter 15 = .ok (.bipush 122, 2) := by decide +kernel
theorem dX4_isLetter_17 : decode cX4_isLetter 17 = .ok (.if_icmp .gt 7, 3) := by decide +kernel
theorem dX4_isLetter_20 : decode cX4_isLetter 20 = .ok (.iconst 1, 1) := by decide +kernel
theorem dX4_isLetter_21 : decode cX4_isLetter 21 = .ok (.goto 4, 3) := by decide +kernel
theorem dX4_isLetter_24 : decode cX4_isLetter 24 = .ok (.iconst 0, 1) := by decide +kernel
theorem dX4_isLetter_25 : decode cX4_isLetter 25 = .ok (.ireturn, 1) := by decide +kernel
theorem dX4_endOfDigits_0 : decode cX4_endOfDigits 0 = .ok (.iload_n 1, 1) := by decide +kernel
theorem dX4_endOfDigits_1 : decode cX4_endOfDigits 1 = .ok (.istore_n 2, 1) := by decide +kernel
theorem dX4_endOfDigits_2 : decode cX4_endOfDigits 2 = .ok (.iload_n 2, 1) := by decide +kernel
theorem dX4_endOfDigits_3 : decode cX4_endOfDigits 3 = .ok (.aload_n 0, 1) := by decide +kernel
theorem dX4_endOfDigits_4 : decode cX4_endOfDigits 4 = .ok (.getfield 45, 3) := by decide +kernel
theorem dX4_endOfDigits_7 : decode cX4_endOfDigits 7 = .ok (.if_icmp .ge 17, 3) := by decide +kernel
theorem dX4_endOfDigits_10 : decode cX4_endOfDigits 10 = .ok (.aload_n 0, 1) := by decide +kernel
theorem dX4_endOfDigits_11 : decode cX4_endOfDigits 11 = .ok (.iload_n 2, 1) := by decide +kernel
theorem dX4_endOfDigits_12 : decode cX4_endOfDigits 12 = .ok (.invokevirtual 101, 3) := by decide +kernel
theorem dX4_endOfDigits_15 : decode cX4_endOfDigits 15 = .ok (.ifCond .eq 9, 3) := by decide +kernel
theorem dX4_endOfDigits_18 : decode cX4_endOfDigits 18 = .ok (.iinc 2 1, 3) := by decide +kernel
theorem dX4_endOfDigits_21 : decode cX4_endOfDigits 21 = .ok (.goto (-19), 3) := by decide +kernel
theorem dX4_endOfDigits_24 : decode cX4_endOfDigits 24 = .ok (.iload_n 2, 1) := by decide +kernel
theorem dX4_endOfDigits_25 : decode cX4_endOfDigits 25 = .ok (.ireturn, 1) := by decide +kernel
theorem dX4_findTokens_0 : decode cX4_findTokens 0 = .ok (.aload_n 0, 1) := by decide +kernel
theorem dX4_findTokens_1 : decode cX4_findTokens 1 = .ok (.iconst 0, 1) := by decide +kernel
theorem dX4_findTokens_2 : decode cX4_findTokens 2 = .ok (.putfield 104, 3) := by decide +kernel
theorem dX4_findTokens_5 : decode cX4_findTokens 5 = .ok (.iconst 0, 1) := by decide +kernel
theorem dX4_findTokens_6 : decode cX4_findTokens 6 = .ok (.istore_n 1, 1) := by decide +kernel
theorem dX4_findTokens_7 : decode cX4_findTokens 7 = .ok (.iconst 0, 1) := by decide +kernel
theorem dX4_findTokens_8 : decode cX4_findTokens 8 = .ok (.istore_n 2, 1) := by decide +kernel
theorem dX4_findTokens_9 : decode cX4_findTokens 9 = .ok (.iload_n 2, 1) := by decide +kernel
theorem dX4_findTokens_10 : decode cX4_findTokens 10 = .ok (.sipush 200, 3) := by decide +kernel
theorem dX4_findTokens_13 : decode cX4_findTokens 13 = .ok (.if_icmp .gt 121, 3) := by decide +kernel
theorem dX4_findTokens_16 : decode cX4_findTokens 16 = .ok (.iload_n 1, 1) := by decide +kernel
theorem dX4_findTokens_17 : decode cX4_findTokens 17 = .ok (.aload_n 0, 1) := by decide +kernel
theorem dX4_findTokens_18 : decode cX4_findTokens 18 = .ok (.getfield 45, 3) := by decide +kernel
theorem dX4_findTokens_21 : decode cX4_findTokens 21 = .ok (.if_icmp .ge 29, 3) := by decide +kernel
theorem dX4_findTokens_24 : decode cX4_findTokens 24 = .ok (.aload_n 0, 1) := by decide +kernel
theorem dX4_findTokens_25 : decode cX4_findTokens 25 = .ok (.iload_n 1, 1) := by decide +kernel
theorem dX4_findTokens_26 : decode cX4_findTokens 26 = .ok (.invokevirtual 98, 3) := by decide +kernel
theorem dX4_findTokens_29 : decode cX4_findTokens 29 = .ok (.bipush 32, 2) := by decide +kernel
theorem dX4_findTokens_31 : decode cX4_findTokens 31 = .ok (.if_icmp .eq 13, 3) := by decide +kernel
theorem dX4_findTokens_34 : decode cX4_findTokens 34 = .ok (.aload_n 0, 1) := by decide +kernel
theorem dX4_findTokens_35 : decode cX4_findTokens 35 = .ok (.iload_n 1, 1) := by decide +kernel
theorem dX4_findTokens_36 : decode cX4_findTokens 36 = .ok (.invokevirtual 98, 3) := by decide +kernel
theorem dX4_findTokens_39 : decode cX4_findTokens 39 = .ok (.bipush 10, 2) := by decide +kernel
theorem dX4_findTokens_41 : decode cX4_findTokens 41 = .ok (.if_icmp .ne 9, 3) := by decide +kernel
theorem dX4_findTokens_44 : decode cX4_findTokens 44 = .ok (.iinc 1 1, 3) := by decide +kernel
theorem dX4_findTokens_47 : decode cX4_findTokens 47 = .ok (.goto (-31), 3) := by decide +kernel
theorem dX4_findTokens_50 : decode cX4_findTokens 50 = .ok (.aload_n 0, 1) := by decide +kernel
theorem dX4_findTokens_51 : decode cX4_findTokens 51 = .ok (.getfield 18, 3) := by decide +kernel
theorem dX4_findTokens_54 : decode cX4_findTokens 54 = .ok (.iload_n 2, 1) := by decide +kernel
theorem dX4_findTokens_55 : decode cX4_findTokens 55 = .ok (.iload_n 1, 1) := by decide +kernel
theorem dX4_findTokens_56 : decode cX4_findTokens 56 = .ok (.iastore, 1) := by decide +kernel
theorem dX4_findTokens_57 : decode cX4_findTokens 57 = .ok (.aload_n 0, 1) := by decide +kernel
theorem dX4_findTokens_58 : decode cX4_findTokens 58 = .ok (.getfield 15, 3) := by decide +kernel
theorem dX4_findTokens_61 : decode cX4_findTokens 61 = .ok (.iload_n 2, 1) := by decide +kernel
theorem dX4_findTokens_62 : decode cX4_findTokens 62 = .ok (.aload_n 0, 1) := by decide +kernel
theorem dX4_findTokens_63 : decode cX4_findTokens 63 = .ok (.iload_n 1, 1) := by decide +kernel
theorem dX4_findTokens_64 : decode cX4_findTokens 64 = .ok (.invokevirtual 107, 3) := by decide +kernel
theorem dX4_findTokens_67 : decode cX4_findTokens 67 = .ok (.iastore, 1) := by decide +kernel
theorem dX4_findTokens_68 : decode cX4_findTokens 68 = .ok (.aload_n 0, 1) := by decide +kernel
theorem dX4_findTokens_69 : decode cX4_findTokens 69 = .ok (.iload_n 2, 1) := by decide +kernel
theorem dX4_findTokens_70 : decode cX4_findTokens 70 = .ok (.iconst 1, 1) := by decide +kernel
theorem dX4_findTokens_71 : decode cX4_findTokens 71 = .ok (.iadd, 1) := by decide +kernel
theorem dX4_findTokens_72 : decode cX4_findTokens 72 = .ok (.putfield 104, 3) := by decide +kernel
theorem dX4_findTokens_75 : decode cX4_findTokens 75 = .ok (.aload_n 0, 1) := by decide +kernel
theorem dX4_findTokens_76 : decode cX4_findTokens 76 = .ok (.getfield 15, 3) := by decide +kernel
theorem dX4_findTokens_79 : decode cX4_findTokens 79 = .ok (.iload_n 2, 1) := by decide +kernel
theorem dX4_findTokens_80 : decode cX4_findTokens 80 = .ok (.iaload, 1) := by decide +kernel
theorem dX4_findTokens_81 : decode cX4_findTokens 81 = .ok (.ifCond .eq 13, 3) := by decide +kernel
theorem dX4_findTokens_84 : decode cX4_findTokens 84 = .ok (.aload_n 0, 1) := by decide +kernel
theorem dX4_findTokens_85 : decode cX4_findTokens 85 = .ok (.getfield 15, 3) := by decide +kernel
theorem dX4_findTokens_88 : decode cX4_findTokens 88 = .ok (.iload_n 2, 1) := by decide +kernel
theorem dX4_findTokens_89 : decode cX4_findTokens 89 = .ok (.iaload, 1) := by decide +kernel
theorem dX4_findTokens_90 : decode cX4_findTokens 90 = .ok (.iconst 3, 1) := by decide +kernel
theorem dX4_findTokens_91 : decode cX4_findTokens 91 = .ok (.if_icmp .ne 4, 3) := by decide +kernel
theorem dX4_findTokens_94 : decode cX4_findTokens 94 = .ok (.return_, 1) := by decide +kernel
theorem dX4_findTokens_95 : decode cX4_findTokens 95 = .ok (.aload_n 0, 1) := by decide +kernel
theorem dX4_findTokens_96 : decode cX4_findTokens 96 = .ok (.getfield 15, 3) := by decide +kernel
theorem dX4_findTokens_99 : decode cX4_findTokens 99 = .ok (.iload_n 2, 1) := by decide +kernel
theorem dX4_findTokens_100 : decode cX4_findTokens 100 = .ok (.iaload, 1) := by decide +kernel
theorem dX4_findTokens_101 : decode cX4_findTokens 101 = .ok (.iconst 1, 1) := by decide +kernel
theorem dX4_findTokens_102 : decode cX4_findTokens 102 = .ok (.if_icmp .ne 14, 3) := by decide +kernel
theorem dX4_findTokens_105 : decode cX4_findTokens 105 = .ok (.aload_n 0, 1) := by decide +kernel
theorem dX4_findTokens_106 : decode cX4_findTokens 106 = .ok (.getfield 21, 3) := by decide +kernel
theorem dX4_findTokens_109 : decode cX4_findTokens 109 = .ok (.iload_n 2, 1) := by decide +kernel
theorem dX4_findTokens_110 : decode cX4_findTokens 110 = .ok (.aload_n 0, 1) := by decide +kernel
theorem dX4_findTokens_111 : decode cX4_findTokens 111 = .ok (.iload_n 1, 1) := by decide +kernel
theorem dX4_findTokens_112 : decode cX4_findTokens 112 = .ok (.invokevirtual 110, 3) := by decide +kernel
theorem dX4_findTokens_115 : decode cX4_findTokens 115 = .ok (.iastore, 1) := by decide +kernel
theorem dX4_findTokens_116 : decode cX4_findTokens 116 = .ok (.aload_n 0, 1) := by decide +kernel
theorem dX4_findTokens_117 : decode cX4_findTokens 117 = .ok (.iload_n 1, 1) := by decide +kernel
theorem dX4_findTokens_118 : decode cX4_findTokens 118 = .ok (.aload_n 0, 1) := by decide +kernel
theorem dX4_findTokens_119 : decode cX4_findTokens 119 = .ok (.getfield 15, 3) := by decide +kernel
theorem dX4_findTokens_122 : decode cX4_findTokens 122 = .ok (.iload_n 2, 1) := by decide +kernel
theorem dX4_findTokens_123 : decode cX4_findTokens 123 = .ok (.iaload, 1) := by decide +kernel
theorem dX4_findTokens_124 : decode cX4_findTokens 124 = .ok (.invokevirtual 113, 3) := by decide +kernel
theorem dX4_findTokens_127 : decode cX4_findTokens 127 = .ok (.istore_n 1, 1) := by decide +kernel
theorem dX4_findTokens_128 : decode cX4_findTokens 128 = .ok (.iinc 2 1, 3) := by decide +kernel
theorem dX4_findTokens_131 : decode cX4_findTokens 131 = .ok (.goto (-122), 3) := by decide +kernel
theorem dX4_findTokens_134 : decode cX4_findTokens 134 = .ok (.return_, 1) := by decide +kernel
theorem dX4_tokenFrom_0 : decode cX4_tokenFrom 0 = .ok (.iload_n 1, 1) := by decide +kernel
theorem dX4_tokenFrom_1 : decode cX4_tokenFrom 1 = .ok (.aload_n 0, 1) := by decide +kernel
theorem dX4_tokenFrom_2 : decode cX4_tokenFrom 2 = .ok (.getfield 45, 3) := by decide +kernel
theorem dX4_tokenFrom_5 : decode cX4_tokenFrom 5 = .ok (.if_icmp .lt 5, 3) := by decide +kernel
theorem dX4_tokenFrom_8 : decode cX4_tokenFrom 8 = .ok (.iconst 0, 1) := by decide +kernel
theorem dX4_tokenFrom_9 : decode cX4_tokenFrom 9 = .ok (.ireturn, 1) := by decide +kernel
theorem dX4_tokenFrom_10 : decode cX4_tokenFrom 10 = .ok (.aload_n 0, 1) := by decide +kernel
theorem dX4_tokenFrom_11 : decode cX4_tokenFrom 11 = .ok (.iload_n 1, 1) := by decide +kernel
theorem dX4_tokenFrom_12 : decode cX4_tokenFrom 12 = .ok (.invokevirtual 116, 3) := by decide +kernel
theorem dX4_tokenFrom_15 : decode cX4_tokenFrom 15 = .ok (.ifCond .eq 21, 3) := by decide +kernel
theorem dX4_tokenFrom_18 : decode cX4_tokenFrom 18 = .ok (.aload_n 0, 1) := by decide +kernel
theorem dX4_tokenFrom_19 : decode cX4_tokenFrom 19 = .ok (.iload_n 1, 1) := by decide +kernel
theorem dX4_tokenFrom_20 : decode cX4_tokenFrom 20 = .ok (.invokevirtual 119, 3) := by decide +kernel
theorem dX4_tokenFrom_23 : decode cX4_tokenFrom 23 = .ok (.iload_n 1, 1) := by decide +kernel
theorem dX4_tokenFrom_24 : decode cX4_tokenFrom 24 = .ok (.isub, 1) := by decide +kernel
theorem dX4_tokenFrom_25 : decode cX4_tokenFrom 25 = .ok (.bipush 6, 2) := by decide +kernel
theorem dX4_tokenFrom_27 : decode cX4_tokenFrom 27 = .ok (.if_icmp .le 7, 3) := by decide +kernel
theorem dX4_tokenFrom_30 : decode cX4_tokenFrom 30 = .ok (.iconst 3, 1) := by decide +kernel
theorem dX4_tokenFrom_31 : decode cX4_tokenFrom 31 = .ok (.goto 4, 3) := by decide +kernel
theorem dX4_tokenFrom_34 : decode cX4_tokenFrom 34 = .ok (.iconst 1, 1) := by decide +kernel
theorem dX4_tokenFrom_35 : decode cX4_tokenFrom 35 = .ok (.ireturn, 1) := by decide +kernel
theorem dX4_tokenFrom_36 : decode cX4_tokenFrom 36 = .ok (.aload_n 0, 1) := by decide +kernel
theorem dX4_tokenFrom_37 : decode cX4_tokenFrom 37 = .ok (.iload_n 1, 1) := by decide +kernel
theorem dX4_tokenFrom_38 : decode cX4_tokenFrom 38 = .ok (.invokevirtual 101, 3) := by decide +kernel
theorem dX4_tokenFrom_41 : decode cX4_tokenFrom 41 = .ok (.ifCond .eq 18, 3) := by decide +kernel
theorem dX4_tokenFrom_44 : decode cX4_tokenFrom 44 = .ok (.aload_n 0, 1) := by decide +kernel
theorem dX4_tokenFrom_45 : decode cX4_tokenFrom 45 = .ok (.iload_n 1, 1) := by decide +kernel
theorem dX4_tokenFrom_46 : decode cX4_tokenFrom 46 = .ok (.invokevirtual 122, 3) := by decide +kernel
theorem dX4_tokenFrom_49 : decode cX4_tokenFrom 49 = .ok (.iconst (-1), 1) := by decide +kernel
theorem dX4_tokenFrom_50 : decode cX4_tokenFrom 50 = .ok (.if_icmp .ne 7, 3) := by decide +kernel
theorem dX4_tokenFrom_53 : decode cX4_tokenFrom 53 = .ok (.iconst 3, 1) := by decide +kernel
theorem dX4_tokenFrom_54 : decode cX4_tokenFrom 54 = .ok (.goto 4, 3) := by decide +kernel
theorem dX4_tokenFrom_57 : decode cX4_tokenFrom 57 = .ok (.iconst 2, 1) := by decide +kernel
theorem dX4_tokenFrom_58 : decode cX4_tokenFrom 58 = .ok (.ireturn, 1) := by decide +kernel
theorem dX4_tokenFrom_59 : decode cX4_tokenFrom 59 = .ok (.aload_n 0, 1) := by decide +kernel
theorem dX4_tokenFrom_60 : decode cX4_tokenFrom 60 = .ok (.iload_n 1, 1) := by decide +kernel
theorem dX4_tokenFrom_61 : decode cX4_tokenFrom 61 = .ok (.invokevirtual 98, 3) := by decide +kernel
theorem dX4_tokenFrom_64 : decode cX4_tokenFrom 64 = .ok (.lookupswitch 106 #[(33, 100), (37, 100), (40, 100), (41, 100), (42, 100), (43, 100), (44, 100), (45, 100), (47, 100), (61, 100), (94, 100)], 100) := by decide +kernel
theorem dX4_tokenFrom_164 : decode cX4_tokenFrom 164 = .ok (.aload_n 0, 1) := by decide +kernel
theorem dX4_tokenFrom_165 : decode cX4_tokenFrom 165 = .ok (.iload_n 1, 1) := by decide +kernel
theorem dX4_tokenFrom_166 : decode cX4_tokenFrom 166 = .ok (.invokevirtual 98, 3) := by decide +kernel
theorem dX4_tokenFrom_169 : decode cX4_tokenFrom 169 = .ok (.ireturn, 1) := by decide +kernel
theorem dX4_tokenFrom_170 : decode cX4_tokenFrom 170 = .ok (.iconst 3, 1) := by decide +kernel
theorem dX4_tokenFrom_171 : decode cX4_tokenFrom 171 = .ok (.ireturn, 1) := by decide +kernel
theorem dX4_endOfToken_0 : decode cX4_endOfToken 0 = .ok (.iload_n 2, 1) := by decide +kernel
theorem dX4_endOfToken_1 : decode cX4_endOfToken 1 = .ok (.iconst 1, 1) := by decide +kernel
theorem dX4_endOfToken_2 : decode cX4_endOfToken 2 = .ok (.if_icmp .ne 9, 3) := by decide +kernel
theorem dX4_endOfToken_5 : decode cX4_endOfToken 5 = .ok (.aload_n 0, 1) := by decide +kernel
theorem dX4_endOfToken_6 : decode cX4_endOfToken 6 = .ok (.iload_n 1, 1) := by decide +kernel
theorem dX4_endOfToken_7 : decode cX4_endOfToken 7 = .ok (.invokevirtual 119, 3) := by decide +kernel
theorem dX4_endOfToken_10 : decode cX4_endOfToken 10 = .ok (.ireturn, 1) := by decide +kernel
theorem dX4_endOfToken_11 : decode cX4_endOfToken 11 = .ok (.iload_n 2, 1) := by decide +kernel
theorem dX4_endOfToken_12 : decode cX4_endOfToken 12 = .ok (.iconst 2, 1) := by decide +kernel
theorem dX4_endOfToken_13 : decode cX4_endOfToken 13 = .ok (.if_icmp .ne 11, 3) := by decide +kernel
theorem dX4_endOfToken_16 : decode cX4_endOfToken 16 = .ok (.aload_n 0, 1) := by decide +kernel
theorem dX4_endOfToken_17 : decode cX4_endOfToken 17 = .ok (.iload_n 1, 1) := by decide +kernel
theorem dX4_endOfToken_18 : decode cX4_endOfToken 18 = .ok (.invokevirtual 122, 3) := by decide +kernel
theorem dX4_endOfToken_21 : decode cX4_endOfToken 21 = .ok (.goto 6, 3) := by decide +kernel
theorem dX4_endOfToken_24 : decode cX4_endOfToken 24 = .ok (.iload_n 1, 1) := by decide +kernel
theorem dX4_endOfToken_25 : decode cX4_endOfToken 25 = .ok (.iconst 1, 1) := by decide +kernel
theorem dX4_endOfToken_26 : decode cX4_endOfToken 26 = .ok (.iadd, 1) := by decide +kernel
theorem dX4_endOfToken_27 : decode cX4_endOfToken 27 = .ok (.ireturn, 1) := by decide +kernel
theorem dX4_endOfWord_0 : decode cX4_endOfWord 0 = .ok (.iload_n 1, 1) := by decide +kernel
theorem dX4_endOfWord_1 : decode cX4_endOfWord 1 = .ok (.istore_n 2, 1) := by decide +kernel
theorem dX4_endOfWord_2 : decode cX4_endOfWord 2 = .ok (.iload_n 2, 1) := by decide +kernel
theorem dX4_endOfWord_3 : decode cX4_endOfWord 3 = .ok (.aload_n 0, 1) := by decide +kernel
theorem dX4_endOfWord_4 : decode cX4_endOfWord 4 = .ok (.getfield 45, 3) := by decide +kernel
theorem dX4_endOfWord_7 : decode cX4_endOfWord 7 = .ok (.if_icmp .ge 17, 3) := by decide +kernel
theorem dX4_endOfWord_10 : decode cX4_endOfWord 10 = .ok (.aload_n 0, 1) := by decide +kernel
theorem dX4_endOfWord_11 : decode cX4_endOfWord 11 = .ok (.iload_n 2, 1) := by decide +kernel
theorem dX4_endOfWord_12 : decode cX4_endOfWord 12 = .ok (.invokevirtual 116, 3) := by decide +kernel
theorem dX4_endOfWord_15 : decode cX4_endOfWord 15 = .ok (.ifCond .eq 9, 3) := by decide +kernel
theorem dX4_endOfWord_18 : decode cX4_endOfWord 18 = .ok (.iinc 2 1, 3) := by decide +kernel
theorem dX4_endOfWord_21 : decode cX4_endOfWord 21 = .ok (.goto (-19), 3) := by decide +kernel
theorem dX4_endOfWord_24 : decode cX4_endOfWord 24 = .ok (.iload_n 2, 1) := by decide +kernel
theorem dX4_endOfWord_25 : decode cX4_endOfWord 25 = .ok (.ireturn, 1) := by decide +kernel
theorem dX4_wordFrom_0 : decode cX4_wordFrom 0 = .ok (.iconst 0, 1) := by decide +kernel
theorem dX4_wordFrom_1 : decode cX4_wordFrom 1 = .ok (.istore_n 2, 1) := by decide +kernel
theorem dX4_wordFrom_2 : decode cX4_wordFrom 2 = .ok (.iload_n 1, 1) := by decide +kernel
theorem dX4_wordFrom_3 : decode cX4_wordFrom 3 = .ok (.istore_n 3, 1) := by decide +kernel
theorem dX4_wordFrom_4 : decode cX4_wordFrom 4 = .ok (.iload_n 3, 1) := by decide +kernel
theorem dX4_wordFrom_5 : decode cX4_wordFrom 5 = .ok (.iload_n 1, 1) := by decide +kernel
theorem dX4_wordFrom_6 : decode cX4_wordFrom 6 = .ok (.bipush 6, 2) := by decide +kernel
theorem dX4_wordFrom_8 : decode cX4_wordFrom 8 = .ok (.iadd, 1) := by decide +kernel
theorem dX4_wordFrom_9 : decode cX4_wordFrom 9 = .ok (.if_icmp .ge 33, 3) := by decide +kernel
theorem dX4_wordFrom_12 : decode cX4_wordFrom 12 = .ok (.aload_n 0, 1) := by decide +kernel
theorem dX4_wordFrom_13 : decode cX4_wordFrom 13 = .ok (.iload_n 3, 1) := by decide +kernel
theorem dX4_wordFrom_14 : decode cX4_wordFrom 14 = .ok (.invokevirtual 116, 3) := by decide +kernel
theorem dX4_wordFrom_17 : decode cX4_wordFrom 17 = .ok (.ifCond .eq 25, 3) := by decide +kernel
theorem dX4_wordFrom_20 : decode cX4_wordFrom 20 = .ok (.iload_n 2, 1) := by decide +kernel
theorem dX4_wordFrom_21 : decode cX4_wordFrom 21 = .ok (.bipush 27, 2) := by decide +kernel
theorem dX4_wordFrom_23 : decode cX4_wordFrom 23 = .ok (.imul, 1) := by decide +kernel
theorem dX4_wordFrom_24 : decode cX4_wordFrom 24 = .ok (.aload_n 0, 1) := by decide +kernel
theorem dX4_wordFrom_25 : decode cX4_wordFrom 25 = .ok (.iload_n 3, 1) := by decide +kernel
theorem dX4_wordFrom_26 : decode cX4_wordFrom 26 = .ok (.invokevirtual 98, 3) := by decide +kernel
theorem dX4_wordFrom_29 : decode cX4_wordFrom 29 = .ok (.iadd, 1) := by decide +kernel
theorem dX4_wordFrom_30 : decode cX4_wordFrom 30 = .ok (.bipush 97, 2) := by decide +kernel
theorem dX4_wordFrom_32 : decode cX4_wordFrom 32 = .ok (.isub, 1) := by decide +kernel
theorem dX4_wordFrom_33 : decode cX4_wordFrom 33 = .ok (.iconst 1, 1) := by decide +kernel
theorem dX4_wordFrom_34 : decode cX4_wordFrom 34 = .ok (.iadd, 1) := by decide +kernel
theorem dX4_wordFrom_35 : decode cX4_wordFrom 35 = .ok (.istore_n 2, 1) := by decide +kernel
theorem dX4_wordFrom_36 : decode cX4_wordFrom 36 = .ok (.iinc 3 1, 3) := by decide +kernel
theorem dX4_wordFrom_39 : decode cX4_wordFrom 39 = .ok (.goto (-35), 3) := by decide +kernel
theorem dX4_wordFrom_42 : decode cX4_wordFrom 42 = .ok (.iload_n 2, 1) := by decide +kernel
theorem dX4_wordFrom_43 : decode cX4_wordFrom 43 = .ok (.ireturn, 1) := by decide +kernel
theorem dX4_endOfNumber_0 : decode cX4_endOfNumber 0 = .ok (.aload_n 0, 1) := by decide +kernel
theorem dX4_endOfNumber_1 : decode cX4_endOfNumber 1 = .ok (.iload_n 1, 1) := by decide +kernel
theorem dX4_endOfNumber_2 : decode cX4_endOfNumber 2 = .ok (.invokevirtual 125, 3) := by decide +kernel
theorem dX4_endOfNumber_5 : decode cX4_endOfNumber 5 = .ok (.istore_n 2, 1) := by decide +kernel
theorem dX4_endOfNumber_6 : decode cX4_endOfNumber 6 = .ok (.iload_n 2, 1) := by decide +kernel
theorem dX4_endOfNumber_7 : decode cX4_endOfNumber 7 = .ok (.iload_n 1, 1) := by decide +kernel
theorem dX4_endOfNumber_8 : decode cX4_endOfNumber 8 = .ok (.isub, 1) := by decide +kernel
theorem dX4_endOfNumber_9 : decode cX4_endOfNumber 9 = .ok (.bipush 12, 2) := by decide +kernel
theorem dX4_endOfNumber_11 : decode cX4_endOfNumber 11 = .ok (.if_icmp .le 5, 3) := by decide +kernel
theorem dX4_endOfNumber_14 : decode cX4_endOfNumber 14 = .ok (.iconst (-1), 1) := by decide +kernel
theorem dX4_endOfNumber_15 : decode cX4_endOfNumber 15 = .ok (.ireturn, 1) := by decide +kernel
theorem dX4_endOfNumber_16 : decode cX4_endOfNumber 16 = .ok (.aload_n 0, 1) := by decide +kernel
theorem dX4_endOfNumber_17 : decode cX4_endOfNumber 17 = .ok (.iload_n 2, 1) := by decide +kernel
theorem dX4_endOfNumber_18 : decode cX4_endOfNumber 18 = .ok (.invokevirtual 98, 3) := by decide +kernel
theorem dX4_endOfNumber_21 : decode cX4_endOfNumber 21 = .ok (.bipush 46, 2) := by decide +kernel
theorem dX4_endOfNumber_23 : decode cX4_endOfNumber 23 = .ok (.if_icmp .eq 5, 3) := by decide +kernel
theorem dX4_endOfNumber_26 : decode cX4_endOfNumber 26 = .ok (.iload_n 2, 1) := by decide +kernel
theorem dX4_endOfNumber_27 : decode cX4_endOfNumber 27 = .ok (.ireturn, 1) := by decide +kernel
theorem dX4_endOfNumber_28 : decode cX4_endOfNumber 28 = .ok (.aload_n 0, 1) := by decide +kernel
theorem dX4_endOfNumber_29 : decode cX4_endOfNumber 29 = .ok (.iload_n 2, 1) := by decide +kernel
theorem dX4_endOfNumber_30 : decode cX4_endOfNumber 30 = .ok (.iconst 1, 1) := by decide +kernel
theorem dX4_endOfNumber_31 : decode cX4_endOfNumber 31 = .ok (.iadd, 1) := by decide +kernel
theorem dX4_endOfNumber_32 : decode cX4_endOfNumber 32 = .ok (.invokevirtual 125, 3) := by decide +kernel
theorem dX4_endOfNumber_35 : decode cX4_endOfNumber 35 = .ok (.istore_n 3, 1) := by decide +kernel
theorem dX4_endOfNumber_36 : decode cX4_endOfNumber 36 = .ok (.iload_n 3, 1) := by decide +kernel
theorem dX4_endOfNumber_37 : decode cX4_endOfNumber 37 = .ok (.iload_n 2, 1) := by decide +kernel
theorem dX4_endOfNumber_38 : decode cX4_endOfNumber 38 = .ok (.isub, 1) := by decide +kernel
theorem dX4_endOfNumber_39 : decode cX4_endOfNumber 39 = .ok (.bipush 7, 2) := by decide +kernel
theorem dX4_endOfNumber_41 : decode cX4_endOfNumber 41 = .ok (.if_icmp .le 5, 3) := by decide +kernel
theorem dX4_endOfNumber_44 : decode cX4_endOfNumber 44 = .ok (.iconst (-1), 1) := by decide +kernel
theorem dX4_endOfNumber_45 : decode cX4_endOfNumber 45 = .ok (.ireturn, 1) := by decide +kernel
theorem dX4_endOfNumber_46 : decode cX4_endOfNumber 46 = .ok (.aload_n 0, 1) := by decide +kernel
theorem dX4_endOfNumber_47 : decode cX4_endOfNumber 47 = .ok (.iload_n 3, 1) := by decide +kernel
theorem dX4_endOfNumber_48 : decode cX4_endOfNumber 48 = .ok (.invokevirtual 98, 3) := by decide +kernel
theorem dX4_endOfNumber_51 : decode cX4_endOfNumber 51 = .ok (.bipush 91, 2) := by decide +kernel
theorem dX4_endOfNumber_53 : decode cX4_endOfNumber 53 = .ok (.if_icmp .eq 16, 3) := by decide +kernel
theorem dX4_endOfNumber_56 : decode cX4_endOfNumber 56 = .ok (.iload_n 3, 1) := by decide +kernel
theorem dX4_endOfNumber_57 : decode cX4_endOfNumber 57 = .ok (.iload_n 2, 1) := by decide +kernel
theorem dX4_endOfNumber_58 : decode cX4_endOfNumber 58 = .ok (.iconst 1, 1) := by decide +kernel
theorem dX4_endOfNumber_59 : decode cX4_endOfNumber 59 = .ok (.iadd, 1) := by decide +kernel
theorem dX4_endOfNumber_60 : decode cX4_endOfNumber 60 = .ok (.if_icmp .ne 7, 3) := by decide +kernel
theorem dX4_endOfNumber_63 : decode cX4_endOfNumber 63 = .ok (.iconst (-1), 1) := by decide +kernel
theorem dX4_endOfNumber_64 : decode cX4_endOfNumber 64 = .ok (.goto 4, 3) := by decide +kernel
theorem dX4_endOfNumber_67 : decode cX4_endOfNumber 67 = .ok (.iload_n 3, 1) := by decide +kernel
theorem dX4_endOfNumber_68 : decode cX4_endOfNumber 68 = .ok (.ireturn, 1) := by decide +kernel
theorem dX4_endOfNumber_69 : decode cX4_endOfNumber 69 = .ok (.aload_n 0, 1) := by decide +kernel
theorem dX4_endOfNumber_70 : decode cX4_endOfNumber 70 = .ok (.iload_n 3, 1) := by decide +kernel
theorem dX4_endOfNumber_71 : decode cX4_endOfNumber 71 = .ok (.iconst 1, 1) := by decide +kernel
theorem dX4_endOfNumber_72 : decode cX4_endOfNumber 72 = .ok (.iadd, 1) := by decide +kernel
theorem dX4_endOfNumber_73 : decode cX4_endOfNumber 73 = .ok (.invokevirtual 125, 3) := by decide +kernel
theorem dX4_endOfNumber_76 : decode cX4_endOfNumber 76 = .ok (.istore 4, 2) := by decide +kernel
theorem dX4_endOfNumber_78 : decode cX4_endOfNumber 78 = .ok (.iload 4, 2) := by decide +kernel
theorem dX4_endOfNumber_80 : decode cX4_endOfNumber 80 = .ok (.iload_n 3, 1) := by decide +kernel
theorem dX4_endOfNumber_81 : decode cX4_endOfNumber 81 = .ok (.iconst 1, 1) := by decide +kernel
theorem dX4_endOfNumber_82 : decode cX4_endOfNumber 82 = .ok (.iadd, 1) := by decide +kernel
theorem dX4_endOfNumber_83 : decode cX4_endOfNumber 83 = .ok (.if_icmp .eq 23, 3) := by decide +kernel
theorem dX4_endOfNumber_86 : decode cX4_endOfNumber 86 = .ok (.iload 4, 2) := by decide +kernel
theorem dX4_endOfNumber_88 : decode cX4_endOfNumber 88 = .ok (.iload_n 3, 1) := by decide +kernel
theorem dX4_endOfNumber_89 : decode cX4_endOfNumber 89 = .ok (.isub, 1) := by decide +kernel
theorem dX4_endOfNumber_90 : decode cX4_endOfNumber 90 = .ok (.bipush 7, 2) := by decide +kernel
theorem dX4_endOfNumber_92 : decode cX4_endOfNumber 92 = .ok (.if_icmp .gt 14, 3) := by decide +kernel
theorem dX4_endOfNumber_95 : decode cX4_endOfNumber 95 = .ok (.aload_n 0, 1) := by decide +kernel
theorem dX4_endOfNumber_96 : decode cX4_endOfNumber 96 = .ok (.iload 4, 2) := by decide +kernel
theorem dX4_endOfNumber_98 : decode cX4_endOfNumber 98 = .ok (.invokevirtual 98, 3) := by decide +kernel
theorem dX4_endOfNumber_101 : decode cX4_endOfNumber 101 = .ok (.bipush 93, 2) := by decide +kernel
theorem dX4_endOfNumber_103 : decode cX4_endOfNumber 103 = .ok (.if_icmp .eq 5, 3) := by decide +kernel
theorem dX4_endOfNumber_106 : decode cX4_endOfNumber 106 = .ok (.iconst (-1), 1) := by decide +kernel
theorem dX4_endOfNumber_107 : decode cX4_endOfNumber 107 = .ok (.ireturn, 1) := by decide +kernel
theorem dX4_endOfNumber_108 : decode cX4_endOfNumber 108 = .ok (.iload 4, 2) := by decide +kernel
theorem dX4_endOfNumber_110 : decode cX4_endOfNumber 110 = .ok (.iconst 1, 1) := by decide +kernel
theorem dX4_endOfNumber_111 : decode cX4_endOfNumber 111 = .ok (.iadd, 1) := by decide +kernel
theorem dX4_endOfNumber_112 : decode cX4_endOfNumber 112 = .ok (.ireturn, 1) := by decide +kernel
theorem dX4_readNumbers_0 : decode cX4_readNumbers 0 = .ok (.aload_n 0, 1) := by decide +kernel
theorem dX4_readNumbers_1 : decode cX4_readNumbers 1 = .ok (.getfield 55, 3) := by decide +kernel
theorem dX4_readNumbers_4 : decode cX4_readNumbers 4 = .ok (.anewarray 128, 3) := by decide +kernel
theorem dX4_readNumbers_7 : decode cX4_readNumbers 7 = .ok (.astore_n 2, 1) := by decide +kernel
theorem dX4_readNumbers_8 : decode cX4_readNumbers 8 = .ok (.iconst 0, 1) := by decide +kernel
theorem dX4_readNumbers_9 : decode cX4_readNumbers 9 = .ok (.istore_n 3, 1) := by decide +kernel
theorem dX4_readNumbers_10 : decode cX4_readNumbers 10 = .ok (.iload_n 3, 1) := by decide +kernel
theorem dX4_readNumbers_11 : decode cX4_readNumbers 11 = .ok (.aload_n 0, 1) := by decide +kernel
theorem dX4_readNumbers_12 : decode cX4_readNumbers 12 = .ok (.getfield 52, 3) := by decide +kernel
theorem dX4_readNumbers_15 : decode cX4_readNumbers 15 = .ok (.if_icmp .ge 50, 3) := by decide +kernel
theorem dX4_readNumbers_18 : decode cX4_readNumbers 18 = .ok (.aload_n 0, 1) := by decide +kernel
theorem dX4_readNumbers_19 : decode cX4_readNumbers 19 = .ok (.getfield 24, 3) := by decide +kernel
theorem dX4_readNumbers_22 : decode cX4_readNumbers 22 = .ok (.iload_n 3, 1) := by decide +kernel
theorem dX4_readNumbers_23 : decode cX4_readNumbers 23 = .ok (.iaload, 1) := by decide +kernel
theorem dX4_readNumbers_24 : decode cX4_readNumbers 24 = .ok (.bipush 21, 2) := by decide +kernel
theorem dX4_readNumbers_26 : decode cX4_readNumbers 26 = .ok (.if_icmp .ne 33, 3) := by decide +kernel
theorem dX4_readNumbers_29 : decode cX4_readNumbers 29 = .ok (.aload_n 0, 1) := by decide +kernel
theorem dX4_readNumbers_30 : decode cX4_readNumbers 30 = .ok (.getfield 27, 3) := by decide +kernel
theorem dX4_readNumbers_33 : decode cX4_readNumbers 33 = .ok (.iload_n 3, 1) := by decide +kernel
theorem dX4_readNumbers_34 : decode cX4_readNumbers 34 = .ok (.iaload, 1) := by decide +kernel
theorem dX4_readNumbers_35 : decode cX4_readNumbers 35 = .ok (.aload_n 2, 1) := by decide +kernel
theorem dX4_readNumbers_36 : decode cX4_readNumbers 36 = .ok (.arraylength, 1) := by decide +kernel
theorem dX4_readNumbers_37 : decode cX4_readNumbers 37 = .ok (.if_icmp .ge 22, 3) := by decide +kernel
theorem dX4_readNumbers_40 : decode cX4_readNumbers 40 = .ok (.aload_n 2, 1) := by decide +kernel
theorem dX4_readNumbers_41 : decode cX4_readNumbers 41 = .ok (.aload_n 0, 1) := by decide +kernel
theorem dX4_readNumbers_42 : decode cX4_readNumbers 42 = .ok (.getfield 27, 3) := by decide +kernel
theorem dX4_readNumbers_45 : decode cX4_readNumbers 45 = .ok (.iload_n 3, 1) := by decide +kernel
theorem dX4_readNumbers_46 : decode cX4_readNumbers 46 = .ok (.iaload, 1) := by decide +kernel
theorem dX4_readNumbers_47 : decode cX4_readNumbers 47 = .ok (.aload_n 0, 1) := by decide +kernel
theorem dX4_readNumbers_48 : decode cX4_readNumbers 48 = .ok (.aload_n 0, 1) := by decide +kernel
theorem dX4_readNumbers_49 : decode cX4_readNumbers 49 = .ok (.getfield 30, 3) := by decide +kernel
theorem dX4_readNumbers_52 : decode cX4_readNumbers 52 = .ok (.iload_n 3, 1) := by decide +kernel
theorem dX4_readNumbers_53 : decode cX4_readNumbers 53 = .ok (.iaload, 1) := by decide +kernel
theorem dX4_readNumbers_54 : decode cX4_readNumbers 54 = .ok (.aload_n 1, 1) := by decide +kernel
theorem dX4_readNumbers_55 : decode cX4_readNumbers 55 = .ok (.invokevirtual 130, 3) := by decide +kernel
theorem dX4_readNumbers_58 : decode cX4_readNumbers 58 = .ok (.aastore, 1) := by decide +kernel
theorem dX4_readNumbers_59 : decode cX4_readNumbers 59 = .ok (.iinc 3 1, 3) := by decide +kernel
theorem dX4_readNumbers_62 : decode cX4_readNumbers 62 = .ok (.goto (-52), 3) := by decide +kernel
theorem dX4_readNumbers_65 : decode cX4_readNumbers 65 = .ok (.aload_n 2, 1) := by decide +kernel
theorem dX4_readNumbers_66 : decode cX4_readNumbers 66 = .ok (.areturn, 1) := by decide +kernel
theorem dX4_numberFrom_0 : decode cX4_numberFrom 0 = .ok (.lconst 0, 1) := by decide +kernel
theorem dX4_numberFrom_1 : decode cX4_numberFrom 1 = .ok (.lstore_n 3, 1) := by decide +kernel
theorem dX4_numberFrom_2 : decode cX4_numberFrom 2 = .ok (.lconst 1, 1) := by decide +kernel
theorem dX4_numberFrom_3 : decode cX4_numberFrom 3 = .ok (.lstore 5, 2) := by decide +kernel
theorem dX4_numberFrom_5 : decode cX4_numberFrom 5 = .ok (.iload_n 1, 1) := by decide +kernel
theorem dX4_numberFrom_6 : decode cX4_numberFrom 6 = .ok (.istore 7, 2) := by decide +kernel
theorem dX4_numberFrom_8 : decode cX4_numberFrom 8 = .ok (.iconst 0, 1) := by decide +kernel
theorem dX4_numberFrom_9 : decode cX4_numberFrom 9 = .ok (.istore 8, 2) := by decide +kernel
theorem dX4_numberFrom_11 : decode cX4_numberFrom 11 = .ok (.iload 7, 2) := by decide +kernel
theorem dX4_numberFrom_13 : decode cX4_numberFrom 13 = .ok (.aload_n 0, 1) := by decide +kernel
theorem dX4_numberFrom_14 : decode cX4_numberFrom 14 = .ok (.getfield 45, 3) := by decide +kernel
theorem dX4_numberFrom_17 : decode cX4_numberFrom 17 = .ok (.if_icmp .ge 87, 3) := by decide +kernel
theorem dX4_numberFrom_20 : decode cX4_numberFrom 20 = .ok (.aload_n 0, 1) := by decide +kernel
theorem dX4_numberFrom_21 : decode cX4_numberFrom 21 = .ok (.iload 7, 2) := by decide +kernel
theorem dX4_numberFrom_23 : decode cX4_numberFrom 23 = .ok (.invokevirtual 101, 3) := by decide +kernel
theorem dX4_numberFrom_26 : decode cX4_numberFrom 26 = .ok (.ifCond .ne 19, 3) := by decide +kernel
theorem dX4_numberFrom_29 : decode cX4_numberFrom 29 = .ok (.aload_n 0, 1) := by decide +kernel
theorem dX4_numberFrom_30 : decode cX4_numberFrom 30 = .ok (.iload 7, 2) := by decide +kernel
theorem dX4_numberFrom_32 : decode cX4_numberFrom 32 = .ok (.invokevirtual 98, 3) := by decide +kernel
theorem dX4_numberFrom_35 : decode cX4_numberFrom 35 = .ok (.bipush 46, 2) := by decide +kernel
theorem dX4_numberFrom_37 : decode cX4_numberFrom 37 = .ok (.if_icmp .ne 67, 3) := by decide +kernel
theorem dX4_numberFrom_40 : decode cX4_numberFrom 40 = .ok (.iload 8, 2) := by decide +kernel
theorem dX4_numberFrom_42 : decode cX4_numberFrom 42 = .ok (.ifCond .ne 62, 3) := by decide +kernel
theorem dX4_numberFrom_45 : decode cX4_numberFrom 45 = .ok (.aload_n 0, 1) := by decide +kernel
theorem dX4_numberFrom_46 : decode cX4_numberFrom 46 = .ok (.iload 7, 2) := by decide +kernel
theorem dX4_numberFrom_48 : decode cX4_numberFrom 48 = .ok (.invokevirtual 98, 3) := by decide +kernel
theorem dX4_numberFrom_51 : decode cX4_numberFrom 51 = .ok (.bipush 46, 2) := by decide +kernel
theorem dX4_numberFrom_53 : decode cX4_numberFrom 53 = .ok (.if_icmp .ne 9, 3) := by decide +kernel
theorem dX4_numberFrom_56 : decode cX4_numberFrom 56 = .ok (.iconst 1, 1) := by decide +kernel
theorem dX4_numberFrom_57 : decode cX4_numberFrom 57 = .ok (.istore 8, 2) := by decide +kernel
theorem dX4_numberFrom_59 : decode cX4_numberFrom 59 = .ok (.goto 39, 3) := by decide +kernel
theorem dX4_numberFrom_62 : decode cX4_numberFrom 62 = .ok (.lload_n 3, 1) := by decide +kernel
theorem dX4_numberFrom_63 : decode cX4_numberFrom 63 = .ok (.ldc2_w 134, 3) := by decide +kernel
theorem dX4_numberFrom_66 : decode cX4_numberFrom 66 = .ok (.lmul, 1) := by decide +kernel
theorem dX4_numberFrom_67 : decode cX4_numberFrom 67 = .ok (.aload_n 0, 1) := by decide +kernel
theorem dX4_numberFrom_68 : decode cX4_numberFrom 68 = .ok (.iload 7, 2) := by decide +kernel
theorem dX4_numberFrom_70 : decode cX4_numberFrom 70 = .ok (.invokevirtual 98, 3) := by decide +kernel
theorem dX4_numberFrom_73 : decode cX4_numberFrom 73 = .ok (.i2l, 1) := by decide +kernel
theorem dX4_numberFrom_74 : decode cX4_numberFrom 74 = .ok (.ladd, 1) := by decide +kernel
theorem dX4_numberFrom_75 : decode cX4_numberFrom 75 = .ok (.ldc2_w 136, 3) := by decide +kernel
theorem dX4_numberFrom_78 : decode cX4_numberFrom 78 = .ok (.lsub, 1) := by decide +kernel
theorem dX4_numberFrom_79 : decode cX4_numberFrom 79 = .ok (.lstore_n 3, 1) := by decide +kernel
theorem dX4_numberFrom_80 : decode cX4_numberFrom 80 = .ok (.iload 8, 2) := by decide +kernel
theorem dX4_numberFrom_82 : decode cX4_numberFrom 82 = .ok (.ifCond .eq 12, 3) := by decide +kernel
theorem dX4_numberFrom_85 : decode cX4_numberFrom 85 = .ok (.lload 5, 2) := by decide +kernel
theorem dX4_numberFrom_87 : decode cX4_numberFrom 87 = .ok (.ldc2_w 134, 3) := by decide +kernel
theorem dX4_numberFrom_90 : decode cX4_numberFrom 90 = .ok (.lmul, 1) := by decide +kernel
theorem dX4_numberFrom_91 : decode cX4_numberFrom 91 = .ok (.goto 5, 3) := by decide +kernel
theorem dX4_numberFrom_94 : decode cX4_numberFrom 94 = .ok (.lload 5, 2) := by decide +kernel
theorem dX4_numberFrom_96 : decode cX4_numberFrom 96 = .ok (.lstore 5, 2) := by decide +kernel
theorem dX4_numberFrom_98 : decode cX4_numberFrom 98 = .ok (.iinc 7 1, 3) := by decide +kernel
theorem dX4_numberFrom_101 : decode cX4_numberFrom 101 = .ok (.goto (-90), 3) := by decide +kernel
theorem dX4_numberFrom_104 : decode cX4_numberFrom 104 = .ok (.new 128, 3) := by decide +kernel
theorem dX4_numberFrom_107 : decode cX4_numberFrom 107 = .ok (.dup, 1) := by decide +kernel
theorem dX4_numberFrom_108 : decode cX4_numberFrom 108 = .ok (.invokespecial 138, 3) := by decide +kernel
theorem dX4_numberFrom_111 : decode cX4_numberFrom 111 = .ok (.astore 9, 2) := by decide +kernel
theorem dX4_numberFrom_113 : decode cX4_numberFrom 113 = .ok (.aload 9, 2) := by decide +kernel
theorem dX4_numberFrom_115 : decode cX4_numberFrom 115 = .ok (.getfield 139, 3) := by decide +kernel
theorem dX4_numberFrom_118 : decode cX4_numberFrom 118 = .ok (.lload_n 3, 1) := by decide +kernel
theorem dX4_numberFrom_119 : decode cX4_numberFrom 119 = .ok (.invokevirtual 143, 3) := by decide +kernel
theorem dX4_numberFrom_122 : decode cX4_numberFrom 122 = .ok (.iload 8, 2) := by decide +kernel
theorem dX4_numberFrom_124 : decode cX4_numberFrom 124 = .ok (.ifCond .eq 93, 3) := by decide +kernel
theorem dX4_numberFrom_127 : decode cX4_numberFrom 127 = .ok (.aload_n 0, 1) := by decide +kernel
theorem dX4_numberFrom_128 : decode cX4_numberFrom 128 = .ok (.iload 7, 2) := by decide +kernel
theorem dX4_numberFrom_130 : decode cX4_numberFrom 130 = .ok (.invokevirtual 98, 3) := by decide +kernel
theorem dX4_numberFrom_133 : decode cX4_numberFrom 133 = .ok (.bipush 91, 2) := by decide +kernel
theorem dX4_numberFrom_135 : decode cX4_numberFrom 135 = .ok (.if_icmp .ne 82, 3) := by decide +kernel
theorem dX4_numberFrom_138 : decode cX4_numberFrom 138 = .ok (.iconst 0, 1) := by decide +kernel
theorem dX4_numberFrom_139 : decode cX4_numberFrom 139 = .ok (.istore 10, 2) := by decide +kernel
theorem dX4_numberFrom_141 : decode cX4_numberFrom 141 = .ok (.iconst 1, 1) := by decide +kernel
theorem dX4_numberFrom_142 : decode cX4_numberFrom 142 = .ok (.istore 11, 2) := by decide +kernel
theorem dX4_numberFrom_144 : decode cX4_numberFrom 144 = .ok (.iinc 7 1, 3) := by decide +kernel
theorem dX4_numberFrom_147 : decode cX4_numberFrom 147 = .ok (.aload_n 0, 1) := by decide +kernel
theorem dX4_numberFrom_148 : decode cX4_numberFrom 148 = .ok (.iload 7, 2) := by decide +kernel
theorem dX4_numberFrom_150 : decode cX4_numberFrom 150 = .ok (.invokevirtual 101, 3) := by decide +kernel
theorem dX4_numberFrom_153 : decode cX4_numberFrom 153 = .ok (.ifCond .eq 40, 3) := by decide +kernel
theorem dX4_numberFrom_156 : decode cX4_numberFrom 156 = .ok (.iload 11, 2) := by decide +kernel
theorem dX4_numberFrom_158 : decode cX4_numberFrom 158 = .ok (.ldc 149, 2) := by decide +kernel
theorem dX4_numberFrom_160 : decode cX4_numberFrom 160 = .ok (.if_icmp .ge 33, 3) := by decide +kernel
theorem dX4_numberFrom_163 : decode cX4_numberFrom 163 = .ok (.iload 10, 2) := by decide +kernel
theorem dX4_numberFrom_165 : decode cX4_numberFrom 165 = .ok (.bipush 10, 2) := by decide +kernel
theorem dX4_numberFrom_167 : decode cX4_numberFrom 167 = .ok (.imul, 1) := by decide +kernel
theorem dX4_numberFrom_168 : decode cX4_numberFrom 168 = .ok (.aload_n 0, 1) := by decide +kernel
theorem dX4_numberFrom_169 : decode cX4_numberFrom 169 = .ok (.iload 7, 2) := by decide +kernel
theorem dX4_numberFrom_171 : decode cX4_numberFrom 171 = .ok (.invokevirtual 98, 3) := by decide +kernel
theorem dX4_numberFrom_174 : decode cX4_numberFrom 174 = .ok (.iadd, 1) := by decide +kernel
theorem dX4_numberFrom_175 : decode cX4_numberFrom 175 = .ok (.bipush 48, 2) := by decide +kernel
theorem dX4_numberFrom_177 : decode cX4_numberFrom 177 = .ok (.isub, 1) := by decide +kernel
theorem dX4_numberFrom_178 : decode cX4_numberFrom 178 = .ok (.istore 10, 2) := by decide +kernel
theorem dX4_numberFrom_180 : decode cX4_numberFrom 180 = .ok (.iload 11, 2) := by decide +kernel
theorem dX4_numberFrom_182 : decode cX4_numberFrom 182 = .ok (.bipush 10, 2) := by decide +kernel
theorem dX4_numberFrom_184 : decode cX4_numberFrom 184 = .ok (.imul, 1) := by decide +kernel
theorem dX4_numberFrom_185 : decode cX4_numberFrom 185 = .ok (.istore 11, 2) := by decide +kernel
theorem dX4_numberFrom_187 : decode cX4_numberFrom 187 = .ok (.iinc 7 1, 3) := by decide +kernel
theorem dX4_numberFrom_190 : decode cX4_numberFrom 190 = .ok (.goto (-43), 3) := by decide +kernel
theorem dX4_numberFrom_193 : decode cX4_numberFrom 193 = .ok (.aload 9, 2) := by decide +kernel
theorem dX4_numberFrom_195 : decode cX4_numberFrom 195 = .ok (.getfield 139, 3) := by decide +kernel
theorem dX4_numberFrom_198 : decode cX4_numberFrom 198 = .ok (.iload 11, 2) := by decide +kernel
theorem dX4_numberFrom_200 : decode cX4_numberFrom 200 = .ok (.iconst 1, 1) := by decide +kernel
theorem dX4_numberFrom_201 : decode cX4_numberFrom 201 = .ok (.isub, 1) := by decide +kernel
theorem dX4_numberFrom_202 : decode cX4_numberFrom 202 = .ok (.iload 10, 2) := by decide +kernel
theorem dX4_numberFrom_204 : decode cX4_numberFrom 204 = .ok (.invokevirtual 150, 3) := by decide +kernel
theorem dX4_numberFrom_207 : decode cX4_numberFrom 207 = .ok (.lload 5, 2) := by decide +kernel
theorem dX4_numberFrom_209 : decode cX4_numberFrom 209 = .ok (.iload 11, 2) := by decide +kernel
theorem dX4_numberFrom_211 : decode cX4_numberFrom 211 = .ok (.iconst 1, 1) := by decide +kernel
theorem dX4_numberFrom_212 : decode cX4_numberFrom 212 = .ok (.isub, 1) := by decide +kernel
theorem dX4_numberFrom_213 : decode cX4_numberFrom 213 = .ok (.i2l, 1) := by decide +kernel
theorem dX4_numberFrom_214 : decode cX4_numberFrom 214 = .ok (.lmul, 1) := by decide +kernel
theorem dX4_numberFrom_215 : decode cX4_numberFrom 215 = .ok (.lstore 5, 2) := by decide +kernel
theorem dX4_numberFrom_217 : decode cX4_numberFrom 217 = .ok (.aload 9, 2) := by decide +kernel
theorem dX4_numberFrom_219 : decode cX4_numberFrom 219 = .ok (.getfield 154, 3) := by decide +kernel
theorem dX4_numberFrom_222 : decode cX4_numberFrom 222 = .ok (.lload 5, 2) := by decide +kernel
theorem dX4_numberFrom_224 : decode cX4_numberFrom 224 = .ok (.invokevirtual 143, 3) := by decide +kernel
theorem dX4_numberFrom_227 : decode cX4_numberFrom 227 = .ok (.aload 9, 2) := by decide +kernel
theorem dX4_numberFrom_229 : decode cX4_numberFrom 229 = .ok (.iconst 1, 1) := by decide +kernel
theorem dX4_numberFrom_230 : decode cX4_numberFrom 230 = .ok (.invokevirtual 157, 3) := by decide +kernel
theorem dX4_numberFrom_233 : decode cX4_numberFrom 233 = .ok (.aload_n 2, 1) := by decide +kernel
theorem dX4_numberFrom_234 : decode cX4_numberFrom 234 = .ok (.aload 9, 2) := by decide +kernel
theorem dX4_numberFrom_236 : decode cX4_numberFrom 236 = .ok (.invokevirtual 161, 3) := by decide +kernel
theorem dX4_numberFrom_239 : decode cX4_numberFrom 239 = .ok (.aload 9, 2) := by decide +kernel
theorem dX4_numberFrom_241 : decode cX4_numberFrom 241 = .ok (.areturn, 1) := by decide +kernel
theorem dX4_tokenAt_0 : decode cX4_tokenAt 0 = .ok (.iload_n 1, 1) := by decide +kernel
theorem dX4_tokenAt_1 : decode cX4_tokenAt 1 = .ok (.ifCond .lt 20, 3) := by decide +kernel
theorem dX4_tokenAt_4 : decode cX4_tokenAt 4 = .ok (.iload_n 1, 1) := by decide +kernel
theorem dX4_tokenAt_5 : decode cX4_tokenAt 5 = .ok (.aload_n 0, 1) := by decide +kernel
theorem dX4_tokenAt_6 : decode cX4_tokenAt 6 = .ok (.getfield 104, 3) := by decide +kernel
theorem dX4_tokenAt_9 : decode cX4_tokenAt 9 = .ok (.if_icmp .ge 12, 3) := by decide +kernel
theorem dX4_tokenAt_12 : decode cX4_tokenAt 12 = .ok (.aload_n 0, 1) := by decide +kernel
theorem dX4_tokenAt_13 : decode cX4_tokenAt 13 = .ok (.getfield 15, 3) := by decide +kernel
theorem dX4_tokenAt_16 : decode cX4_tokenAt 16 = .ok (.iload_n 1, 1) := by decide +kernel
theorem dX4_tokenAt_17 : decode cX4_tokenAt 17 = .ok (.iaload, 1) := by decide +kernel
theorem dX4_tokenAt_18 : decode cX4_tokenAt 18 = .ok (.goto 4, 3) := by decide +kernel
theorem dX4_tokenAt_21 : decode cX4_tokenAt 21 = .ok (.iconst 0, 1) := by decide +kernel
theorem dX4_tokenAt_22 : decode cX4_tokenAt 22 = .ok (.ireturn, 1) := by decide +kernel
theorem dX4_startAt_0 : decode cX4_startAt 0 = .ok (.iload_n 1, 1) := by decide +kernel
theorem dX4_startAt_1 : decode cX4_startAt 1 = .ok (.ifCond .lt 20, 3) := by decide +kernel
theorem dX4_startAt_4 : decode cX4_startAt 4 = .ok (.iload_n 1, 1) := by decide +kernel
theorem dX4_startAt_5 : decode cX4_startAt 5 = .ok (.aload_n 0, 1) := by decide +kernel
theorem dX4_startAt_6 : decode cX4_startAt 6 = .ok (.getfield 104, 3) := by decide +kernel
theorem dX4_startAt_9 : decode cX4_startAt 9 = .ok (.if_icmp .ge 12, 3) := by decide +kernel
theorem dX4_startAt_12 : decode cX4_startAt 12 = .ok (.aload_n 0, 1) := by decide +kernel
theorem dX4_startAt_13 : decode cX4_startAt 13 = .ok (.getfield 18, 3) := by decide +kernel
theorem dX4_startAt_16 : decode cX4_startAt 16 = .ok (.iload_n 1, 1) := by decide +kernel
theorem dX4_startAt_17 : decode cX4_startAt 17 = .ok (.iaload, 1) := by decide +kernel
theorem dX4_startAt_18 : decode cX4_startAt 18 = .ok (.goto 7, 3) := by decide +kernel
theorem dX4_startAt_21 : decode cX4_startAt 21 = .ok (.aload_n 0, 1) := by decide +kernel
theorem dX4_startAt_22 : decode cX4_startAt 22 = .ok (.getfield 45, 3) := by decide +kernel
theorem dX4_startAt_25 : decode cX4_startAt 25 = .ok (.ireturn, 1) := by decide +kernel
theorem dX4_wordAt_0 : decode cX4_wordAt 0 = .ok (.iload_n 1, 1) := by decide +kernel
theorem dX4_wordAt_1 : decode cX4_wordAt 1 = .ok (.ifCond .lt 20, 3) := by decide +kernel
theorem dX4_wordAt_4 : decode cX4_wordAt 4 = .ok (.iload_n 1, 1) := by decide +kernel
theorem dX4_wordAt_5 : decode cX4_wordAt 5 = .ok (.aload_n 0, 1) := by decide +kernel
theorem dX4_wordAt_6 : decode cX4_wordAt 6 = .ok (.getfield 104, 3) := by decide +kernel
theorem dX4_wordAt_9 : decode cX4_wordAt 9 = .ok (.if_icmp .ge 12, 3) := by decide +kernel
theorem dX4_wordAt_12 : decode cX4_wordAt 12 = .ok (.aload_n 0, 1) := by decide +kernel
theorem dX4_wordAt_13 : decode cX4_wordAt 13 = .ok (.getfield 21, 3) := by decide +kernel
theorem dX4_wordAt_16 : decode cX4_wordAt 16 = .ok (.iload_n 1, 1) := by decide +kernel
theorem dX4_wordAt_17 : decode cX4_wordAt 17 = .ok (.iaload, 1) := by decide +kernel
theorem dX4_wordAt_18 : decode cX4_wordAt 18 = .ok (.goto 4, 3) := by decide +kernel
theorem dX4_wordAt_21 : decode cX4_wordAt 21 = .ok (.iconst 0, 1) := by decide +kernel
theorem dX4_wordAt_22 : decode cX4_wordAt 22 = .ok (.ireturn, 1) := by decide +kernel
theorem dX4_formAhead_0 : decode cX4_formAhead 0 = .ok (.aload_n 0, 1) := by decide +kernel
theorem dX4_formAhead_1 : decode cX4_formAhead 1 = .ok (.iconst 0, 1) := by decide +kernel
theorem dX4_formAhead_2 : decode cX4_formAhead 2 = .ok (.invokevirtual 72, 3) := by decide +kernel
theorem dX4_formAhead_5 : decode cX4_formAhead 5 = .ok (.iconst 1, 1) := by decide +kernel
theorem dX4_formAhead_6 : decode cX4_formAhead 6 = .ok (.if_icmp .eq 5, 3) := by decide +kernel
theorem dX4_formAhead_9 : decode cX4_formAhead 9 = .ok (.iconst 0, 1) := by decide +kernel
theorem dX4_formAhead_10 : decode cX4_formAhead 10 = .ok (.ireturn, 1) := by decide +kernel
theorem dX4_formAhead_11 : decode cX4_formAhead 11 = .ok (.aload_n 0, 1) := by decide +kernel
theorem dX4_formAhead_12 : decode cX4_formAhead 12 = .ok (.iconst 1, 1) := by decide +kernel
theorem dX4_formAhead_13 : decode cX4_formAhead 13 = .ok (.invokevirtual 72, 3) := by decide +kernel
theorem dX4_formAhead_16 : decode cX4_formAhead 16 = .ok (.bipush 61, 2) := by decide +kernel
theorem dX4_formAhead_18 : decode cX4_formAhead 18 = .ok (.if_icmp .ne 5, 3) := by decide +kernel
theorem dX4_formAhead_21 : decode cX4_formAhead 21 = .ok (.iconst 1, 1) := by decide +kernel
theorem dX4_formAhead_22 : decode cX4_formAhead 22 = .ok (.ireturn, 1) := by decide +kernel
theorem dX4_formAhead_23 : decode cX4_formAhead 23 = .ok (.iconst 2, 1) := by decide +kernel
theorem dX4_formAhead_24 : decode cX4_formAhead 24 = .ok (.istore_n 1, 1) := by decide +kernel
theorem dX4_formAhead_25 : decode cX4_formAhead 25 = .ok (.iload_n 1, 1) := by decide +kernel
theorem dX4_formAhead_26 : decode cX4_formAhead 26 = .ok (.aload_n 0, 1) := by decide +kernel
theorem dX4_formAhead_27 : decode cX4_formAhead 27 = .ok (.getfield 104, 3) := by decide +kernel
theorem dX4_formAhead_30 : decode cX4_formAhead 30 = .ok (.if_icmp .ge 30, 3) := by decide +kernel
theorem dX4_formAhead_33 : decode cX4_formAhead 33 = .ok (.aload_n 0, 1) := by decide +kernel
theorem dX4_formAhead_34 : decode cX4_formAhead 34 = .ok (.iload_n 1, 1) := by decide +kernel
theorem dX4_formAhead_35 : decode cX4_formAhead 35 = .ok (.invokevirtual 72, 3) := by decide +kernel
theorem dX4_formAhead_38 : decode cX4_formAhead 38 = .ok (.iconst 1, 1) := by decide +kernel
theorem dX4_formAhead_39 : decode cX4_formAhead 39 = .ok (.if_icmp .ne 21, 3) := by decide +kernel
theorem dX4_formAhead_42 : decode cX4_formAhead 42 = .ok (.aload_n 0, 1) := by decide +kernel
theorem dX4_formAhead_43 : decode cX4_formAhead 43 = .ok (.iload_n 1, 1) := by decide +kernel
theorem dX4_formAhead_44 : decode cX4_formAhead 44 = .ok (.iconst 1, 1) := by decide +kernel
theorem dX4_formAhead_45 : decode cX4_formAhead 45 = .ok (.iadd, 1) := by decide +kernel
theorem dX4_formAhead_46 : decode cX4_formAhead 46 = .ok (.invokevirtual 72, 3) := by decide +kernel
theorem dX4_formAhead_49 : decode cX4_formAhead 49 = .ok (.bipush 44, 2) := by decide +kernel
theorem dX4_formAhead_51 : decode cX4_formAhead 51 = .ok (.if_icmp .ne 9, 3) := by decide +kernel
theorem dX4_formAhead_54 : decode cX4_formAhead 54 = .ok (.iinc 1 2, 3) := by decide +kernel
theorem dX4_formAhead_57 : decode cX4_formAhead 57 = .ok (.goto (-32), 3) := by decide +kernel
theorem dX4_formAhead_60 : decode cX4_formAhead 60 = .ok (.aload_n 0, 1) := by decide +kernel
theorem dX4_formAhead_61 : decode cX4_formAhead 61 = .ok (.iconst 1, 1) := by decide +kernel
theorem dX4_formAhead_62 : decode cX4_formAhead 62 = .ok (.invokevirtual 72, 3) := by decide +kernel
theorem dX4_formAhead_65 : decode cX4_formAhead 65 = .ok (.bipush 40, 2) := by decide +kernel
theorem dX4_formAhead_67 : decode cX4_formAhead 67 = .ok (.if_icmp .ne 40, 3) := by decide +kernel
theorem dX4_formAhead_70 : decode cX4_formAhead 70 = .ok (.aload_n 0, 1) := by decide +kernel
theorem dX4_formAhead_71 : decode cX4_formAhead 71 = .ok (.iload_n 1, 1) := by decide +kernel
theorem dX4_formAhead_72 : decode cX4_formAhead 72 = .ok (.invokevirtual 72, 3) := by decide +kernel
theorem dX4_formAhead_75 : decode cX4_formAhead 75 = .ok (.iconst 1, 1) := by decide +kernel
theorem dX4_formAhead_76 : decode cX4_formAhead 76 = .ok (.if_icmp .ne 31, 3) := by decide +kernel
theorem dX4_formAhead_79 : decode cX4_formAhead 79 = .ok (.aload_n 0, 1) := by decide +kernel
theorem dX4_formAhead_80 : decode cX4_formAhead 80 = .ok (.iload_n 1, 1) := by decide +kernel
theorem dX4_formAhead_81 : decode cX4_formAhead 81 = .ok (.iconst 1, 1) := by decide +kernel
theorem dX4_formAhead_82 : decode cX4_formAhead 82 = .ok (.iadd, 1) := by decide +kernel
theorem dX4_formAhead_83 : decode cX4_formAhead 83 = .ok (.invokevirtual 72, 3) := by decide +kernel
theorem dX4_formAhead_86 : decode cX4_formAhead 86 = .ok (.bipush 41, 2) := by decide +kernel
theorem dX4_formAhead_88 : decode cX4_formAhead 88 = .ok (.if_icmp .ne 19, 3) := by decide +kernel
theorem dX4_formAhead_91 : decode cX4_formAhead 91 = .ok (.aload_n 0, 1) := by decide +kernel
theorem dX4_formAhead_92 : decode cX4_formAhead 92 = .ok (.iload_n 1, 1) := by decide +kernel
theorem dX4_formAhead_93 : decode cX4_formAhead 93 = .ok (.iconst 2, 1) := by decide +kernel
theorem dX4_formAhead_94 : decode cX4_formAhead 94 = .ok (.iadd, 1) := by decide +kernel
theorem dX4_formAhead_95 : decode cX4_formAhead 95 = .ok (.invokevirtual 72, 3) := by decide +kernel
theorem dX4_formAhead_98 : decode cX4_formAhead 98 = .ok (.bipush 61, 2) := by decide +kernel
theorem dX4_formAhead_100 : decode cX4_formAhead 100 = .ok (.if_icmp .ne 7, 3) := by decide +kernel
theorem dX4_formAhead_103 : decode cX4_formAhead 103 = .ok (.iconst 1, 1) := by decide +kernel
theorem dX4_formAhead_104 : decode cX4_formAhead 104 = .ok (.goto 4, 3) := by decide +kernel
theorem dX4_formAhead_107 : decode cX4_formAhead 107 = .ok (.iconst 0, 1) := by decide +kernel
theorem dX4_formAhead_108 : decode cX4_formAhead 108 = .ok (.istore_n 2, 1) := by decide +kernel
theorem dX4_formAhead_109 : decode cX4_formAhead 109 = .ok (.iload_n 2, 1) := by decide +kernel
theorem dX4_formAhead_110 : decode cX4_formAhead 110 = .ok (.ifCond .eq 7, 3) := by decide +kernel
theorem dX4_formAhead_113 : decode cX4_formAhead 113 = .ok (.iconst 2, 1) := by decide +kernel
theorem dX4_formAhead_114 : decode cX4_formAhead 114 = .ok (.goto 4, 3) := by decide +kernel
theorem dX4_formAhead_117 : decode cX4_formAhead 117 = .ok (.iconst 0, 1) := by decide +kernel
theorem dX4_formAhead_118 : decode cX4_formAhead 118 = .ok (.ireturn, 1) := by decide +kernel
theorem dX4_head_0 : decode cX4_head 0 = .ok (.aload_n 0, 1) := by decide +kernel
theorem dX4_head_1 : decode cX4_head 1 = .ok (.aload_n 0, 1) := by decide +kernel
theorem dX4_head_2 : decode cX4_head 2 = .ok (.invokevirtual 167, 3) := by decide +kernel
theorem dX4_head_5 : decode cX4_head 5 = .ok (.putfield 171, 3) := by decide +kernel
theorem dX4_head_8 : decode cX4_head 8 = .ok (.aload_n 0, 1) := by decide +kernel
theorem dX4_head_9 : decode cX4_head 9 = .ok (.getfield 171, 3) := by decide +kernel
theorem dX4_head_12 : decode cX4_head 12 = .ok (.ifCond .ne 5, 3) := by decide +kernel
theorem dX4_head_15 : decode cX4_head 15 = .ok (.iconst 1, 1) := by decide +kernel
theorem dX4_head_16 : decode cX4_head 16 = .ok (.ireturn, 1) := by decide +kernel
theorem dX4_head_17 : decode cX4_head 17 = .ok (.aload_n 0, 1) := by decide +kernel
theorem dX4_head_18 : decode cX4_head 18 = .ok (.aload_n 0, 1) := by decide +kernel
theorem dX4_head_19 : decode cX4_head 19 = .ok (.iconst 0, 1) := by decide +kernel
theorem dX4_head_20 : decode cX4_head 20 = .ok (.invokevirtual 174, 3) := by decide +kernel
theorem dX4_head_23 : decode cX4_head 23 = .ok (.putfield 177, 3) := by decide +kernel
theorem dX4_head_26 : decode cX4_head 26 = .ok (.aload_n 0, 1) := by decide +kernel
theorem dX4_head_27 : decode cX4_head 27 = .ok (.aload_n 0, 1) := by decide +kernel
theorem dX4_head_28 : decode cX4_head 28 = .ok (.iconst 0, 1) := by decide +kernel
theorem dX4_head_29 : decode cX4_head 29 = .ok (.invokevirtual 76, 3) := by decide +kernel
theorem dX4_head_32 : decode cX4_head 32 = .ok (.putfield 180, 3) := by decide +kernel
theorem dX4_head_35 : decode cX4_head 35 = .ok (.aload_n 0, 1) := by decide +kernel
theorem dX4_head_36 : decode cX4_head 36 = .ok (.iconst 2, 1) := by decide +kernel
theorem dX4_head_37 : decode cX4_head 37 = .ok (.putfield 61, 3) := by decide +kernel
theorem dX4_head_40 : decode cX4_head 40 = .ok (.aload_n 0, 1) := by decide +kernel
theorem dX4_head_41 : decode cX4_head 41 = .ok (.getfield 171, 3) := by decide +kernel
theorem dX4_head_44 : decode cX4_head 44 = .ok (.iconst 1, 1) := by decide +kernel
theorem dX4_head_45 : decode cX4_head 45 = .ok (.if_icmp .ne 5, 3) := by decide +kernel
theorem dX4_head_48 : decode cX4_head 48 = .ok (.iconst 1, 1) := by decide +kernel
theorem dX4_head_49 : decode cX4_head 49 = .ok (.ireturn, 1) := by decide +kernel
theorem dX4_head_50 : decode cX4_head 50 = .ok (.iconst 0, 1) := by decide +kernel
theorem dX4_head_51 : decode cX4_head 51 = .ok (.istore_n 1, 1) := by decide +kernel
theorem dX4_head_52 : decode cX4_head 52 = .ok (.iload_n 1, 1) := by decide +kernel
theorem dX4_head_53 : decode cX4_head 53 = .ok (.ifCond .ne 100, 3) := by decide +kernel
theorem dX4_head_56 : decode cX4_head 56 = .ok (.aload_n 0, 1) := by decide +kernel
theorem dX4_head_57 : decode cX4_head 57 = .ok (.getfield 61, 3) := by decide +kernel
theorem dX4_head_60 : decode cX4_head 60 = .ok (.aload_n 0, 1) := by decide +kernel
theorem dX4_head_61 : decode cX4_head 61 = .ok (.getfield 104, 3) := by decide +kernel
theorem dX4_head_64 : decode cX4_head 64 = .ok (.if_icmp .ge 89, 3) := by decide +kernel
theorem dX4_head_67 : decode cX4_head 67 = .ok (.aload_n 0, 1) := by decide +kernel
theorem dX4_head_68 : decode cX4_head 68 = .ok (.aload_n 0, 1) := by decide +kernel
theorem dX4_head_69 : decode cX4_head 69 = .ok (.getfield 61, 3) := by decide +kernel
theorem dX4_head_72 : decode cX4_head 72 = .ok (.invokevirtual 174, 3) := by decide +kernel
theorem dX4_head_75 : decode cX4_head 75 = .ok (.istore_n 2, 1) := by decide +kernel
theorem dX4_head_76 : decode cX4_head 76 = .ok (.aload_n 0, 1) := by decide +kernel
theorem dX4_head_77 : decode cX4_head 77 = .ok (.getfield 58, 3) := by decide +kernel
theorem dX4_head_80 : decode cX4_head 80 = .ok (.aload_n 0, 1) := by decide +kernel
theorem dX4_head_81 : decode cX4_head 81 = .ok (.getfield 36, 3) := by decide +kernel
theorem dX4_head_84 : decode cX4_head 84 = .ok (.arraylength, 1) := by decide +kernel
theorem dX4_head_85 : decode cX4_head 85 = .ok (.if_icmp .ge 12, 3) := by decide +kernel
theorem dX4_head_88 : decode cX4_head 88 = .ok (.aload_n 0, 1) := by decide +kernel
theorem dX4_head_89 : decode cX4_head 89 = .ok (.iload_n 2, 1) := by decide +kernel
theorem dX4_head_90 : decode cX4_head 90 = .ok (.invokevirtual 183, 3) := by decide +kernel
theorem dX4_head_93 : decode cX4_head 93 = .ok (.iconst (-1), 1) := by decide +kernel
theorem dX4_head_94 : decode cX4_head 94 = .ok (.if_icmp .eq 5, 3) := by decide +kernel
theorem dX4_head_97 : decode cX4_head 97 = .ok (.iconst 0, 1) := by decide +kernel
theorem dX4_head_98 : decode cX4_head 98 = .ok (.ireturn, 1) := by decide +kernel
theorem dX4_head_99 : decode cX4_head 99 = .ok (.aload_n 0, 1) := by decide +kernel
theorem dX4_head_100 : decode cX4_head 100 = .ok (.getfield 36, 3) := by decide +kernel
theorem dX4_head_103 : decode cX4_head 103 = .ok (.aload_n 0, 1) := by decide +kernel
theorem dX4_head_104 : decode cX4_head 104 = .ok (.getfield 58, 3) := by decide +kernel
theorem dX4_head_107 : decode cX4_head 107 = .ok (.iload_n 2, 1) := by decide +kernel
theorem dX4_head_108 : decode cX4_head 108 = .ok (.iastore, 1) := by decide +kernel
theorem dX4_head_109 : decode cX4_head 109 = .ok (.aload_n 0, 1) := by decide +kernel
theorem dX4_head_110 : decode cX4_head 110 = .ok (.dup, 1) := by decide +kernel
theorem dX4_head_111 : decode cX4_head 111 = .ok (.getfield 58, 3) := by decide +kernel
theorem dX4_head_114 : decode cX4_head 114 = .ok (.iconst 1, 1) := by decide +kernel
theorem dX4_head_115 : decode cX4_head 115 = .ok (.iadd, 1) := by decide +kernel
theorem dX4_head_116 : decode cX4_head 116 = .ok (.putfield 58, 3) := by decide +kernel
theorem dX4_head_119 : decode cX4_head 119 = .ok (.aload_n 0, 1) := by decide +kernel
theorem dX4_head_120 : decode cX4_head 120 = .ok (.aload_n 0, 1) := by decide +kernel
theorem dX4_head_121 : decode cX4_head 121 = .ok (.getfield 61, 3) := by decide +kernel
theorem dX4_head_124 : decode cX4_head 124 = .ok (.iconst 1, 1) := by decide +kernel
theorem dX4_head_125 : decode cX4_head 125 = .ok (.iadd, 1) := by decide +kernel
theorem dX4_head_126 : decode cX4_head 126 = .ok (.invokevirtual 72, 3) := by decide +kernel
theorem dX4_head_129 : decode cX4_head 129 = .ok (.bipush 41, 2) := by decide +kernel
theorem dX4_head_131 : decode cX4_head 131 = .ok (.if_icmp .ne 7, 3) := by decide +kernel
theorem dX4_head_134 : decode cX4_head 134 = .ok (.iconst 1, 1) := by decide +kernel
theorem dX4_head_135 : decode cX4_head 135 = .ok (.goto 4, 3) := by decide +kernel
theorem dX4_head_138 : decode cX4_head 138 = .ok (.iconst 0, 1) := by decide +kernel
theorem dX4_head_139 : decode cX4_head 139 = .ok (.istore_n 1, 1) := by decide +kernel
theorem dX4_head_140 : decode cX4_head 140 = .ok (.aload_n 0, 1) := by decide +kernel
theorem dX4_head_141 : decode cX4_head 141 = .ok (.dup, 1) := by decide +kernel
theorem dX4_head_142 : decode cX4_head 142 = .ok (.getfield 61, 3) := by decide +kernel
theorem dX4_head_145 : decode cX4_head 145 = .ok (.iconst 2, 1) := by decide +kernel
theorem dX4_head_146 : decode cX4_head 146 = .ok (.iadd, 1) := by decide +kernel
theorem dX4_head_147 : decode cX4_head 147 = .ok (.putfield 61, 3) := by decide +kernel
theorem dX4_head_150 : decode cX4_head 150 = .ok (.goto (-98), 3) := by decide +kernel
theorem dX4_head_153 : decode cX4_head 153 = .ok (.aload_n 0, 1) := by decide +kernel
theorem dX4_head_154 : decode cX4_head 154 = .ok (.dup, 1) := by decide +kernel
theorem dX4_head_155 : decode cX4_head 155 = .ok (.getfield 61, 3) := by decide +kernel
theorem dX4_head_158 : decode cX4_head 158 = .ok (.iconst 1, 1) := by decide +kernel
theorem dX4_head_159 : decode cX4_head 159 = .ok (.iadd, 1) := by decide +kernel
theorem dX4_head_160 : decode cX4_head 160 = .ok (.putfield 61, 3) := by decide +kernel
theorem dX4_head_163 : decode cX4_head 163 = .ok (.iconst 1, 1) := by decide +kernel
theorem dX4_head_164 : decode cX4_head 164 = .ok (.ireturn, 1) := by decide +kernel
theorem dX4_parameterOf_0 : decode cX4_parameterOf 0 = .ok (.iconst 0, 1) := by decide +kernel
theorem dX4_parameterOf_1 : decode cX4_parameterOf 1 = .ok (.istore_n 2, 1) := by decide +kernel
theorem dX4_parameterOf_2 : decode cX4_parameterOf 2 = .ok (.iload_n 2, 1) := by decide +kernel
theorem dX4_parameterOf_3 : decode cX4_parameterOf 3 = .ok (.aload_n 0, 1) := by decide +kernel
theorem dX4_parameterOf_4 : decode cX4_parameterOf 4 = .ok (.getfield 58, 3) := by decide +kernel
theorem dX4_parameterOf_7 : decode cX4_parameterOf 7 = .ok (.if_icmp .ge 30, 3) := by decide +kernel
theorem dX4_parameterOf_10 : decode cX4_parameterOf 10 = .ok (.iload_n 2, 1) := by decide +kernel
theorem dX4_parameterOf_11 : decode cX4_parameterOf 11 = .ok (.aload_n 0, 1) := by decide +kernel
theorem dX4_parameterOf_12 : decode cX4_parameterOf 12 = .ok (.getfield 36, 3) := by decide +kernel
theorem dX4_parameterOf_15 : decode cX4_parameterOf 15 = .ok (.arraylength, 1) := by decide +kernel
theorem dX4_parameterOf_16 : decode cX4_parameterOf 16 = .ok (.if_icmp .ge 21, 3) := by decide +kernel
theorem dX4_parameterOf_19 : decode cX4_parameterOf 19 = .ok (.aload_n 0, 1) := by decide +kernel
theorem dX4_parameterOf_20 : decode cX4_parameterOf 20 = .ok (.getfield 36, 3) := by decide +kernel
theorem dX4_parameterOf_23 : decode cX4_parameterOf 23 = .ok (.iload_n 2, 1) := by decide +kernel
theorem dX4_parameterOf_24 : decode cX4_parameterOf 24 = .ok (.iaload, 1) := by decide +kernel
theorem dX4_parameterOf_25 : decode cX4_parameterOf 25 = .ok (.iload_n 1, 1) := by decide +kernel
theorem dX4_parameterOf_26 : decode cX4_parameterOf 26 = .ok (.if_icmp .ne 5, 3) := by decide +kernel
theorem dX4_parameterOf_29 : decode cX4_parameterOf 29 = .ok (.iload_n 2, 1) := by decide +kernel
theorem dX4_parameterOf_30 : decode cX4_parameterOf 30 = .ok (.ireturn, 1) := by decide +kernel
theorem dX4_parameterOf_31 : decode cX4_parameterOf 31 = .ok (.iinc 2 1, 3) := by decide +kernel
theorem dX4_parameterOf_34 : decode cX4_parameterOf 34 = .ok (.goto (-32), 3) := by decide +kernel
theorem dX4_parameterOf_37 : decode cX4_parameterOf 37 = .ok (.iconst (-1), 1) := by decide +kernel
theorem dX4_parameterOf_38 : decode cX4_parameterOf 38 = .ok (.ireturn, 1) := by decide +kernel
theorem dX4_emit_0 : decode cX4_emit 0 = .ok (.aload_n 0, 1) := by decide +kernel
theorem dX4_emit_1 : decode cX4_emit 1 = .ok (.getfield 52, 3) := by decide +kernel
theorem dX4_emit_4 : decode cX4_emit 4 = .ok (.aload_n 0, 1) := by decide +kernel
theorem dX4_emit_5 : decode cX4_emit 5 = .ok (.getfield 24, 3) := by decide +kernel
theorem dX4_emit_8 : decode cX4_emit 8 = .ok (.arraylength, 1) := by decide +kernel
theorem dX4_emit_9 : decode cX4_emit 9 = .ok (.if_icmp .ge 54, 3) := by decide +kernel
theorem dX4_emit_12 : decode cX4_emit 12 = .ok (.aload_n 0, 1) := by decide +kernel
theorem dX4_emit_13 : decode cX4_emit 13 = .ok (.getfield 24, 3) := by decide +kernel
theorem dX4_emit_16 : decode cX4_emit 16 = .ok (.aload_n 0, 1) := by decide +kernel
theorem dX4_emit_17 : decode cX4_emit 17 = .ok (.getfield 52, 3) := by decide +kernel
theorem dX4_emit_20 : decode cX4_emit 20 = .ok (.iload_n 1, 1) := by decide +kernel
theorem dX4_emit_21 : decode cX4_emit 21 = .ok (.iastore, 1) := by decide +kernel
theorem dX4_emit_22 : decode cX4_emit 22 = .ok (.aload_n 0, 1) := by decide +kernel
theorem dX4_emit_23 : decode cX4_emit 23 = .ok (.getfield 27, 3) := by decide +kernel
theorem dX4_emit_26 : decode cX4_emit 26 = .ok (.aload_n 0, 1) := by decide +kernel
theorem dX4_emit_27 : decode cX4_emit 27 = .ok (.getfield 52, 3) := by decide +kernel
theorem dX4_emit_30 : decode cX4_emit 30 = .ok (.iload_n 2, 1) := by decide +kernel
theorem dX4_emit_31 : decode cX4_emit 31 = .ok (.iastore, 1) := by decide +kernel
theorem dX4_emit_32 : decode cX4_emit 32 = .ok (.aload_n 0, 1) := by decide +kernel
theorem dX4_emit_33 : decode cX4_emit 33 = .ok (.getfield 30, 3) := by decide +kernel
theorem dX4_emit_36 : decode cX4_emit 36 = .ok (.aload_n 0, 1) := by decide +kernel
theorem dX4_emit_37 : decode cX4_emit 37 = .ok (.getfield 52, 3) := by decide +kernel
theorem dX4_emit_40 : decode cX4_emit 40 = .ok (.iload_n 3, 1) := by decide +kernel
theorem dX4_emit_41 : decode cX4_emit 41 = .ok (.iastore, 1) := by decide +kernel
theorem dX4_emit_42 : decode cX4_emit 42 = .ok (.aload_n 0, 1) := by decide +kernel
theorem dX4_emit_43 : decode cX4_emit 43 = .ok (.getfield 33, 3) := by decide +kernel
theorem dX4_emit_46 : decode cX4_emit 46 = .ok (.aload_n 0, 1) := by decide +kernel
theorem dX4_emit_47 : decode cX4_emit 47 = .ok (.getfield 52, 3) := by decide +kernel
theorem dX4_emit_50 : decode cX4_emit 50 = .ok (.iload 4, 2) := by decide +kernel
theorem dX4_emit_52 : decode cX4_emit 52 = .ok (.iastore, 1) := by decide +kernel
theorem dX4_emit_53 : decode cX4_emit 53 = .ok (.aload_n 0, 1) := by decide +kernel
theorem dX4_emit_54 : decode cX4_emit 54 = .ok (.dup, 1) := by decide +kernel
theorem dX4_emit_55 : decode cX4_emit 55 = .ok (.getfield 52, 3) := by decide +kernel
theorem dX4_emit_58 : decode cX4_emit 58 = .ok (.iconst 1, 1) := by decide +kernel
theorem dX4_emit_59 : decode cX4_emit 59 = .ok (.iadd, 1) := by decide +kernel
theorem dX4_emit_60 : decode cX4_emit 60 = .ok (.putfield 52, 3) := by decide +kernel
theorem dX4_emit_63 : decode cX4_emit 63 = .ok (.return_, 1) := by decide +kernel
theorem dX4_readSum_0 : decode cX4_readSum 0 = .ok (.aload_n 0, 1) := by decide +kernel
theorem dX4_readSum_1 : decode cX4_readSum 1 = .ok (.iload_n 1, 1) := by decide +kernel
theorem dX4_readSum_2 : decode cX4_readSum 2 = .ok (.invokevirtual 186, 3) := by decide +kernel
theorem dX4_readSum_5 : decode cX4_readSum 5 = .ok (.ifCond .ne 5, 3) := by decide +kernel
theorem dX4_readSum_8 : decode cX4_readSum 8 = .ok (.iconst 0, 1) := by decide +kernel
theorem dX4_readSum_9 : decode cX4_readSum 9 = .ok (.ireturn, 1) := by decide +kernel
theorem dX4_readSum_10 : decode cX4_readSum 10 = .ok (.aload_n 0, 1) := by decide +kernel
theorem dX4_readSum_11 : decode cX4_readSum 11 = .ok (.getfield 61, 3) := by decide +kernel
theorem dX4_readSum_14 : decode cX4_readSum 14 = .ok (.aload_n 0, 1) := by decide +kernel
theorem dX4_readSum_15 : decode cX4_readSum 15 = .ok (.getfield 104, 3) := by decide +kernel
theorem dX4_readSum_18 : decode cX4_readSum 18 = .ok (.if_icmp .ge 88, 3) := by decide +kernel
theorem dX4_readSum_21 : decode cX4_readSum 21 = .ok (.aload_n 0, 1) := by decide +kernel
theorem dX4_readSum_22 : decode cX4_readSum 22 = .ok (.aload_n 0, 1) := by decide +kernel
theorem dX4_readSum_23 : decode cX4_readSum 23 = .ok (.getfield 61, 3) := by decide +kernel
theorem dX4_readSum_26 : decode cX4_readSum 26 = .ok (.invokevirtual 72, 3) := by decide +kernel
theorem dX4_readSum_29 : decode cX4_readSum 29 = .ok (.bipush 43, 2) := by decide +kernel
theorem dX4_readSum_31 : decode cX4_readSum 31 = .ok (.if_icmp .eq 16, 3) := by decide +kernel
theorem dX4_readSum_34 : decode cX4_readSum 34 = .ok (.aload_n 0, 1) := by decide +kernel
theorem dX4_readSum_35 : decode cX4_readSum 35 = .ok (.aload_n 0, 1) := by decide +kernel
theorem dX4_readSum_36 : decode cX4_readSum 36 = .ok (.getfield 61, 3) := by decide +kernel
theorem dX4_readSum_39 : decode cX4_readSum 39 = .ok (.invokevirtual 72, 3) := by decide +kernel
theorem dX4_readSum_42 : decode cX4_readSum 42 = .ok (.bipush 45, 2) := by decide +kernel
theorem dX4_readSum_44 : decode cX4_readSum 44 = .ok (.if_icmp .ne 62, 3) := by decide +kernel
theorem dX4_readSum_47 : decode cX4_readSum 47 = .ok (.aload_n 0, 1) := by decide +kernel
theorem dX4_readSum_48 : decode cX4_readSum 48 = .ok (.aload_n 0, 1) := by decide +kernel
theorem dX4_readSum_49 : decode cX4_readSum 49 = .ok (.getfield 61, 3) := by decide +kernel
theorem dX4_readSum_52 : decode cX4_readSum 52 = .ok (.invokevirtual 72, 3) := by decide +kernel
theorem dX4_readSum_55 : decode cX4_readSum 55 = .ok (.bipush 43, 2) := by decide +kernel
theorem dX4_readSum_57 : decode cX4_readSum 57 = .ok (.if_icmp .ne 7, 3) := by decide +kernel
theorem dX4_readSum_60 : decode cX4_readSum 60 = .ok (.iconst 1, 1) := by decide +kernel
theorem dX4_readSum_61 : decode cX4_readSum 61 = .ok (.goto 4, 3) := by decide +kernel
theorem dX4_readSum_64 : decode cX4_readSum 64 = .ok (.iconst 2, 1) := by decide +kernel
theorem dX4_readSum_65 : decode cX4_readSum 65 = .ok (.istore_n 2, 1) := by decide +kernel
theorem dX4_readSum_66 : decode cX4_readSum 66 = .ok (.aload_n 0, 1) := by decide +kernel
theorem dX4_readSum_67 : decode cX4_readSum 67 = .ok (.aload_n 0, 1) := by decide +kernel
theorem dX4_readSum_68 : decode cX4_readSum 68 = .ok (.getfield 61, 3) := by decide +kernel
theorem dX4_readSum_71 : decode cX4_readSum 71 = .ok (.invokevirtual 76, 3) := by decide +kernel
theorem dX4_readSum_74 : decode cX4_readSum 74 = .ok (.istore_n 3, 1) := by decide +kernel
theorem dX4_readSum_75 : decode cX4_readSum 75 = .ok (.aload_n 0, 1) := by decide +kernel
theorem dX4_readSum_76 : decode cX4_readSum 76 = .ok (.dup, 1) := by decide +kernel
theorem dX4_readSum_77 : decode cX4_readSum 77 = .ok (.getfield 61, 3) := by decide +kernel
theorem dX4_readSum_80 : decode cX4_readSum 80 = .ok (.iconst 1, 1) := by decide +kernel
theorem dX4_readSum_81 : decode cX4_readSum 81 = .ok (.iadd, 1) := by decide +kernel
theorem dX4_readSum_82 : decode cX4_readSum 82 = .ok (.putfield 61, 3) := by decide +kernel
theorem dX4_readSum_85 : decode cX4_readSum 85 = .ok (.aload_n 0, 1) := by decide +kernel
theorem dX4_readSum_86 : decode cX4_readSum 86 = .ok (.iload_n 1, 1) := by decide +kernel
theorem dX4_readSum_87 : decode cX4_readSum 87 = .ok (.invokevirtual 186, 3) := by decide +kernel
theorem dX4_readSum_90 : decode cX4_readSum 90 = .ok (.ifCond .ne 5, 3) := by decide +kernel
theorem dX4_readSum_93 : decode cX4_readSum 93 = .ok (.iconst 0, 1) := by decide +kernel
theorem dX4_readSum_94 : decode cX4_readSum 94 = .ok (.ireturn, 1) := by decide +kernel
theorem dX4_readSum_95 : decode cX4_readSum 95 = .ok (.aload_n 0, 1) := by decide +kernel
theorem dX4_readSum_96 : decode cX4_readSum 96 = .ok (.iload_n 2, 1) := by decide +kernel
theorem dX4_readSum_97 : decode cX4_readSum 97 = .ok (.iconst 0, 1) := by decide +kernel
theorem dX4_readSum_98 : decode cX4_readSum 98 = .ok (.iload_n 3, 1) := by decide +kernel
theorem dX4_readSum_99 : decode cX4_readSum 99 = .ok (.iconst 0, 1) := by decide +kernel
theorem dX4_readSum_100 : decode cX4_readSum 100 = .ok (.invokevirtual 189, 3) := by decide +kernel
theorem dX4_readSum_103 : decode cX4_readSum 103 = .ok (.goto (-93), 3) := by decide +kernel
theorem dX4_readSum_106 : decode cX4_readSum 106 = .ok (.iconst 1, 1) := by decide +kernel
theorem dX4_readSum_107 : decode cX4_readSum 107 = .ok (.ireturn, 1) := by decide +kernel
theorem dX4_readProduct_0 : decode cX4_readProduct 0 = .ok (.aload_n 0, 1) := by decide +kernel
theorem dX4_readProduct_1 : decode cX4_readProduct 1 = .ok (.iload_n 1, 1) := by decide +kernel
theorem dX4_readProduct_2 : decode cX4_readProduct 2 = .ok (.invokevirtual 193, 3) := by decide +kernel
theorem dX4_readProduct_5 : decode cX4_readProduct 5 = .ok (.ifCond .ne 5, 3) := by decide +kernel
theorem dX4_readProduct_8 : decode cX4_readProduct 8 = .ok (.iconst 0, 1) := by decide +kernel
theorem dX4_readProduct_9 : decode cX4_readProduct 9 = .ok (.ireturn, 1) := by decide +kernel
theorem dX4_readProduct_10 : decode cX4_readProduct 10 = .ok (.aload_n 0, 1) := by decide +kernel
theorem dX4_readProduct_11 : decode cX4_readProduct 11 = .ok (.getfield 61, 3) := by decide +kernel
theorem dX4_readProduct_14 : decode cX4_readProduct 14 = .ok (.aload_n 0, 1) := by decide +kernel
theorem dX4_readProduct_15 : decode cX4_readProduct 15 = .ok (.getfield 104, 3) := by decide +kernel
theorem dX4_readProduct_18 : decode cX4_readProduct 18 = .ok (.if_icmp .ge 69, 3) := by decide +kernel
theorem dX4_readProduct_21 : decode cX4_readProduct 21 = .ok (.aload_n 0, 1) := by decide +kernel
theorem dX4_readProduct_22 : decode cX4_readProduct 22 = .ok (.aload_n 0, 1) := by decide +kernel
theorem dX4_readProduct_23 : decode cX4_readProduct 23 = .ok (.getfield 61, 3) := by decide +kernel
theorem dX4_readProduct_26 : decode cX4_readProduct 26 = .ok (.invokevirtual 72, 3) := by decide +kernel
theorem dX4_readProduct_29 : decode cX4_readProduct 29 = .ok (.invokestatic 196, 3) := by decide +kernel
theorem dX4_readProduct_32 : decode cX4_readProduct 32 = .ok (.ifCond .eq 55, 3) := by decide +kernel
theorem dX4_readProduct_35 : decode cX4_readProduct 35 = .ok (.aload_n 0, 1) := by decide +kernel
theorem dX4_readProduct_36 : decode cX4_readProduct 36 = .ok (.aload_n 0, 1) := by decide +kernel
theorem dX4_readProduct_37 : decode cX4_readProduct 37 = .ok (.getfield 61, 3) := by decide +kernel
theorem dX4_readProduct_40 : decode cX4_readProduct 40 = .ok (.invokevirtual 72, 3) := by decide +kernel
theorem dX4_readProduct_43 : decode cX4_readProduct 43 = .ok (.invokestatic 196, 3) := by decide +kernel
theorem dX4_readProduct_46 : decode cX4_readProduct 46 = .ok (.istore_n 2, 1) := by decide +kernel
theorem dX4_readProduct_47 : decode cX4_readProduct 47 = .ok (.aload_n 0, 1) := by decide +kernel
theorem dX4_readProduct_48 : decode cX4_readProduct 48 = .ok (.aload_n 0, 1) := by decide +kernel
theorem dX4_readProduct_49 : decode cX4_readProduct 49 = .ok (.getfield 61, 3) := by decide +kernel
theorem dX4_readProduct_52 : decode cX4_readProduct 52 = .ok (.invokevirtual 76, 3) := by decide +kernel
theorem dX4_readProduct_55 : decode cX4_readProduct 55 = .ok (.istore_n 3, 1) := by decide +kernel
theorem dX4_readProduct_56 : decode cX4_readProduct 56 = .ok (.aload_n 0, 1) := by decide +kernel
theorem dX4_readProduct_57 : decode cX4_readProduct 57 = .ok (.dup, 1) := by decide +kernel
theorem dX4_readProduct_58 : decode cX4_readProduct 58 = .ok (.getfield 61, 3) := by decide +kernel
theorem dX4_readProduct_61 : decode cX4_readProduct 61 = .ok (.iconst 1, 1) := by decide +kernel
theorem dX4_readProduct_62 : decode cX4_readProduct 62 = .ok (.iadd, 1) := by decide +kernel
theorem dX4_readProduct_63 : decode cX4_readProduct 63 = .ok (.putfield 61, 3) := by decide +kernel
theorem dX4_readProduct_66 : decode cX4_readProduct 66 = .ok (.aload_n 0, 1) := by decide +kernel
theorem dX4_readProduct_67 : decode cX4_readProduct 67 = .ok (.iload_n 1, 1) := by decide +kernel
theorem dX4_readProduct_68 : decode cX4_readProduct 68 = .ok (.invokevirtual 193, 3) := by decide +kernel
theorem dX4_readProduct_71 : decode cX4_readProduct 71 = .ok (.ifCond .ne 5, 3) := by decide +kernel
theorem dX4_readProduct_74 : decode cX4_readProduct 74 = .ok (.iconst 0, 1) := by decide +kernel
theorem dX4_readProduct_75 : decode cX4_readProduct 75 = .ok (.ireturn, 1) := by decide +kernel
theorem dX4_readProduct_76 : decode cX4_readProduct 76 = .ok (.aload_n 0, 1) := by decide +kernel
theorem dX4_readProduct_77 : decode cX4_readProduct 77 = .ok (.iload_n 2, 1) := by decide +kernel
theorem dX4_readProduct_78 : decode cX4_readProduct 78 = .ok (.iconst 0, 1) := by decide +kernel
theorem dX4_readProduct_79 : decode cX4_readProduct 79 = .ok (.iload_n 3, 1) := by decide +kernel
theorem dX4_readProduct_80 : decode cX4_readProduct 80 = .ok (.iconst 0, 1) := by decide +kernel
theorem dX4_readProduct_81 : decode cX4_readProduct 81 = .ok (.invokevirtual 189, 3) := by decide +kernel
theorem dX4_readProduct_84 : decode cX4_readProduct 84 = .ok (.goto (-74), 3) := by decide +kernel
theorem dX4_readProduct_87 : decode cX4_readProduct 87 = .ok (.iconst 1, 1) := by decide +kernel
theorem dX4_readProduct_88 : decode cX4_readProduct 88 = .ok (.ireturn, 1) := by decide +kernel
theorem dX4_productStep_0 : decode cX4_productStep 0 = .ok (.iload_n 0, 1) := by decide +kernel
theorem dX4_productStep_1 : decode cX4_productStep 1 = .ok (.lookupswitch 41 #[(37, 39), (42, 35), (47, 37)], 35) := by decide +kernel
theorem dX4_productStep_36 : decode cX4_productStep 36 = .ok (.iconst 3, 1) := by decide +kernel
theorem dX4_productStep_37 : decode cX4_productStep 37 = .ok (.ireturn, 1) := by decide +kernel
theorem dX4_productStep_38 : decode cX4_productStep 38 = .ok (.iconst 4, 1) := by decide +kernel
theorem dX4_productStep_39 : decode cX4_productStep 39 = .ok (.ireturn, 1) := by decide +kernel
theorem dX4_productStep_40 : decode cX4_productStep 40 = .ok (.iconst 5, 1) := by decide +kernel
theorem dX4_productStep_41 : decode cX4_productStep 41 = .ok (.ireturn, 1) := by decide +kernel
theorem dX4_productStep_42 : decode cX4_productStep 42 = .ok (.iconst 0, 1) := by decide +kernel
theorem dX4_productStep_43 : decode cX4_productStep 43 = .ok (.ireturn, 1) := by decide +kernel
theorem dX4_readMinus_0 : decode cX4_readMinus 0 = .ok (.aload_n 0, 1) := by decide +kernel
theorem dX4_readMinus_1 : decode cX4_readMinus 1 = .ok (.aload_n 0, 1) := by decide +kernel
theorem dX4_readMinus_2 : decode cX4_readMinus 2 = .ok (.getfield 61, 3) := by decide +kernel
theorem dX4_readMinus_5 : decode cX4_readMinus 5 = .ok (.invokevirtual 76, 3) := by decide +kernel
theorem dX4_readMinus_8 : decode cX4_readMinus 8 = .ok (.istore_n 2, 1) := by decide +kernel
theorem dX4_readMinus_9 : decode cX4_readMinus 9 = .ok (.aload_n 0, 1) := by decide +kernel
theorem dX4_readMinus_10 : decode cX4_readMinus 10 = .ok (.aload_n 0, 1) := by decide +kernel
theorem dX4_readMinus_11 : decode cX4_readMinus 11 = .ok (.getfield 61, 3) := by decide +kernel
theorem dX4_readMinus_14 : decode cX4_readMinus 14 = .ok (.invokevirtual 72, 3) := by decide +kernel
theorem dX4_readMinus_17 : decode cX4_readMinus 17 = .ok (.bipush 45, 2) := by decide +kernel
theorem dX4_readMinus_19 : decode cX4_readMinus 19 = .ok (.if_icmp .ne 24, 3) := by decide +kernel
theorem dX4_readMinus_22 : decode cX4_readMinus 22 = .ok (.aload_n 0, 1) := by decide +kernel
theorem dX4_readMinus_23 : decode cX4_readMinus 23 = .ok (.iload_n 1, 1) := by decide +kernel
theorem dX4_readMinus_24 : decode cX4_readMinus 24 = .ok (.invokevirtual 199, 3) := by decide +kernel
theorem dX4_readMinus_27 : decode cX4_readMinus 27 = .ok (.ifCond .ne 5, 3) := by decide +kernel
theorem dX4_readMinus_30 : decode cX4_readMinus 30 = .ok (.iconst 0, 1) := by decide +kernel
theorem dX4_readMinus_31 : decode cX4_readMinus 31 = .ok (.ireturn, 1) := by decide +kernel
theorem dX4_readMinus_32 : decode cX4_readMinus 32 = .ok (.aload_n 0, 1) := by decide +kernel
theorem dX4_readMinus_33 : decode cX4_readMinus 33 = .ok (.bipush 8, 2) := by decide +kernel
theorem dX4_readMinus_35 : decode cX4_readMinus 35 = .ok (.iconst 0, 1) := by decide +kernel
theorem dX4_readMinus_36 : decode cX4_readMinus 36 = .ok (.iload_n 2, 1) := by decide +kernel
theorem dX4_readMinus_37 : decode cX4_readMinus 37 = .ok (.iconst 0, 1) := by decide +kernel
theorem dX4_readMinus_38 : decode cX4_readMinus 38 = .ok (.invokevirtual 189, 3) := by decide +kernel
theorem dX4_readMinus_41 : decode cX4_readMinus 41 = .ok (.iconst 1, 1) := by decide +kernel
theorem dX4_readMinus_42 : decode cX4_readMinus 42 = .ok (.ireturn, 1) := by decide +kernel
theorem dX4_readMinus_43 : decode cX4_readMinus 43 = .ok (.aload_n 0, 1) := by decide +kernel
theorem dX4_readMinus_44 : decode cX4_readMinus 44 = .ok (.iload_n 1, 1) := by decide +kernel
theorem dX4_readMinus_45 : decode cX4_readMinus 45 = .ok (.invokevirtual 202, 3) := by decide +kernel
theorem dX4_readMinus_48 : decode cX4_readMinus 48 = .ok (.ifCond .ne 5, 3) := by decide +kernel
theorem dX4_readMinus_51 : decode cX4_readMinus 51 = .ok (.iconst 0, 1) := by decide +kernel
theorem dX4_readMinus_52 : decode cX4_readMinus 52 = .ok (.ireturn, 1) := by decide +kernel
theorem dX4_readMinus_53 : decode cX4_readMinus 53 = .ok (.aload_n 0, 1) := by decide +kernel
theorem dX4_readMinus_54 : decode cX4_readMinus 54 = .ok (.getfield 61, 3) := by decide +kernel
theorem dX4_readMinus_57 : decode cX4_readMinus 57 = .ok (.aload_n 0, 1) := by decide +kernel
theorem dX4_readMinus_58 : decode cX4_readMinus 58 = .ok (.getfield 104, 3) := by decide +kernel
theorem dX4_readMinus_61 : decode cX4_readMinus 61 = .ok (.if_icmp .ge 45, 3) := by decide +kernel
theorem dX4_readMinus_64 : decode cX4_readMinus 64 = .ok (.aload_n 0, 1) := by decide +kernel
theorem dX4_readMinus_65 : decode cX4_readMinus 65 = .ok (.aload_n 0, 1) := by decide +kernel
theorem dX4_readMinus_66 : decode cX4_readMinus 66 = .ok (.getfield 61, 3) := by decide +kernel
theorem dX4_readMinus_69 : decode cX4_readMinus 69 = .ok (.invokevirtual 72, 3) := by decide +kernel
theorem dX4_readMinus_72 : decode cX4_readMinus 72 = .ok (.bipush 33, 2) := by decide +kernel
theorem dX4_readMinus_74 : decode cX4_readMinus 74 = .ok (.if_icmp .ne 32, 3) := by decide +kernel
theorem dX4_readMinus_77 : decode cX4_readMinus 77 = .ok (.aload_n 0, 1) := by decide +kernel
theorem dX4_readMinus_78 : decode cX4_readMinus 78 = .ok (.bipush 7, 2) := by decide +kernel
theorem dX4_readMinus_80 : decode cX4_readMinus 80 = .ok (.iconst 0, 1) := by decide +kernel
theorem dX4_readMinus_81 : decode cX4_readMinus 81 = .ok (.aload_n 0, 1) := by decide +kernel
theorem dX4_readMinus_82 : decode cX4_readMinus 82 = .ok (.aload_n 0, 1) := by decide +kernel
theorem dX4_readMinus_83 : decode cX4_readMinus 83 = .ok (.getfield 61, 3) := by decide +kernel
theorem dX4_readMinus_86 : decode cX4_readMinus 86 = .ok (.invokevirtual 76, 3) := by decide +kernel
theorem dX4_readMinus_89 : decode cX4_readMinus 89 = .ok (.iconst 0, 1) := by decide +kernel
theorem dX4_readMinus_90 : decode cX4_readMinus 90 = .ok (.invokevirtual 189, 3) := by decide +kernel
theorem dX4_readMinus_93 : decode cX4_readMinus 93 = .ok (.aload_n 0, 1) := by decide +kernel
theorem dX4_readMinus_94 : decode cX4_readMinus 94 = .ok (.dup, 1) := by decide +kernel
theorem dX4_readMinus_95 : decode cX4_readMinus 95 = .ok (.getfield 61, 3) := by decide +kernel
theorem dX4_readMinus_98 : decode cX4_readMinus 98 = .ok (.iconst 1, 1) := by decide +kernel
theorem dX4_readMinus_99 : decode cX4_readMinus 99 = .ok (.iadd, 1) := by decide +kernel
theorem dX4_readMinus_100 : decode cX4_readMinus 100 = .ok (.putfield 61, 3) := by decide +kernel
theorem dX4_readMinus_103 : decode cX4_readMinus 103 = .ok (.goto (-50), 3) := by decide +kernel
theorem dX4_readMinus_106 : decode cX4_readMinus 106 = .ok (.aload_n 0, 1) := by decide +kernel
theorem dX4_readMinus_107 : decode cX4_readMinus 107 = .ok (.aload_n 0, 1) := by decide +kernel
theorem dX4_readMinus_108 : decode cX4_readMinus 108 = .ok (.getfield 61, 3) := by decide +kernel
theorem dX4_readMinus_111 : decode cX4_readMinus 111 = .ok (.invokevirtual 72, 3) := by decide +kernel
theorem dX4_readMinus_114 : decode cX4_readMinus 114 = .ok (.bipush 94, 2) := by decide +kernel
theorem dX4_readMinus_116 : decode cX4_readMinus 116 = .ok (.if_icmp .ne 31, 3) := by decide +kernel
theorem dX4_readMinus_119 : decode cX4_readMinus 119 = .ok (.aload_n 0, 1) := by decide +kernel
theorem dX4_readMinus_120 : decode cX4_readMinus 120 = .ok (.aload_n 0, 1) := by decide +kernel
theorem dX4_readMinus_121 : decode cX4_readMinus 121 = .ok (.getfield 61, 3) := by decide +kernel
theorem dX4_readMinus_124 : decode cX4_readMinus 124 = .ok (.invokevirtual 76, 3) := by decide +kernel
theorem dX4_readMinus_127 : decode cX4_readMinus 127 = .ok (.istore_n 2, 1) := by decide +kernel
theorem dX4_readMinus_128 : decode cX4_readMinus 128 = .ok (.aload_n 0, 1) := by decide +kernel
theorem dX4_readMinus_129 : decode cX4_readMinus 129 = .ok (.iload_n 1, 1) := by decide +kernel
theorem dX4_readMinus_130 : decode cX4_readMinus 130 = .ok (.invokevirtual 199, 3) := by decide +kernel
theorem dX4_readMinus_133 : decode cX4_readMinus 133 = .ok (.ifCond .ne 5, 3) := by decide +kernel
theorem dX4_readMinus_136 : decode cX4_readMinus 136 = .ok (.iconst 0, 1) := by decide +kernel
theorem dX4_readMinus_137 : decode cX4_readMinus 137 = .ok (.ireturn, 1) := by decide +kernel
theorem dX4_readMinus_138 : decode cX4_readMinus 138 = .ok (.aload_n 0, 1) := by decide +kernel
theorem dX4_readMinus_139 : decode cX4_readMinus 139 = .ok (.bipush 6, 2) := by decide +kernel
theorem dX4_readMinus_141 : decode cX4_readMinus 141 = .ok (.iconst 0, 1) := by decide +kernel
theorem dX4_readMinus_142 : decode cX4_readMinus 142 = .ok (.iload_n 2, 1) := by decide +kernel
theorem dX4_readMinus_143 : decode cX4_readMinus 143 = .ok (.iconst 0, 1) := by decide +kernel
theorem dX4_readMinus_144 : decode cX4_readMinus 144 = .ok (.invokevirtual 189, 3) := by decide +kernel
theorem dX4_readMinus_147 : decode cX4_readMinus 147 = .ok (.iconst 1, 1) := by decide +kernel
theorem dX4_readMinus_148 : decode cX4_readMinus 148 = .ok (.ireturn, 1) := by decide +kernel
theorem dX4_readOpened_0 : decode cX4_readOpened 0 = .ok (.iload_n 1, 1) := by decide +kernel
theorem dX4_readOpened_1 : decode cX4_readOpened 1 = .ok (.bipush 12, 2) := by decide +kernel
theorem dX4_readOpened_3 : decode cX4_readOpened 3 = .ok (.if_icmp .lt 5, 3) := by decide +kernel
theorem dX4_readOpened_6 : decode cX4_readOpened 6 = .ok (.iconst 0, 1) := by decide +kernel
theorem dX4_readOpened_7 : decode cX4_readOpened 7 = .ok (.ireturn, 1) := by decide +kernel
theorem dX4_readOpened_8 : decode cX4_readOpened 8 = .ok (.aload_n 0, 1) := by decide +kernel
theorem dX4_readOpened_9 : decode cX4_readOpened 9 = .ok (.dup, 1) := by decide +kernel
theorem dX4_readOpened_10 : decode cX4_readOpened 10 = .ok (.getfield 61, 3) := by decide +kernel
theorem dX4_readOpened_13 : decode cX4_readOpened 13 = .ok (.iconst 1, 1) := by decide +kernel
theorem dX4_readOpened_14 : decode cX4_readOpened 14 = .ok (.iadd, 1) := by decide +kernel
theorem dX4_readOpened_15 : decode cX4_readOpened 15 = .ok (.putfield 61, 3) := by decide +kernel
theorem dX4_readOpened_18 : decode cX4_readOpened 18 = .ok (.aload_n 0, 1) := by decide +kernel
theorem dX4_readOpened_19 : decode cX4_readOpened 19 = .ok (.iload_n 1, 1) := by decide +kernel
theorem dX4_readOpened_20 : decode cX4_readOpened 20 = .ok (.iconst 1, 1) := by decide +kernel
theorem dX4_readOpened_21 : decode cX4_readOpened 21 = .ok (.iadd, 1) := by decide +kernel
theorem dX4_readOpened_22 : decode cX4_readOpened 22 = .ok (.invokevirtual 193, 3) := by decide +kernel
theorem dX4_readOpened_25 : decode cX4_readOpened 25 = .ok (.ireturn, 1) := by decide +kernel
theorem dX4_readPlain_0 : decode cX4_readPlain 0 = .ok (.aload_n 0, 1) := by decide +kernel
theorem dX4_readPlain_1 : decode cX4_readPlain 1 = .ok (.aload_n 0, 1) := by decide +kernel
theorem dX4_readPlain_2 : decode cX4_readPlain 2 = .ok (.getfield 61, 3) := by decide +kernel
theorem dX4_readPlain_5 : decode cX4_readPlain 5 = .ok (.invokevirtual 76, 3) := by decide +kernel
theorem dX4_readPlain_8 : decode cX4_readPlain 8 = .ok (.istore_n 2, 1) := by decide +kernel
theorem dX4_readPlain_9 : decode cX4_readPlain 9 = .ok (.aload_n 0, 1) := by decide +kernel
theorem dX4_readPlain_10 : decode cX4_readPlain 10 = .ok (.aload_n 0, 1) := by decide +kernel
theorem dX4_readPlain_11 : decode cX4_readPlain 11 = .ok (.getfield 61, 3) := by decide +kernel
theorem dX4_readPlain_14 : decode cX4_readPlain 14 = .ok (.invokevirtual 72, 3) := by decide +kernel
theorem dX4_readPlain_17 : decode cX4_readPlain 17 = .ok (.iconst 2, 1) := by decide +kernel
theorem dX4_readPlain_18 : decode cX4_readPlain 18 = .ok (.if_icmp .ne 37, 3) := by decide +kernel
theorem dX4_readPlain_21 : decode cX4_readPlain 21 = .ok (.aload_n 0, 1) := by decide +kernel
theorem dX4_readPlain_22 : decode cX4_readPlain 22 = .ok (.bipush 21, 2) := by decide +kernel
theorem dX4_readPlain_24 : decode cX4_readPlain 24 = .ok (.aload_n 0, 1) := by decide +kernel
theorem dX4_readPlain_25 : decode cX4_readPlain 25 = .ok (.getfield 55, 3) := by decide +kernel
theorem dX4_readPlain_28 : decode cX4_readPlain 28 = .ok (.iload_n 2, 1) := by decide +kernel
theorem dX4_readPlain_29 : decode cX4_readPlain 29 = .ok (.iconst 0, 1) := by decide +kernel
theorem dX4_readPlain_30 : decode cX4_readPlain 30 = .ok (.invokevirtual 189, 3) := by decide +kernel
theorem dX4_readPlain_33 : decode cX4_readPlain 33 = .ok (.aload_n 0, 1) := by decide +kernel
theorem dX4_readPlain_34 : decode cX4_readPlain 34 = .ok (.dup, 1) := by decide +kernel
theorem dX4_readPlain_35 : decode cX4_readPlain 35 = .ok (.getfield 55, 3) := by decide +kernel
theorem dX4_readPlain_38 : decode cX4_readPlain 38 = .ok (.iconst 1, 1) := by decide +kernel
theorem dX4_readPlain_39 : decode cX4_readPlain 39 = .ok (.iadd, 1) := by decide +kernel
theorem dX4_readPlain_40 : decode cX4_readPlain 40 = .ok (.putfield 55, 3) := by decide +kernel
theorem dX4_readPlain_43 : decode cX4_readPlain 43 = .ok (.aload_n 0, 1) := by decide +kernel
theorem dX4_readPlain_44 : decode cX4_readPlain 44 = .ok (.dup, 1) := by decide +kernel
theorem dX4_readPlain_45 : decode cX4_readPlain 45 = .ok (.getfield 61, 3) := by decide +kernel
theorem dX4_readPlain_48 : decode cX4_readPlain 48 = .ok (.iconst 1, 1) := by decide +kernel
theorem dX4_readPlain_49 : decode cX4_readPlain 49 = .ok (.iadd, 1) := by decide +kernel
theorem dX4_readPlain_50 : decode cX4_readPlain 50 = .ok (.putfield 61, 3) := by decide +kernel
theorem dX4_readPlain_53 : decode cX4_readPlain 53 = .ok (.iconst 1, 1) := by decide +kernel
theorem dX4_readPlain_54 : decode cX4_readPlain 54 = .ok (.ireturn, 1) := by decide +kernel
theorem dX4_readPlain_55 : decode cX4_readPlain 55 = .ok (.aload_n 0, 1) := by decide +kernel
theorem dX4_readPlain_56 : decode cX4_readPlain 56 = .ok (.aload_n 0, 1) := by decide +kernel
theorem dX4_readPlain_57 : decode cX4_readPlain 57 = .ok (.getfield 61, 3) := by decide +kernel
theorem dX4_readPlain_60 : decode cX4_readPlain 60 = .ok (.invokevirtual 72, 3) := by decide +kernel
theorem dX4_readPlain_63 : decode cX4_readPlain 63 = .ok (.iconst 1, 1) := by decide +kernel
theorem dX4_readPlain_64 : decode cX4_readPlain 64 = .ok (.if_icmp .ne 52, 3) := by decide +kernel
theorem dX4_readPlain_67 : decode cX4_readPlain 67 = .ok (.aload_n 0, 1) := by decide +kernel
theorem dX4_readPlain_68 : decode cX4_readPlain 68 = .ok (.aload_n 0, 1) := by decide +kernel
theorem dX4_readPlain_69 : decode cX4_readPlain 69 = .ok (.getfield 61, 3) := by decide +kernel
theorem dX4_readPlain_72 : decode cX4_readPlain 72 = .ok (.invokevirtual 174, 3) := by decide +kernel
theorem dX4_readPlain_75 : decode cX4_readPlain 75 = .ok (.istore_n 3, 1) := by decide +kernel
theorem dX4_readPlain_76 : decode cX4_readPlain 76 = .ok (.aload_n 0, 1) := by decide +kernel
theorem dX4_readPlain_77 : decode cX4_readPlain 77 = .ok (.dup, 1) := by decide +kernel
theorem dX4_readPlain_78 : decode cX4_readPlain 78 = .ok (.getfield 61, 3) := by decide +kernel
theorem dX4_readPlain_81 : decode cX4_readPlain 81 = .ok (.iconst 1, 1) := by decide +kernel
theorem dX4_readPlain_82 : decode cX4_readPlain 82 = .ok (.iadd, 1) := by decide +kernel
theorem dX4_readPlain_83 : decode cX4_readPlain 83 = .ok (.putfield 61, 3) := by decide +kernel
theorem dX4_readPlain_86 : decode cX4_readPlain 86 = .ok (.aload_n 0, 1) := by decide +kernel
theorem dX4_readPlain_87 : decode cX4_readPlain 87 = .ok (.aload_n 0, 1) := by decide +kernel
theorem dX4_readPlain_88 : decode cX4_readPlain 88 = .ok (.getfield 61, 3) := by decide +kernel
theorem dX4_readPlain_91 : decode cX4_readPlain 91 = .ok (.invokevirtual 72, 3) := by decide +kernel
theorem dX4_readPlain_94 : decode cX4_readPlain 94 = .ok (.bipush 40, 2) := by decide +kernel
theorem dX4_readPlain_96 : decode cX4_readPlain 96 = .ok (.if_icmp .ne 13, 3) := by decide +kernel
theorem dX4_readPlain_99 : decode cX4_readPlain 99 = .ok (.aload_n 0, 1) := by decide +kernel
theorem dX4_readPlain_100 : decode cX4_readPlain 100 = .ok (.iload_n 3, 1) := by decide +kernel
theorem dX4_readPlain_101 : decode cX4_readPlain 101 = .ok (.iload_n 2, 1) := by decide +kernel
theorem dX4_readPlain_102 : decode cX4_readPlain 102 = .ok (.iload_n 1, 1) := by decide +kernel
theorem dX4_readPlain_103 : decode cX4_readPlain 103 = .ok (.invokevirtual 205, 3) := by decide +kernel
theorem dX4_readPlain_106 : decode cX4_readPlain 106 = .ok (.goto 9, 3) := by decide +kernel
theorem dX4_readPlain_109 : decode cX4_readPlain 109 = .ok (.aload_n 0, 1) := by decide +kernel
theorem dX4_readPlain_110 : decode cX4_readPlain 110 = .ok (.iload_n 3, 1) := by decide +kernel
theorem dX4_readPlain_111 : decode cX4_readPlain 111 = .ok (.iload_n 2, 1) := by decide +kernel
theorem dX4_readPlain_112 : decode cX4_readPlain 112 = .ok (.invokevirtual 209, 3) := by decide +kernel
theorem dX4_readPlain_115 : decode cX4_readPlain 115 = .ok (.ireturn, 1) := by decide +kernel
theorem dX4_readPlain_116 : decode cX4_readPlain 116 = .ok (.aload_n 0, 1) := by decide +kernel
theorem dX4_readPlain_117 : decode cX4_readPlain 117 = .ok (.aload_n 0, 1) := by decide +kernel
theorem dX4_readPlain_118 : decode cX4_readPlain 118 = .ok (.getfield 61, 3) := by decide +kernel
theorem dX4_readPlain_121 : decode cX4_readPlain 121 = .ok (.invokevirtual 72, 3) := by decide +kernel
theorem dX4_readPlain_124 : decode cX4_readPlain 124 = .ok (.bipush 40, 2) := by decide +kernel
theorem dX4_readPlain_126 : decode cX4_readPlain 126 = .ok (.if_icmp .ne 9, 3) := by decide +kernel
theorem dX4_readPlain_129 : decode cX4_readPlain 129 = .ok (.iload_n 1, 1) := by decide +kernel
theorem dX4_readPlain_130 : decode cX4_readPlain 130 = .ok (.bipush 12, 2) := by decide +kernel
theorem dX4_readPlain_132 : decode cX4_readPlain 132 = .ok (.if_icmp .lt 5, 3) := by decide +kernel
theorem dX4_readPlain_135 : decode cX4_readPlain 135 = .ok (.iconst 0, 1) := by decide +kernel
theorem dX4_readPlain_136 : decode cX4_readPlain 136 = .ok (.ireturn, 1) := by decide +kernel
theorem dX4_readPlain_137 : decode cX4_readPlain 137 = .ok (.aload_n 0, 1) := by decide +kernel
theorem dX4_readPlain_138 : decode cX4_readPlain 138 = .ok (.dup, 1) := by decide +kernel
theorem dX4_readPlain_139 : decode cX4_readPlain 139 = .ok (.getfield 61, 3) := by decide +kernel
theorem dX4_readPlain_142 : decode cX4_readPlain 142 = .ok (.iconst 1, 1) := by decide +kernel
theorem dX4_readPlain_143 : decode cX4_readPlain 143 = .ok (.iadd, 1) := by decide +kernel
theorem dX4_readPlain_144 : decode cX4_readPlain 144 = .ok (.putfield 61, 3) := by decide +kernel
theorem dX4_readPlain_147 : decode cX4_readPlain 147 = .ok (.aload_n 0, 1) := by decide +kernel
theorem dX4_readPlain_148 : decode cX4_readPlain 148 = .ok (.iload_n 1, 1) := by decide +kernel
theorem dX4_readPlain_149 : decode cX4_readPlain 149 = .ok (.iconst 1, 1) := by decide +kernel
theorem dX4_readPlain_150 : decode cX4_readPlain 150 = .ok (.iadd, 1) := by decide +kernel
theorem dX4_readPlain_151 : decode cX4_readPlain 151 = .ok (.invokevirtual 68, 3) := by decide +kernel
theorem dX4_readPlain_154 : decode cX4_readPlain 154 = .ok (.ifCond .eq 16, 3) := by decide +kernel
theorem dX4_readPlain_157 : decode cX4_readPlain 157 = .ok (.aload_n 0, 1) := by decide +kernel
theorem dX4_readPlain_158 : decode cX4_readPlain 158 = .ok (.aload_n 0, 1) := by decide +kernel
theorem dX4_readPlain_159 : decode cX4_readPlain 159 = .ok (.getfield 61, 3) := by decide +kernel
theorem dX4_readPlain_162 : decode cX4_readPlain 162 = .ok (.invokevirtual 72, 3) := by decide +kernel
theorem dX4_readPlain_165 : decode cX4_readPlain 165 = .ok (.bipush 41, 2) := by decide +kernel
theorem dX4_readPlain_167 : decode cX4_readPlain 167 = .ok (.if_icmp .eq 5, 3) := by decide +kernel
theorem dX4_readPlain_170 : decode cX4_readPlain 170 = .ok (.iconst 0, 1) := by decide +kernel
theorem dX4_readPlain_171 : decode cX4_readPlain 171 = .ok (.ireturn, 1) := by decide +kernel
theorem dX4_readPlain_172 : decode cX4_readPlain 172 = .ok (.aload_n 0, 1) := by decide +kernel
theorem dX4_readPlain_173 : decode cX4_readPlain 173 = .ok (.dup, 1) := by decide +kernel
theorem dX4_readPlain_174 : decode cX4_readPlain 174 = .ok (.getfield 61, 3) := by decide +kernel
theorem dX4_readPlain_177 : decode cX4_readPlain 177 = .ok (.iconst 1, 1) := by decide +kernel
theorem dX4_readPlain_178 : decode cX4_readPlain 178 = .ok (.iadd, 1) := by decide +kernel
theorem dX4_readPlain_179 : decode cX4_readPlain 179 = .ok (.putfield 61, 3) := by decide +kernel
theorem dX4_readPlain_182 : decode cX4_readPlain 182 = .ok (.iconst 1, 1) := by decide +kernel
theorem dX4_readPlain_183 : decode cX4_readPlain 183 = .ok (.ireturn, 1) := by decide +kernel
theorem dX4_readWord_0 : decode cX4_readWord 0 = .ok (.aload_n 0, 1) := by decide +kernel
theorem dX4_readWord_1 : decode cX4_readWord 1 = .ok (.iload_n 1, 1) := by decide +kernel
theorem dX4_readWord_2 : decode cX4_readWord 2 = .ok (.invokevirtual 183, 3) := by decide +kernel
theorem dX4_readWord_5 : decode cX4_readWord 5 = .ok (.istore_n 3, 1) := by decide +kernel
theorem dX4_readWord_6 : decode cX4_readWord 6 = .ok (.iload_n 3, 1) := by decide +kernel
theorem dX4_readWord_7 : decode cX4_readWord 7 = .ok (.iconst (-1), 1) := by decide +kernel
theorem dX4_readWord_8 : decode cX4_readWord 8 = .ok (.if_icmp .ne 15, 3) := by decide +kernel
theorem dX4_readWord_11 : decode cX4_readWord 11 = .ok (.aload_n 0, 1) := by decide +kernel
theorem dX4_readWord_12 : decode cX4_readWord 12 = .ok (.bipush 22, 2) := by decide +kernel
theorem dX4_readWord_14 : decode cX4_readWord 14 = .ok (.iload_n 1, 1) := by decide +kernel
theorem dX4_readWord_15 : decode cX4_readWord 15 = .ok (.iload_n 2, 1) := by decide +kernel
theorem dX4_readWord_16 : decode cX4_readWord 16 = .ok (.iconst 0, 1) := by decide +kernel
theorem dX4_readWord_17 : decode cX4_readWord 17 = .ok (.invokevirtual 189, 3) := by decide +kernel
theorem dX4_readWord_20 : decode cX4_readWord 20 = .ok (.goto 12, 3) := by decide +kernel
theorem dX4_readWord_23 : decode cX4_readWord 23 = .ok (.aload_n 0, 1) := by decide +kernel
theorem dX4_readWord_24 : decode cX4_readWord 24 = .ok (.bipush 23, 2) := by decide +kernel
theorem dX4_readWord_26 : decode cX4_readWord 26 = .ok (.iload_n 3, 1) := by decide +kernel
theorem dX4_readWord_27 : decode cX4_readWord 27 = .ok (.iload_n 2, 1) := by decide +kernel
theorem dX4_readWord_28 : decode cX4_readWord 28 = .ok (.iconst 0, 1) := by decide +kernel
theorem dX4_readWord_29 : decode cX4_readWord 29 = .ok (.invokevirtual 189, 3) := by decide +kernel
theorem dX4_readWord_32 : decode cX4_readWord 32 = .ok (.iconst 1, 1) := by decide +kernel
theorem dX4_readWord_33 : decode cX4_readWord 33 = .ok (.ireturn, 1) := by decide +kernel
theorem dX4_readCall_0 : decode cX4_readCall 0 = .ok (.iload_n 3, 1) := by decide +kernel
theorem dX4_readCall_1 : decode cX4_readCall 1 = .ok (.bipush 12, 2) := by decide +kernel
theorem dX4_readCall_3 : decode cX4_readCall 3 = .ok (.if_icmp .lt 5, 3) := by decide +kernel
theorem dX4_readCall_6 : decode cX4_readCall 6 = .ok (.iconst 0, 1) := by decide +kernel
theorem dX4_readCall_7 : decode cX4_readCall 7 = .ok (.ireturn, 1) := by decide +kernel
theorem dX4_readCall_8 : decode cX4_readCall 8 = .ok (.iconst 0, 1) := by decide +kernel
theorem dX4_readCall_9 : decode cX4_readCall 9 = .ok (.istore 4, 2) := by decide +kernel
theorem dX4_readCall_11 : decode cX4_readCall 11 = .ok (.iconst 1, 1) := by decide +kernel
theorem dX4_readCall_12 : decode cX4_readCall 12 = .ok (.istore 5, 2) := by decide +kernel
theorem dX4_readCall_14 : decode cX4_readCall 14 = .ok (.iload 5, 2) := by decide +kernel
theorem dX4_readCall_16 : decode cX4_readCall 16 = .ok (.ifCond .eq 62, 3) := by decide +kernel
theorem dX4_readCall_19 : decode cX4_readCall 19 = .ok (.aload_n 0, 1) := by decide +kernel
theorem dX4_readCall_20 : decode cX4_readCall 20 = .ok (.getfield 61, 3) := by decide +kernel
theorem dX4_readCall_23 : decode cX4_readCall 23 = .ok (.aload_n 0, 1) := by decide +kernel
theorem dX4_readCall_24 : decode cX4_readCall 24 = .ok (.getfield 104, 3) := by decide +kernel
theorem dX4_readCall_27 : decode cX4_readCall 27 = .ok (.if_icmp .ge 51, 3) := by decide +kernel
theorem dX4_readCall_30 : decode cX4_readCall 30 = .ok (.aload_n 0, 1) := by decide +kernel
theorem dX4_readCall_31 : decode cX4_readCall 31 = .ok (.dup, 1) := by decide +kernel
theorem dX4_readCall_32 : decode cX4_readCall 32 = .ok (.getfield 61, 3) := by decide +kernel
theorem dX4_readCall_35 : decode cX4_readCall 35 = .ok (.iconst 1, 1) := by decide +kernel
theorem dX4_readCall_36 : decode cX4_readCall 36 = .ok (.iadd, 1) := by decide +kernel
theorem dX4_readCall_37 : decode cX4_readCall 37 = .ok (.putfield 61, 3) := by decide +kernel
theorem dX4_readCall_40 : decode cX4_readCall 40 = .ok (.aload_n 0, 1) := by decide +kernel
theorem dX4_readCall_41 : decode cX4_readCall 41 = .ok (.iload_n 3, 1) := by decide +kernel
theorem dX4_readCall_42 : decode cX4_readCall 42 = .ok (.iconst 1, 1) := by decide +kernel
theorem dX4_readCall_43 : decode cX4_readCall 43 = .ok (.iadd, 1) := by decide +kernel
theorem dX4_readCall_44 : decode cX4_readCall 44 = .ok (.invokevirtual 68, 3) := by decide +kernel
theorem dX4_readCall_47 : decode cX4_readCall 47 = .ok (.ifCond .ne 5, 3) := by decide +kernel
theorem dX4_readCall_50 : decode cX4_readCall 50 = .ok (.iconst 0, 1) := by decide +kernel
theorem dX4_readCall_51 : decode cX4_readCall 51 = .ok (.ireturn, 1) := by decide +kernel
theorem dX4_readCall_52 : decode cX4_readCall 52 = .ok (.iinc 4 1, 3) := by decide +kernel
theorem dX4_readCall_55 : decode cX4_readCall 55 = .ok (.aload_n 0, 1) := by decide +kernel
theorem dX4_readCall_56 : decode cX4_readCall 56 = .ok (.aload_n 0, 1) := by decide +kernel
theorem dX4_readCall_57 : decode cX4_readCall 57 = .ok (.getfield 61, 3) := by decide +kernel
theorem dX4_readCall_60 : decode cX4_readCall 60 = .ok (.invokevirtual 72, 3) := by decide +kernel
theorem dX4_readCall_63 : decode cX4_readCall 63 = .ok (.bipush 44, 2) := by decide +kernel
theorem dX4_readCall_65 : decode cX4_readCall 65 = .ok (.if_icmp .ne 7, 3) := by decide +kernel
theorem dX4_readCall_68 : decode cX4_readCall 68 = .ok (.iconst 1, 1) := by decide +kernel
theorem dX4_readCall_69 : decode cX4_readCall 69 = .ok (.goto 4, 3) := by decide +kernel
theorem dX4_readCall_72 : decode cX4_readCall 72 = .ok (.iconst 0, 1) := by decide +kernel
theorem dX4_readCall_73 : decode cX4_readCall 73 = .ok (.istore 5, 2) := by decide +kernel
theorem dX4_readCall_75 : decode cX4_readCall 75 = .ok (.goto (-61), 3) := by decide +kernel
theorem dX4_readCall_78 : decode cX4_readCall 78 = .ok (.aload_n 0, 1) := by decide +kernel
theorem dX4_readCall_79 : decode cX4_readCall 79 = .ok (.aload_n 0, 1) := by decide +kernel
theorem dX4_readCall_80 : decode cX4_readCall 80 = .ok (.getfield 61, 3) := by decide +kernel
theorem dX4_readCall_83 : decode cX4_readCall 83 = .ok (.invokevirtual 72, 3) := by decide +kernel
theorem dX4_readCall_86 : decode cX4_readCall 86 = .ok (.bipush 41, 2) := by decide +kernel
theorem dX4_readCall_88 : decode cX4_readCall 88 = .ok (.if_icmp .eq 5, 3) := by decide +kernel
theorem dX4_readCall_91 : decode cX4_readCall 91 = .ok (.iconst 0, 1) := by decide +kernel
theorem dX4_readCall_92 : decode cX4_readCall 92 = .ok (.ireturn, 1) := by decide +kernel
theorem dX4_readCall_93 : decode cX4_readCall 93 = .ok (.aload_n 0, 1) := by decide +kernel
theorem dX4_readCall_94 : decode cX4_readCall 94 = .ok (.dup, 1) := by decide +kernel
theorem dX4_readCall_95 : decode cX4_readCall 95 = .ok (.getfield 61, 3) := by decide +kernel
theorem dX4_readCall_98 : decode cX4_readCall 98 = .ok (.iconst 1, 1) := by decide +kernel
theorem dX4_readCall_99 : decode cX4_readCall 99 = .ok (.iadd, 1) := by decide +kernel
theorem dX4_readCall_100 : decode cX4_readCall 100 = .ok (.putfield 61, 3) := by decide +kernel
theorem dX4_readCall_103 : decode cX4_readCall 103 = .ok (.iload_n 1, 1) := by decide +kernel
theorem dX4_readCall_104 : decode cX4_readCall 104 = .ok (.invokestatic 213, 3) := by decide +kernel
theorem dX4_readCall_107 : decode cX4_readCall 107 = .ok (.istore 6, 2) := by decide +kernel
theorem dX4_readCall_109 : decode cX4_readCall 109 = .ok (.aload_n 0, 1) := by decide +kernel
theorem dX4_readCall_110 : decode cX4_readCall 110 = .ok (.iload 6, 2) := by decide +kernel
theorem dX4_readCall_112 : decode cX4_readCall 112 = .ok (.ifCond .ne 8, 3) := by decide +kernel
theorem dX4_readCall_115 : decode cX4_readCall 115 = .ok (.bipush 9, 2) := by decide +kernel
theorem dX4_readCall_117 : decode cX4_readCall 117 = .ok (.goto 5, 3) := by decide +kernel
theorem dX4_readCall_120 : decode cX4_readCall 120 = .ok (.iload 6, 2) := by decide +kernel
theorem dX4_readCall_122 : decode cX4_readCall 122 = .ok (.iload_n 1, 1) := by decide +kernel
theorem dX4_readCall_123 : decode cX4_readCall 123 = .ok (.iload_n 2, 1) := by decide +kernel
theorem dX4_readCall_124 : decode cX4_readCall 124 = .ok (.iload 4, 2) := by decide +kernel
theorem dX4_readCall_126 : decode cX4_readCall 126 = .ok (.invokevirtual 189, 3) := by decide +kernel
theorem dX4_readCall_129 : decode cX4_readCall 129 = .ok (.iconst 1, 1) := by decide +kernel
theorem dX4_readCall_130 : decode cX4_readCall 130 = .ok (.ireturn, 1) := by decide +kernel
theorem dX5_init_0 : decode cX5_init 0 = .ok (.aload_n 0, 1) := by decide +kernel
theorem dX5_init_1 : decode cX5_init 1 = .ok (.invokespecial 3, 3) := by decide +kernel
theorem dX5_init_4 : decode cX5_init 4 = .ok (.aload_n 0, 1) := by decide +kernel
theorem dX5_init_5 : decode cX5_init 5 = .ok (.new 9, 3) := by decide +kernel
theorem dX5_init_8 : decode cX5_init 8 = .ok (.dup, 1) := by decide +kernel
theorem dX5_init_9 : decode cX5_init 9 = .ok (.invokespecial 11, 3) := by decide +kernel
theorem dX5_init_12 : decode cX5_init 12 = .ok (.putfield 12, 3) := by decide +kernel
theorem dX5_init_15 : decode cX5_init 15 = .ok (.aload_n 0, 1) := by decide +kernel
theorem dX5_init_16 : decode cX5_init 16 = .ok (.new 9, 3) := by decide +kernel
theorem dX5_init_19 : decode cX5_init 19 = .ok (.dup, 1) := by decide +kernel
theorem dX5_init_20 : decode cX5_init 20 = .ok (.invokespecial 11, 3) := by decide +kernel
theorem dX5_init_23 : decode cX5_init 23 = .ok (.putfield 18, 3) := by decide +kernel
theorem dX5_init_26 : decode cX5_init 26 = .ok (.aload_n 0, 1) := by decide +kernel
theorem dX5_init_27 : decode cX5_init 27 = .ok (.new 9, 3) := by decide +kernel
theorem dX5_init_30 : decode cX5_init 30 = .ok (.dup, 1) := by decide +kernel
theorem dX5_init_31 : decode cX5_init 31 = .ok (.invokespecial 11, 3) := by decide +kernel
theorem dX5_init_34 : decode cX5_init 34 = .ok (.putfield 21, 3) := by decide +kernel
theorem dX5_init_37 : decode cX5_init 37 = .ok (.aload_n 0, 1) := by decide +kernel
theorem dX5_init_38 : decode cX5_init 38 = .ok (.new 9, 3) := by decide +kernel
theorem dX5_init_41 : decode cX5_init 41 = .ok (.dup, 1) := by decide +kernel
theorem dX5_init_42 : decode cX5_init 42 = .ok (.invokespecial 11, 3) := by decide +kernel
theorem dX5_init_45 : decode cX5_init 45 = .ok (.putfield 24, 3) := by decide +kernel
theorem dX5_init_48 : decode cX5_init 48 = .ok (.aload_n 0, 1) := by decide +kernel
theorem dX5_init_49 : decode cX5_init 49 = .ok (.new 9, 3) := by decide +kernel
theorem dX5_init_52 : decode cX5_init 52 = .ok (.dup, 1) := by decide +kernel
theorem dX5_init_53 : decode cX5_init 53 = .ok (.invokespecial 11, 3) := by decide +kernel
theorem dX5_init_56 : decode cX5_init 56 = .ok (.putfield 27, 3) := by decide +kernel
theorem dX5_init_59 : decode cX5_init 59 = .ok (.aload_n 0, 1) := by decide +kernel
theorem dX5_init_60 : decode cX5_init 60 = .ok (.new 9, 3) := by decide +kernel
theorem dX5_init_63 : decode cX5_init 63 = .ok (.dup, 1) := by decide +kernel
theorem dX5_init_64 : decode cX5_init 64 = .ok (.invokespecial 11, 3) := by decide +kernel
theorem dX5_init_67 : decode cX5_init 67 = .ok (.putfield 30, 3) := by decide +kernel
theorem dX5_init_70 : decode cX5_init 70 = .ok (.aload_n 0, 1) := by decide +kernel
theorem dX5_init_71 : decode cX5_init 71 = .ok (.new 9, 3) := by decide +kernel
theorem dX5_init_74 : decode cX5_init 74 = .ok (.dup, 1) := by decide +kernel
theorem dX5_init_75 : decode cX5_init 75 = .ok (.invokespecial 11, 3) := by decide +kernel
theorem dX5_init_78 : decode cX5_init 78 = .ok (.putfield 33, 3) := by decide +kernel
theorem dX5_init_81 : decode cX5_init 81 = .ok (.aload_n 0, 1) := by decide +kernel
theorem dX5_init_82 : decode cX5_init 82 = .ok (.new 9, 3) := by decide +kernel
theorem dX5_init_85 : decode cX5_init 85 = .ok (.dup, 1) := by decide +kernel
theorem dX5_init_86 : decode cX5_init 86 = .ok (.invokespecial 11, 3) := by decide +kernel
theorem dX5_init_89 : decode cX5_init 89 = .ok (.putfield 36, 3) := by decide +kernel
theorem dX5_init_92 : decode cX5_init 92 = .ok (.aload_n 0, 1) := by decide +kernel
theorem dX5_init_93 : decode cX5_init 93 = .ok (.new 9, 3) := by decide +kernel
theorem dX5_init_96 : decode cX5_init 96 = .ok (.dup, 1) := by decide +kernel
theorem dX5_init_97 : decode cX5_init 97 = .ok (.invokespecial 11, 3) := by decide +kernel
theorem dX5_init_100 : decode cX5_init 100 = .ok (.putfield 39, 3) := by decide +kernel
theorem dX5_init_103 : decode cX5_init 103 = .ok (.aload_n 0, 1) := by decide +kernel
theorem dX5_init_104 : decode cX5_init 104 = .ok (.new 9, 3) := by decide +kernel
theorem dX5_init_107 : decode cX5_init 107 = .ok (.dup, 1) := by decide +kernel
theorem dX5_init_108 : decode cX5_init 108 = .ok (.invokespecial 11, 3) := by decide +kernel
theorem dX5_init_111 : decode cX5_init 111 = .ok (.putfield 42, 3) := by decide +kernel
theorem dX5_init_114 : decode cX5_init 114 = .ok (.aload_n 0, 1) := by decide +kernel
theorem dX5_init_115 : decode cX5_init 115 = .ok (.new 9, 3) := by decide +kernel
theorem dX5_init_118 : decode cX5_init 118 = .ok (.dup, 1) := by decide +kernel
theorem dX5_init_119 : decode cX5_init 119 = .ok (.invokespecial 11, 3) := by decide +kernel
theorem dX5_init_122 : decode cX5_init 122 = .ok (.putfield 45, 3) := by decide +kernel
theorem dX5_init_125 : decode cX5_init 125 = .ok (.aload_n 0, 1) := by decide +kernel
theorem dX5_init_126 : decode cX5_init 126 = .ok (.new 9, 3) := by decide +kernel
theorem dX5_init_129 : decode cX5_init 129 = .ok (.dup, 1) := by decide +kernel
theorem dX5_init_130 : decode cX5_init 130 = .ok (.invokespecial 11, 3) := by decide +kernel
theorem dX5_init_133 : decode cX5_init 133 = .ok (.putfield 48, 3) := by decide +kernel
theorem dX5_init_136 : decode cX5_init 136 = .ok (.aload_n 0, 1) := by decide +kernel
theorem dX5_init_137 : decode cX5_init 137 = .ok (.new 9, 3) := by decide +kernel
theorem dX5_init_140 : decode cX5_init 140 = .ok (.dup, 1) := by decide +kernel
theorem dX5_init_141 : decode cX5_init 141 = .ok (.invokespecial 11, 3) := by decide +kernel
theorem dX5_init_144 : decode cX5_init 144 = .ok (.putfield 51, 3) := by decide +kernel
theorem dX5_init_147 : decode cX5_init 147 = .ok (.aload_n 0, 1) := by decide +kernel
theorem dX5_init_148 : decode cX5_init 148 = .ok (.new 54, 3) := by decide +kernel
theorem dX5_init_151 : decode cX5_init 151 = .ok (.dup, 1) := by decide +kernel
theorem dX5_init_152 : decode cX5_init 152 = .ok (.invokespecial 56, 3) := by decide +kernel
theorem dX5_init_155 : decode cX5_init 155 = .ok (.putfield 57, 3) := by decide +kernel
theorem dX5_init_158 : decode cX5_init 158 = .ok (.aload_n 0, 1) := by decide +kernel
theorem dX5_init_159 : decode cX5_init 159 = .ok (.new 54, 3) := by decide +kernel
theorem dX5_init_162 : decode cX5_init 162 = .ok (.dup, 1) := by decide +kernel
theorem dX5_init_163 : decode cX5_init 163 = .ok (.invokespecial 56, 3) := by decide +kernel
theorem dX5_init_166 : decode cX5_init 166 = .ok (.putfield 61, 3) := by decide +kernel
theorem dX5_init_169 : decode cX5_init 169 = .ok (.aload_n 0, 1) := by decide +kernel
theorem dX5_init_170 : decode cX5_init 170 = .ok (.new 54, 3) := by decide +kernel
theorem dX5_init_173 : decode cX5_init 173 = .ok (.dup, 1) := by decide +kernel
theorem dX5_init_174 : decode cX5_init 174 = .ok (.invokespecial 56, 3) := by decide +kernel
theorem dX5_init_177 : decode cX5_init 177 = .ok (.putfield 64, 3) := by decide +kernel
theorem dX5_init_180 : decode cX5_init 180 = .ok (.aload_n 0, 1) := by decide +kernel
theorem dX5_init_181 : decode cX5_init 181 = .ok (.new 54, 3) := by decide +kernel
theorem dX5_init_184 : decode cX5_init 184 = .ok (.dup, 1) := by decide +kernel
theorem dX5_init_185 : decode cX5_init 185 = .ok (.invokespecial 56, 3) := by decide +kernel
theorem dX5_init_188 : decode cX5_init 188 = .ok (.putfield 67, 3) := by decide +kernel
theorem dX5_init_191 : decode cX5_init 191 = .ok (.return_, 1) := by decide +kernel
theorem dX5_divide_0 : decode cX5_divide 0 = .ok (.aload 4, 2) := by decide +kernel
theorem dX5_divide_2 : decode cX5_divide 2 = .ok (.aload_n 1, 1) := by decide +kernel
theorem dX5_divide_3 : decode cX5_divide 3 = .ok (.invokevirtual 70, 3) := by decide +kernel
theorem dX5_divide_6 : decode cX5_divide 6 = .ok (.aload_n 3, 1) := by decide +kernel
theorem dX5_divide_7 : decode cX5_divide 7 = .ok (.iconst 0, 1) := by decide +kernel
theorem dX5_divide_8 : decode cX5_divide 8 = .ok (.putfield 74, 3) := by decide +kernel
theorem dX5_divide_11 : decode cX5_divide 11 = .ok (.aload_n 2, 1) := by decide +kernel
theorem dX5_divide_12 : decode cX5_divide 12 = .ok (.getfield 74, 3) := by decide +kernel
theorem dX5_divide_15 : decode cX5_divide 15 = .ok (.ifCond .eq 11, 3) := by decide +kernel
theorem dX5_divide_18 : decode cX5_divide 18 = .ok (.aload_n 1, 1) := by decide +kernel
theorem dX5_divide_19 : decode cX5_divide 19 = .ok (.aload_n 2, 1) := by decide +kernel
theorem dX5_divide_20 : decode cX5_divide 20 = .ok (.invokevirtual 78, 3) := by decide +kernel
theorem dX5_divide_23 : decode cX5_divide 23 = .ok (.ifCond .ge 4, 3) := by decide +kernel
theorem dX5_divide_26 : decode cX5_divide 26 = .ok (.return_, 1) := by decide +kernel
theorem dX5_divide_27 : decode cX5_divide 27 = .ok (.aload_n 2, 1) := by decide +kernel
theorem dX5_divide_28 : decode cX5_divide 28 = .ok (.getfield 74, 3) := by decide +kernel
theorem dX5_divide_31 : decode cX5_divide 31 = .ok (.iconst 1, 1) := by decide +kernel
theorem dX5_divide_32 : decode cX5_divide 32 = .ok (.if_icmp .ne 25, 3) := by decide +kernel
theorem dX5_divide_35 : decode cX5_divide 35 = .ok (.aload_n 3, 1) := by decide +kernel
theorem dX5_divide_36 : decode cX5_divide 36 = .ok (.aload_n 1, 1) := by decide +kernel
theorem dX5_divide_37 : decode cX5_divide 37 = .ok (.invokevirtual 70, 3) := by decide +kernel
theorem dX5_divide_40 : decode cX5_divide 40 = .ok (.aload 4, 2) := by decide +kernel
theorem dX5_divide_42 : decode cX5_divide 42 = .ok (.aload_n 3, 1) := by decide +kernel
theorem dX5_divide_43 : decode cX5_divide 43 = .ok (.aload_n 2, 1) := by decide +kernel
theorem dX5_divide_44 : decode cX5_divide 44 = .ok (.getfield 82, 3) := by decide +kernel
theorem dX5_divide_47 : decode cX5_divide 47 = .ok (.iconst 0, 1) := by decide +kernel
theorem dX5_divide_48 : decode cX5_divide 48 = .ok (.iaload, 1) := by decide +kernel
theorem dX5_divide_49 : decode cX5_divide 49 = .ok (.invokevirtual 86, 3) := by decide +kernel
theorem dX5_divide_52 : decode cX5_divide 52 = .ok (.i2l, 1) := by decide +kernel
theorem dX5_divide_53 : decode cX5_divide 53 = .ok (.invokevirtual 90, 3) := by decide +kernel
theorem dX5_divide_56 : decode cX5_divide 56 = .ok (.return_, 1) := by decide +kernel
theorem dX5_divide_57 : decode cX5_divide 57 = .ok (.ldc 94, 2) := by decide +kernel
theorem dX5_divide_59 : decode cX5_divide 59 = .ok (.aload_n 2, 1) := by decide +kernel
theorem dX5_divide_60 : decode cX5_divide 60 = .ok (.getfield 82, 3) := by decide +kernel
theorem dX5_divide_63 : decode cX5_divide 63 = .ok (.aload_n 2, 1) := by decide +kernel
theorem dX5_divide_64 : decode cX5_divide 64 = .ok (.getfield 74, 3) := by decide +kernel
theorem dX5_divide_67 : decode cX5_divide 67 = .ok (.iconst 1, 1) := by decide +kernel
theorem dX5_divide_68 : decode cX5_divide 68 = .ok (.isub, 1) := by decide +kernel
theorem dX5_divide_69 : decode cX5_divide 69 = .ok (.iaload, 1) := by decide +kernel
theorem dX5_divide_70 : decode cX5_divide 70 = .ok (.iconst 1, 1) := by decide +kernel
theorem dX5_divide_71 : decode cX5_divide 71 = .ok (.iadd, 1) := by decide +kernel
theorem dX5_divide_72 : decode cX5_divide 72 = .ok (.idiv, 1) := by decide +kernel
theorem dX5_divide_73 : decode cX5_divide 73 = .ok (.istore 5, 2) := by decide +kernel
theorem dX5_divide_75 : decode cX5_divide 75 = .ok (.aload_n 0, 1) := by decide +kernel
theorem dX5_divide_76 : decode cX5_divide 76 = .ok (.getfield 18, 3) := by decide +kernel
theorem dX5_divide_79 : decode cX5_divide 79 = .ok (.aload_n 2, 1) := by decide +kernel
theorem dX5_divide_80 : decode cX5_divide 80 = .ok (.invokevirtual 70, 3) := by decide +kernel
theorem dX5_divide_83 : decode cX5_divide 83 = .ok (.aload_n 0, 1) := by decide +kernel
theorem dX5_divide_84 : decode cX5_divide 84 = .ok (.getfield 18, 3) := by decide +kernel
theorem dX5_divide_87 : decode cX5_divide 87 = .ok (.iload 5, 2) := by decide +kernel
theorem dX5_divide_89 : decode cX5_divide 89 = .ok (.iconst 0, 1) := by decide +kernel
theorem dX5_divide_90 : decode cX5_divide 90 = .ok (.invokevirtual 95, 3) := by decide +kernel
theorem dX5_divide_93 : decode cX5_divide 93 = .ok (.aload 4, 2) := by decide +kernel
theorem dX5_divide_95 : decode cX5_divide 95 = .ok (.iload 5, 2) := by decide +kernel
theorem dX5_divide_97 : decode cX5_divide 97 = .ok (.iconst 0, 1) := by decide +kernel
theorem dX5_divide_98 : decode cX5_divide 98 = .ok (.invokevirtual 95, 3) := by decide +kernel
theorem dX5_divide_101 : decode cX5_divide 101 = .ok (.aload 4, 2) := by decide +kernel
theorem dX5_divide_103 : decode cX5_divide 103 = .ok (.getfield 74, 3) := by decide +kernel
theorem dX5_divide_106 : decode cX5_divide 106 = .ok (.istore 6, 2) := by decide +kernel
theorem dX5_divide_108 : decode cX5_divide 108 = .ok (.aload 4, 2) := by decide +kernel
theorem dX5_divide_110 : decode cX5_divide 110 = .ok (.getfield 82, 3) := by decide +kernel
theorem dX5_divide_113 : decode cX5_divide 113 = .ok (.arraylength, 1) := by decide +kernel
theorem dX5_divide_114 : decode cX5_divide 114 = .ok (.iload 6, 2) := by decide +kernel
theorem dX5_divide_116 : decode cX5_divide 116 = .ok (.if_icmp .gt 22, 3) := by decide +kernel
theorem dX5_divide_119 : decode cX5_divide 119 = .ok (.aload 4, 2) := by decide +kernel
theorem dX5_divide_121 : decode cX5_divide 121 = .ok (.aload 4, 2) := by decide +kernel
theorem dX5_divide_123 : decode cX5_divide 123 = .ok (.getfield 82, 3) := by decide +kernel
theorem dX5_divide_126 : decode cX5_divide 126 = .ok (.iload 6, 2) := by decide +kernel
theorem dX5_divide_128 : decode cX5_divide 128 = .ok (.iconst 2, 1) := by decide +kernel
theorem dX5_divide_129 : decode cX5_divide 129 = .ok (.imul, 1) := by decide +kernel
theorem dX5_divide_130 : decode cX5_divide 130 = .ok (.iconst 1, 1) := by decide +kernel
theorem dX5_divide_131 : decode cX5_divide 131 = .ok (.iadd, 1) := by decide +kernel
theorem dX5_divide_132 : decode cX5_divide 132 = .ok (.invokestatic 99, 3) := by decide +kernel
theorem dX5_divide_135 : decode cX5_divide 135 = .ok (.putfield 82, 3) := by decide +kernel
theorem dX5_divide_138 : decode cX5_divide 138 = .ok (.aload 4, 2) := by decide +kernel
theorem dX5_divide_140 : decode cX5_divide 140 = .ok (.getfield 82, 3) := by decide +kernel
theorem dX5_divide_143 : decode cX5_divide 143 = .ok (.iload 6, 2) := by decide +kernel
theorem dX5_divide_145 : decode cX5_divide 145 = .ok (.iconst 0, 1) := by decide +kernel
theorem dX5_divide_146 : decode cX5_divide 146 = .ok (.iastore, 1) := by decide +kernel
theorem dX5_divide_147 : decode cX5_divide 147 = .ok (.iload 6, 2) := by decide +kernel
theorem dX5_divide_149 : decode cX5_divide 149 = .ok (.aload_n 0, 1) := by decide +kernel
theorem dX5_divide_150 : decode cX5_divide 150 = .ok (.getfield 18, 3) := by decide +kernel
theorem dX5_divide_153 : decode cX5_divide 153 = .ok (.getfield 74, 3) := by decide +kernel
theorem dX5_divide_156 : decode cX5_divide 156 = .ok (.isub, 1) := by decide +kernel
theorem dX5_divide_157 : decode cX5_divide 157 = .ok (.iconst 1, 1) := by decide +kernel
theorem dX5_divide_158 : decode cX5_divide 158 = .ok (.iadd, 1) := by decide +kernel
theorem dX5_divide_159 : decode cX5_divide 159 = .ok (.istore 7, 2) := by decide +kernel
theorem dX5_divide_161 : decode cX5_divide 161 = .ok (.aload_n 3, 1) := by decide +kernel
theorem dX5_divide_162 : decode cX5_divide 162 = .ok (.getfield 82, 3) := by decide +kernel
theorem dX5_divide_165 : decode cX5_divide 165 = .ok (.arraylength, 1) := by decide +kernel
theorem dX5_divide_166 : decode cX5_divide 166 = .ok (.iload 7, 2) := by decide +kernel
theorem dX5_divide_168 : decode cX5_divide 168 = .ok (.if_icmp .ge 13, 3) := by decide +kernel
theorem dX5_divide_171 : decode cX5_divide 171 = .ok (.aload_n 3, 1) := by decide +kernel
theorem dX5_divide_172 : decode cX5_divide 172 = .ok (.iload 7, 2) := by decide +kernel
theorem dX5_divide_174 : decode cX5_divide 174 = .ok (.iconst 2, 1) := by decide +kernel
theorem dX5_divide_175 : decode cX5_divide 175 = .ok (.imul, 1) := by decide +kernel
theorem dX5_divide_176 : decode cX5_divide 176 = .ok (.newarray .int, 2) := by decide +kernel
theorem dX5_divide_178 : decode cX5_divide 178 = .ok (.putfield 82, 3) := by decide +kernel
theorem dX5_divide_181 : decode cX5_divide 181 = .ok (.iload 7, 2) := by decide +kernel
theorem dX5_divide_183 : decode cX5_divide 183 = .ok (.iconst 1, 1) := by decide +kernel
theorem dX5_divide_184 : decode cX5_divide 184 = .ok (.isub, 1) := by decide +kernel
theorem dX5_divide_185 : decode cX5_divide 185 = .ok (.istore 8, 2) := by decide +kernel
theorem dX5_divide_187 : decode cX5_divide 187 = .ok (.iload 8, 2) := by decide +kernel
theorem dX5_divide_189 : decode cX5_divide 189 = .ok (.ifCond .lt 27, 3) := by decide +kernel
theorem dX5_divide_192 : decode cX5_divide 192 = .ok (.aload_n 3, 1) := by decide +kernel
theorem dX5_divide_193 : decode cX5_divide 193 = .ok (.getfield 82, 3) := by decide +kernel
theorem dX5_divide_196 : decode cX5_divide 196 = .ok (.iload 8, 2) := by decide +kernel
theorem dX5_divide_198 : decode cX5_divide 198 = .ok (.aload_n 0, 1) := by decide +kernel
theorem dX5_divide_199 : decode cX5_divide 199 = .ok (.aload 4, 2) := by decide +kernel
theorem dX5_divide_201 : decode cX5_divide 201 = .ok (.getfield 82, 3) := by decide +kernel
theorem dX5_divide_204 : decode cX5_divide 204 = .ok (.iload 8, 2) := by decide +kernel
theorem dX5_divide_206 : decode cX5_divide 206 = .ok (.invokevirtual 105, 3) := by decide +kernel
theorem dX5_divide_209 : decode cX5_divide 209 = .ok (.iastore, 1) := by decide +kernel
theorem dX5_divide_210 : decode cX5_divide 210 = .ok (.iinc 8 (-1), 3) := by decide +kernel
theorem dX5_divide_213 : decode cX5_divide 213 = .ok (.goto (-26), 3) := by decide +kernel
theorem dX5_divide_216 : decode cX5_divide 216 = .ok (.aload_n 3, 1) := by decide +kernel
theorem dX5_divide_217 : decode cX5_divide 217 = .ok (.iload 7, 2) := by decide +kernel
theorem dX5_divide_219 : decode cX5_divide 219 = .ok (.putfield 74, 3) := by decide +kernel
theorem dX5_divide_222 : decode cX5_divide 222 = .ok (.aload_n 3, 1) := by decide +kernel
theorem dX5_divide_223 : decode cX5_divide 223 = .ok (.invokevirtual 109, 3) := by decide +kernel
theorem dX5_divide_226 : decode cX5_divide 226 = .ok (.aload 4, 2) := by decide +kernel
theorem dX5_divide_228 : decode cX5_divide 228 = .ok (.invokevirtual 109, 3) := by decide +kernel
theorem dX5_divide_231 : decode cX5_divide 231 = .ok (.aload 4, 2) := by decide +kernel
theorem dX5_divide_233 : decode cX5_divide 233 = .ok (.iload 5, 2) := by decide +kernel
theorem dX5_divide_235 : decode cX5_divide 235 = .ok (.invokevirtual 86, 3) := by decide +kernel
theorem dX5_divide_238 : decode cX5_divide 238 = .ok (.pop, 1) := by decide +kernel
theorem dX5_divide_239 : decode cX5_divide 239 = .ok (.return_, 1) := by decide +kernel
theorem dX5_takeOff_0 : decode cX5_takeOff 0 = .ok (.aload_n 0, 1) := by decide +kernel
theorem dX5_takeOff_1 : decode cX5_takeOff 1 = .ok (.getfield 18, 3) := by decide +kernel
theorem dX5_takeOff_4 : decode cX5_takeOff 4 = .ok (.getfield 74, 3) := by decide +kernel
theorem dX5_takeOff_7 : decode cX5_takeOff 7 = .ok (.istore_n 3, 1) := by decide +kernel
theorem dX5_takeOff_8 : decode cX5_takeOff 8 = .ok (.iload_n 2, 1) := by decide +kernel
theorem dX5_takeOff_9 : decode cX5_takeOff 9 = .ok (.iload_n 3, 1) := by decide +kernel
theorem dX5_takeOff_10 : decode cX5_takeOff 10 = .ok (.iadd, 1) := by decide +kernel
theorem dX5_takeOff_11 : decode cX5_takeOff 11 = .ok (.istore 4, 2) := by decide +kernel
theorem dX5_takeOff_13 : decode cX5_takeOff 13 = .ok (.iload_n 3, 1) := by decide +kernel
theorem dX5_takeOff_14 : decode cX5_takeOff 14 = .ok (.iconst 1, 1) := by decide +kernel
theorem dX5_takeOff_15 : decode cX5_takeOff 15 = .ok (.if_icmp .lt 29, 3) := by decide +kernel
theorem dX5_takeOff_18 : decode cX5_takeOff 18 = .ok (.iload_n 2, 1) := by decide +kernel
theorem dX5_takeOff_19 : decode cX5_takeOff 19 = .ok (.ifCond .lt 25, 3) := by decide +kernel
theorem dX5_takeOff_22 : decode cX5_takeOff 22 = .ok (.iload 4, 2) := by decide +kernel
theorem dX5_takeOff_24 : decode cX5_takeOff 24 = .ok (.aload_n 1, 1) := by decide +kernel
theorem dX5_takeOff_25 : decode cX5_takeOff 25 = .ok (.arraylength, 1) := by decide +kernel
theorem dX5_takeOff_26 : decode cX5_takeOff 26 = .ok (.if_icmp .ge 18, 3) := by decide +kernel
theorem dX5_takeOff_29 : decode cX5_takeOff 29 = .ok (.aload_n 0, 1) := by decide +kernel
theorem dX5_takeOff_30 : decode cX5_takeOff 30 = .ok (.getfield 18, 3) := by decide +kernel
theorem dX5_takeOff_33 : decode cX5_takeOff 33 = .ok (.getfield 82, 3) := by decide +kernel
theorem dX5_takeOff_36 : decode cX5_takeOff 36 = .ok (.iload_n 3, 1) := by decide +kernel
theorem dX5_takeOff_37 : decode cX5_takeOff 37 = .ok (.iconst 1, 1) := by decide +kernel
theorem dX5_takeOff_38 : decode cX5_takeOff 38 = .ok (.isub, 1) := by decide +kernel
theorem dX5_takeOff_39 : decode cX5_takeOff 39 = .ok (.iaload, 1) := by decide +kernel
theorem dX5_takeOff_40 : decode cX5_takeOff 40 = .ok (.iconst 1, 1) := by decide +kernel
theorem dX5_takeOff_41 : decode cX5_takeOff 41 = .ok (.if_icmp .ge 5, 3) := by decide +kernel
theorem dX5_takeOff_44 : decode cX5_takeOff 44 = .ok (.iconst 0, 1) := by decide +kernel
theorem dX5_takeOff_45 : decode cX5_takeOff 45 = .ok (.ireturn, 1) := by decide +kernel
theorem dX5_takeOff_46 : decode cX5_takeOff 46 = .ok (.aload_n 1, 1) := by decide +kernel
theorem dX5_takeOff_47 : decode cX5_takeOff 47 = .ok (.iload 4, 2) := by decide +kernel
theorem dX5_takeOff_49 : decode cX5_takeOff 49 = .ok (.iaload, 1) := by decide +kernel
theorem dX5_takeOff_50 : decode cX5_takeOff 50 = .ok (.i2l, 1) := by decide +kernel
theorem dX5_takeOff_51 : decode cX5_takeOff 51 = .ok (.ldc2_w 112, 3) := by decide +kernel
theorem dX5_takeOff_54 : decode cX5_takeOff 54 = .ok (.lmul, 1) := by decide +kernel
theorem dX5_takeOff_55 : decode cX5_takeOff 55 = .ok (.aload_n 1, 1) := by decide +kernel
theorem dX5_takeOff_56 : decode cX5_takeOff 56 = .ok (.iload 4, 2) := by decide +kernel
theorem dX5_takeOff_58 : decode cX5_takeOff 58 = .ok (.iconst 1, 1) := by decide +kernel
theorem dX5_takeOff_59 : decode cX5_takeOff 59 = .ok (.isub, 1) := by decide +kernel
theorem dX5_takeOff_60 : decode cX5_takeOff 60 = .ok (.iaload, 1) := by decide +kernel
theorem dX5_takeOff_61 : decode cX5_takeOff 61 = .ok (.i2l, 1) := by decide +kernel
theorem dX5_takeOff_62 : decode cX5_takeOff 62 = .ok (.ladd, 1) := by decide +kernel
theorem dX5_takeOff_63 : decode cX5_takeOff 63 = .ok (.lstore 5, 2) := by decide +kernel
theorem dX5_takeOff_65 : decode cX5_takeOff 65 = .ok (.lload 5, 2) := by decide +kernel
theorem dX5_takeOff_67 : decode cX5_takeOff 67 = .ok (.aload_n 0, 1) := by decide +kernel
theorem dX5_takeOff_68 : decode cX5_takeOff 68 = .ok (.getfield 18, 3) := by decide +kernel
theorem dX5_takeOff_71 : decode cX5_takeOff 71 = .ok (.getfield 82, 3) := by decide +kernel
theorem dX5_takeOff_74 : decode cX5_takeOff 74 = .ok (.iload_n 3, 1) := by decide +kernel
theorem dX5_takeOff_75 : decode cX5_takeOff 75 = .ok (.iconst 1, 1) := by decide +kernel
theorem dX5_takeOff_76 : decode cX5_takeOff 76 = .ok (.isub, 1) := by decide +kernel
theorem dX5_takeOff_77 : decode cX5_takeOff 77 = .ok (.iaload, 1) := by decide +kernel
theorem dX5_takeOff_78 : decode cX5_takeOff 78 = .ok (.i2l, 1) := by decide +kernel
theorem dX5_takeOff_79 : decode cX5_takeOff 79 = .ok (.ldiv, 1) := by decide +kernel
theorem dX5_takeOff_80 : decode cX5_takeOff 80 = .ok (.ldc2_w 114, 3) := by decide +kernel
theorem dX5_takeOff_83 : decode cX5_takeOff 83 = .ok (.invokestatic 116, 3) := by decide +kernel
theorem dX5_takeOff_86 : decode cX5_takeOff 86 = .ok (.lstore 7, 2) := by decide +kernel
theorem dX5_takeOff_88 : decode cX5_takeOff 88 = .ok (.lconst 0, 1) := by decide +kernel
theorem dX5_takeOff_89 : decode cX5_takeOff 89 = .ok (.lstore 9, 2) := by decide +kernel
theorem dX5_takeOff_91 : decode cX5_takeOff 91 = .ok (.iconst 0, 1) := by decide +kernel
theorem dX5_takeOff_92 : decode cX5_takeOff 92 = .ok (.istore 11, 2) := by decide +kernel
theorem dX5_takeOff_94 : decode cX5_takeOff 94 = .ok (.iload 11, 2) := by decide +kernel
theorem dX5_takeOff_96 : decode cX5_takeOff 96 = .ok (.iload_n 3, 1) := by decide +kernel
theorem dX5_takeOff_97 : decode cX5_takeOff 97 = .ok (.if_icmp .ge 66, 3) := by decide +kernel
theorem dX5_takeOff_100 : decode cX5_takeOff 100 = .ok (.lload 9, 2) := by decide +kernel
theorem dX5_takeOff_102 : decode cX5_takeOff 102 = .ok (.aload_n 1, 1) := by decide +kernel
theorem dX5_takeOff_103 : decode cX5_takeOff 103 = .ok (.iload_n 2, 1) := by decide +kernel
theorem dX5_takeOff_104 : decode cX5_takeOff 104 = .ok (.iload 11, 2) := by decide +kernel
theorem dX5_takeOff_106 : decode cX5_takeOff 106 = .ok (.iadd, 1) := by decide +kernel
theorem dX5_takeOff_107 : decode cX5_takeOff 107 = .ok (.iaload, 1) := by decide +kernel
theorem dX5_takeOff_108 : decode cX5_takeOff 108 = .ok (.i2l, 1) := by decide +kernel
theorem dX5_takeOff_109 : decode cX5_takeOff 109 = .ok (.lload 7, 2) := by decide +kernel
theorem dX5_takeOff_111 : decode cX5_takeOff 111 = .ok (.aload_n 0, 1) := by decide +kernel
theorem dX5_takeOff_112 : decode cX5_takeOff 112 = .ok (.getfield 18, 3) := by decide +kernel
theorem dX5_takeOff_115 : decode cX5_takeOff 115 = .ok (.getfield 82, 3) := by decide +kernel
theorem dX5_takeOff_118 : decode cX5_takeOff 118 = .ok (.iload 11, 2) := by decide +kernel
theorem dX5_takeOff_120 : decode cX5_takeOff 120 = .ok (.iaload, 1) := by decide +kernel
theorem dX5_takeOff_121 : decode cX5_takeOff 121 = .ok (.i2l, 1) := by decide +kernel
theorem dX5_takeOff_122 : decode cX5_takeOff 122 = .ok (.lmul, 1) := by decide +kernel
theorem dX5_takeOff_123 : decode cX5_takeOff 123 = .ok (.lsub, 1) := by decide +kernel
theorem dX5_takeOff_124 : decode cX5_takeOff 124 = .ok (.ladd, 1) := by decide +kernel
theorem dX5_takeOff_125 : decode cX5_takeOff 125 = .ok (.lstore 9, 2) := by decide +kernel
theorem dX5_takeOff_127 : decode cX5_takeOff 127 = .ok (.lload 9, 2) := by decide +kernel
theorem dX5_takeOff_129 : decode cX5_takeOff 129 = .ok (.ldc2_w 112, 3) := by decide +kernel
theorem dX5_takeOff_132 : decode cX5_takeOff 132 = .ok (.invokestatic 122, 3) := by decide +kernel
theorem dX5_takeOff_135 : decode cX5_takeOff 135 = .ok (.lstore 12, 2) := by decide +kernel
theorem dX5_takeOff_137 : decode cX5_takeOff 137 = .ok (.aload_n 1, 1) := by decide +kernel
theorem dX5_takeOff_138 : decode cX5_takeOff 138 = .ok (.iload_n 2, 1) := by decide +kernel
theorem dX5_takeOff_139 : decode cX5_takeOff 139 = .ok (.iload 11, 2) := by decide +kernel
theorem dX5_takeOff_141 : decode cX5_takeOff 141 = .ok (.iadd, 1) := by decide +kernel
theorem dX5_takeOff_142 : decode cX5_takeOff 142 = .ok (.lload 12, 2) := by decide +kernel
theorem dX5_takeOff_144 : decode cX5_takeOff 144 = .ok (.l2i, 1) := by decide +kernel
theorem dX5_takeOff_145 : decode cX5_takeOff 145 = .ok (.iastore, 1) := by decide +kernel
theorem dX5_takeOff_146 : decode cX5_takeOff 146 = .ok (.lload 9, 2) := by decide +kernel
theorem dX5_takeOff_148 : decode cX5_takeOff 148 = .ok (.lload 12, 2) := by decide +kernel
theorem dX5_takeOff_150 : decode cX5_takeOff 150 = .ok (.lsub, 1) := by decide +kernel
theorem dX5_takeOff_151 : decode cX5_takeOff 151 = .ok (.ldc2_w 112, 3) := by decide +kernel
theorem dX5_takeOff_154 : decode cX5_takeOff 154 = .ok (.ldiv, 1) := by decide +kernel
theorem dX5_takeOff_155 : decode cX5_takeOff 155 = .ok (.lstore 9, 2) := by decide +kernel
theorem dX5_takeOff_157 : decode cX5_takeOff 157 = .ok (.iinc 11 1, 3) := by decide +kernel
theorem dX5_takeOff_160 : decode cX5_takeOff 160 = .ok (.goto (-66), 3) := by decide +kernel
theorem dX5_takeOff_163 : decode cX5_takeOff 163 = .ok (.aload_n 1, 1) := by decide +kernel
theorem dX5_takeOff_164 : decode cX5_takeOff 164 = .ok (.iload 4, 2) := by decide +kernel
theorem dX5_takeOff_166 : decode cX5_takeOff 166 = .ok (.iaload, 1) := by decide +kernel
theorem dX5_takeOff_167 : decode cX5_takeOff 167 = .ok (.i2l, 1) := by decide +kernel
theorem dX5_takeOff_168 : decode cX5_takeOff 168 = .ok (.lload 9, 2) := by decide +kernel
theorem dX5_takeOff_170 : decode cX5_takeOff 170 = .ok (.ladd, 1) := by decide +kernel
theorem dX5_takeOff_171 : decode cX5_takeOff 171 = .ok (.l2i, 1) := by decide +kernel
theorem dX5_takeOff_172 : decode cX5_takeOff 172 = .ok (.istore 11, 2) := by decide +kernel
theorem dX5_takeOff_174 : decode cX5_takeOff 174 = .ok (.iconst 0, 1) := by decide +kernel
theorem dX5_takeOff_175 : decode cX5_takeOff 175 = .ok (.istore 12, 2) := by decide +kernel
theorem dX5_takeOff_177 : decode cX5_takeOff 177 = .ok (.iload 12, 2) := by decide +kernel
theorem dX5_takeOff_179 : decode cX5_takeOff 179 = .ok (.iconst 4, 1) := by decide +kernel
theorem dX5_takeOff_180 : decode cX5_takeOff 180 = .ok (.if_icmp .ge 95, 3) := by decide +kernel
theorem dX5_takeOff_183 : decode cX5_takeOff 183 = .ok (.iload 11, 2) := by decide +kernel
theorem dX5_takeOff_185 : decode cX5_takeOff 185 = .ok (.ifCond .ge 90, 3) := by decide +kernel
theorem dX5_takeOff_188 : decode cX5_takeOff 188 = .ok (.lload 7, 2) := by decide +kernel
theorem dX5_takeOff_190 : decode cX5_takeOff 190 = .ok (.lconst 1, 1) := by decide +kernel
theorem dX5_takeOff_191 : decode cX5_takeOff 191 = .ok (.lsub, 1) := by decide +kernel
theorem dX5_takeOff_192 : decode cX5_takeOff 192 = .ok (.lstore 7, 2) := by decide +kernel
theorem dX5_takeOff_194 : decode cX5_takeOff 194 = .ok (.iconst 0, 1) := by decide +kernel
theorem dX5_takeOff_195 : decode cX5_takeOff 195 = .ok (.istore 13, 2) := by decide +kernel
theorem dX5_takeOff_197 : decode cX5_takeOff 197 = .ok (.iconst 0, 1) := by decide +kernel
theorem dX5_takeOff_198 : decode cX5_takeOff 198 = .ok (.istore 14, 2) := by decide +kernel
theorem dX5_takeOff_200 : decode cX5_takeOff 200 = .ok (.iload 14, 2) := by decide +kernel
theorem dX5_takeOff_202 : decode cX5_takeOff 202 = .ok (.iload_n 3, 1) := by decide +kernel
theorem dX5_takeOff_203 : decode cX5_takeOff 203 = .ok (.if_icmp .ge 59, 3) := by decide +kernel
theorem dX5_takeOff_206 : decode cX5_takeOff 206 = .ok (.aload_n 1, 1) := by decide +kernel
theorem dX5_takeOff_207 : decode cX5_takeOff 207 = .ok (.iload_n 2, 1) := by decide +kernel
theorem dX5_takeOff_208 : decode cX5_takeOff 208 = .ok (.iload 14, 2) := by decide +kernel
theorem dX5_takeOff_210 : decode cX5_takeOff 210 = .ok (.iadd, 1) := by decide +kernel
theorem dX5_takeOff_211 : decode cX5_takeOff 211 = .ok (.iaload, 1) := by decide +kernel
theorem dX5_takeOff_212 : decode cX5_takeOff 212 = .ok (.aload_n 0, 1) := by decide +kernel
theorem dX5_takeOff_213 : decode cX5_takeOff 213 = .ok (.getfield 18, 3) := by decide +kernel
theorem dX5_takeOff_216 : decode cX5_takeOff 216 = .ok (.getfield 82, 3) := by decide +kernel
theorem dX5_takeOff_219 : decode cX5_takeOff 219 = .ok (.iload 14, 2) := by decide +kernel
theorem dX5_takeOff_221 : decode cX5_takeOff 221 = .ok (.iaload, 1) := by decide +kernel
theorem dX5_takeOff_222 : decode cX5_takeOff 222 = .ok (.iadd, 1) := by decide +kernel
theorem dX5_takeOff_223 : decode cX5_takeOff 223 = .ok (.iload 13, 2) := by decide +kernel
theorem dX5_takeOff_225 : decode cX5_takeOff 225 = .ok (.iadd, 1) := by decide +kernel
theorem dX5_takeOff_226 : decode cX5_takeOff 226 = .ok (.istore 15, 2) := by decide +kernel
theorem dX5_takeOff_228 : decode cX5_takeOff 228 = .ok (.iload 15, 2) := by decide +kernel
theorem dX5_takeOff_230 : decode cX5_takeOff 230 = .ok (.ldc 94, 2) := by decide +kernel
theorem dX5_takeOff_232 : decode cX5_takeOff 232 = .ok (.if_icmp .lt 7, 3) := by decide +kernel
theorem dX5_takeOff_235 : decode cX5_takeOff 235 = .ok (.iconst 1, 1) := by decide +kernel
theorem dX5_takeOff_236 : decode cX5_takeOff 236 = .ok (.goto 4, 3) := by decide +kernel
theorem dX5_takeOff_239 : decode cX5_takeOff 239 = .ok (.iconst 0, 1) := by decide +kernel
theorem dX5_takeOff_240 : decode cX5_takeOff 240 = .ok (.istore 13, 2) := by decide +kernel
theorem dX5_takeOff_242 : decode cX5_takeOff 242 = .ok (.aload_n 1, 1) := by decide +kernel
theorem dX5_takeOff_243 : decode cX5_takeOff 243 = .ok (.iload_n 2, 1) := by decide +kernel
theorem dX5_takeOff_244 : decode cX5_takeOff 244 = .ok (.iload 14, 2) := by decide +kernel
theorem dX5_takeOff_246 : decode cX5_takeOff 246 = .ok (.iadd, 1) := by decide +kernel
theorem dX5_takeOff_247 : decode cX5_takeOff 247 = .ok (.iload 15, 2) := by decide +kernel
theorem dX5_takeOff_249 : decode cX5_takeOff 249 = .ok (.iload 13, 2) := by decide +kernel
theorem dX5_takeOff_251 : decode cX5_takeOff 251 = .ok (.ldc 94, 2) := by decide +kernel
theorem dX5_takeOff_253 : decode cX5_takeOff 253 = .ok (.imul, 1) := by decide +kernel
theorem dX5_takeOff_254 : decode cX5_takeOff 254 = .ok (.isub, 1) := by decide +kernel
theorem dX5_takeOff_255 : decode cX5_takeOff 255 = .ok (.iastore, 1) := by decide +kernel
theorem dX5_takeOff_256 : decode cX5_takeOff 256 = .ok (.iinc 14 1, 3) := by decide +kernel
theorem dX5_takeOff_259 : decode cX5_takeOff 259 = .ok (.goto (-59), 3) := by decide +kernel
theorem dX5_takeOff_262 : decode cX5_takeOff 262 = .ok (.iload 11, 2) := by decide +kernel
theorem dX5_takeOff_264 : decode cX5_takeOff 264 = .ok (.iload 13, 2) := by decide +kernel
theorem dX5_takeOff_266 : decode cX5_takeOff 266 = .ok (.iadd, 1) := by decide +kernel
theorem dX5_takeOff_267 : decode cX5_takeOff 267 = .ok (.istore 11, 2) := by decide +kernel
theorem dX5_takeOff_269 : decode cX5_takeOff 269 = .ok (.iinc 12 1, 3) := by decide +kernel
theorem dX5_takeOff_272 : decode cX5_takeOff 272 = .ok (.goto (-95), 3) := by decide +kernel
theorem dX5_takeOff_275 : decode cX5_takeOff 275 = .ok (.aload_n 1, 1) := by decide +kernel
theorem dX5_takeOff_276 : decode cX5_takeOff 276 = .ok (.iload 4, 2) := by decide +kernel
theorem dX5_takeOff_278 : decode cX5_takeOff 278 = .ok (.iload 11, 2) := by decide +kernel
theorem dX5_takeOff_280 : decode cX5_takeOff 280 = .ok (.iastore, 1) := by decide +kernel
theorem dX5_takeOff_281 : decode cX5_takeOff 281 = .ok (.lload 7, 2) := by decide +kernel
theorem dX5_takeOff_283 : decode cX5_takeOff 283 = .ok (.l2i, 1) := by decide +kernel
theorem dX5_takeOff_284 : decode cX5_takeOff 284 = .ok (.ireturn, 1) := by decide +kernel
theorem dX5_gcd_0 : decode cX5_gcd 0 = .ok (.aload_n 0, 1) := by decide +kernel
theorem dX5_gcd_1 : decode cX5_gcd 1 = .ok (.getfield 24, 3) := by decide +kernel
theorem dX5_gcd_4 : decode cX5_gcd 4 = .ok (.astore 4, 2) := by decide +kernel
theorem dX5_gcd_6 : decode cX5_gcd 6 = .ok (.aload_n 0, 1) := by decide +kernel
theorem dX5_gcd_7 : decode cX5_gcd 7 = .ok (.getfield 27, 3) := by decide +kernel
theorem dX5_gcd_10 : decode cX5_gcd 10 = .ok (.astore 5, 2) := by decide +kernel
theorem dX5_gcd_12 : decode cX5_gcd 12 = .ok (.aload 4, 2) := by decide +kernel
theorem dX5_gcd_14 : decode cX5_gcd 14 = .ok (.aload_n 1, 1) := by decide +kernel
theorem dX5_gcd_15 : decode cX5_gcd 15 = .ok (.invokevirtual 70, 3) := by decide +kernel
theorem dX5_gcd_18 : decode cX5_gcd 18 = .ok (.aload 5, 2) := by decide +kernel
theorem dX5_gcd_20 : decode cX5_gcd 20 = .ok (.aload_n 2, 1) := by decide +kernel
theorem dX5_gcd_21 : decode cX5_gcd 21 = .ok (.invokevirtual 70, 3) := by decide +kernel
theorem dX5_gcd_24 : decode cX5_gcd 24 = .ok (.iconst 0, 1) := by decide +kernel
theorem dX5_gcd_25 : decode cX5_gcd 25 = .ok (.istore 6, 2) := by decide +kernel
theorem dX5_gcd_27 : decode cX5_gcd 27 = .ok (.iload 6, 2) := by decide +kernel
theorem dX5_gcd_29 : decode cX5_gcd 29 = .ok (.ldc 125, 2) := by decide +kernel
theorem dX5_gcd_31 : decode cX5_gcd 31 = .ok (.if_icmp .ge 66, 3) := by decide +kernel
theorem dX5_gcd_34 : decode cX5_gcd 34 = .ok (.aload 5, 2) := by decide +kernel
theorem dX5_gcd_36 : decode cX5_gcd 36 = .ok (.invokevirtual 126, 3) := by decide +kernel
theorem dX5_gcd_39 : decode cX5_gcd 39 = .ok (.ifCond .eq 11, 3) := by decide +kernel
theorem dX5_gcd_42 : decode cX5_gcd 42 = .ok (.aload 4, 2) := by decide +kernel
theorem dX5_gcd_44 : decode cX5_gcd 44 = .ok (.invokevirtual 126, 3) := by decide +kernel
theorem dX5_gcd_47 : decode cX5_gcd 47 = .ok (.ifCond .ne 50, 3) := by decide +kernel
theorem dX5_gcd_50 : decode cX5_gcd 50 = .ok (.aload 5, 2) := by decide +kernel
theorem dX5_gcd_52 : decode cX5_gcd 52 = .ok (.invokevirtual 130, 3) := by decide +kernel
theorem dX5_gcd_55 : decode cX5_gcd 55 = .ok (.ifCond .eq 10, 3) := by decide +kernel
theorem dX5_gcd_58 : decode cX5_gcd 58 = .ok (.aload_n 3, 1) := by decide +kernel
theorem dX5_gcd_59 : decode cX5_gcd 59 = .ok (.aload 4, 2) := by decide +kernel
theorem dX5_gcd_61 : decode cX5_gcd 61 = .ok (.invokevirtual 70, 3) := by decide +kernel
theorem dX5_gcd_64 : decode cX5_gcd 64 = .ok (.return_, 1) := by decide +kernel
theorem dX5_gcd_65 : decode cX5_gcd 65 = .ok (.aload_n 0, 1) := by decide +kernel
theorem dX5_gcd_66 : decode cX5_gcd 66 = .ok (.aload 4, 2) := by decide +kernel
theorem dX5_gcd_68 : decode cX5_gcd 68 = .ok (.aload 5, 2) := by decide +kernel
theorem dX5_gcd_70 : decode cX5_gcd 70 = .ok (.aload_n 0, 1) := by decide +kernel
theorem dX5_gcd_71 : decode cX5_gcd 71 = .ok (.getfield 12, 3) := by decide +kernel
theorem dX5_gcd_74 : decode cX5_gcd 74 = .ok (.aload 4, 2) := by decide +kernel
theorem dX5_gcd_76 : decode cX5_gcd 76 = .ok (.invokevirtual 133, 3) := by decide +kernel
theorem dX5_gcd_79 : decode cX5_gcd 79 = .ok (.aload 4, 2) := by decide +kernel
theorem dX5_gcd_81 : decode cX5_gcd 81 = .ok (.astore 7, 2) := by decide +kernel
theorem dX5_gcd_83 : decode cX5_gcd 83 = .ok (.aload 5, 2) := by decide +kernel
theorem dX5_gcd_85 : decode cX5_gcd 85 = .ok (.astore 4, 2) := by decide +kernel
theorem dX5_gcd_87 : decode cX5_gcd 87 = .ok (.aload 7, 2) := by decide +kernel
theorem dX5_gcd_89 : decode cX5_gcd 89 = .ok (.astore 5, 2) := by decide +kernel
theorem dX5_gcd_91 : decode cX5_gcd 91 = .ok (.iinc 6 1, 3) := by decide +kernel
theorem dX5_gcd_94 : decode cX5_gcd 94 = .ok (.goto (-67), 3) := by decide +kernel
theorem dX5_gcd_97 : decode cX5_gcd 97 = .ok (.aload 4, 2) := by decide +kernel
theorem dX5_gcd_99 : decode cX5_gcd 99 = .ok (.invokevirtual 137, 3) := by decide +kernel
theorem dX5_gcd_102 : decode cX5_gcd 102 = .ok (.lstore 6, 2) := by decide +kernel
theorem dX5_gcd_104 : decode cX5_gcd 104 = .ok (.aload 5, 2) := by decide +kernel
theorem dX5_gcd_106 : decode cX5_gcd 106 = .ok (.invokevirtual 137, 3) := by decide +kernel
theorem dX5_gcd_109 : decode cX5_gcd 109 = .ok (.lstore 8, 2) := by decide +kernel
theorem dX5_gcd_111 : decode cX5_gcd 111 = .ok (.iconst 0, 1) := by decide +kernel
theorem dX5_gcd_112 : decode cX5_gcd 112 = .ok (.istore 10, 2) := by decide +kernel
theorem dX5_gcd_114 : decode cX5_gcd 114 = .ok (.iload 10, 2) := by decide +kernel
theorem dX5_gcd_116 : decode cX5_gcd 116 = .ok (.ldc 125, 2) := by decide +kernel
theorem dX5_gcd_118 : decode cX5_gcd 118 = .ok (.if_icmp .ge 31, 3) := by decide +kernel
theorem dX5_gcd_121 : decode cX5_gcd 121 = .ok (.lload 8, 2) := by decide +kernel
theorem dX5_gcd_123 : decode cX5_gcd 123 = .ok (.lconst 0, 1) := by decide +kernel
theorem dX5_gcd_124 : decode cX5_gcd 124 = .ok (.lcmp, 1) := by decide +kernel
theorem dX5_gcd_125 : decode cX5_gcd 125 = .ok (.ifCond .eq 24, 3) := by decide +kernel
theorem dX5_gcd_128 : decode cX5_gcd 128 = .ok (.lload 6, 2) := by decide +kernel
theorem dX5_gcd_130 : decode cX5_gcd 130 = .ok (.lload 8, 2) := by decide +kernel
theorem dX5_gcd_132 : decode cX5_gcd 132 = .ok (.lrem, 1) := by decide +kernel
theorem dX5_gcd_133 : decode cX5_gcd 133 = .ok (.lstore 11, 2) := by decide +kernel
theorem dX5_gcd_135 : decode cX5_gcd 135 = .ok (.lload 8, 2) := by decide +kernel
theorem dX5_gcd_137 : decode cX5_gcd 137 = .ok (.lstore 6, 2) := by decide +kernel
theorem dX5_gcd_139 : decode cX5_gcd 139 = .ok (.lload 11, 2) := by decide +kernel
theorem dX5_gcd_141 : decode cX5_gcd 141 = .ok (.lstore 8, 2) := by decide +kernel
theorem dX5_gcd_143 : decode cX5_gcd 143 = .ok (.iinc 10 1, 3) := by decide +kernel
theorem dX5_gcd_146 : decode cX5_gcd 146 = .ok (.goto (-32), 3) := by decide +kernel
theorem dX5_gcd_149 : decode cX5_gcd 149 = .ok (.aload_n 3, 1) := by decide +kernel
theorem dX5_gcd_150 : decode cX5_gcd 150 = .ok (.lload 6, 2) := by decide +kernel
theorem dX5_gcd_152 : decode cX5_gcd 152 = .ok (.invokevirtual 90, 3) := by decide +kernel
theorem dX5_gcd_155 : decode cX5_gcd 155 = .ok (.return_, 1) := by decide +kernel
theorem dX5_reduce_0 : decode cX5_reduce 0 = .ok (.aload_n 0, 1) := by decide +kernel
theorem dX5_reduce_1 : decode cX5_reduce 1 = .ok (.aload_n 1, 1) := by decide +kernel
theorem dX5_reduce_2 : decode cX5_reduce 2 = .ok (.getfield 141, 3) := by decide +kernel
theorem dX5_reduce_5 : decode cX5_reduce 5 = .ok (.aload_n 1, 1) := by decide +kernel
theorem dX5_reduce_6 : decode cX5_reduce 6 = .ok (.getfield 144, 3) := by decide +kernel
theorem dX5_reduce_9 : decode cX5_reduce 9 = .ok (.aload_n 0, 1) := by decide +kernel
theorem dX5_reduce_10 : decode cX5_reduce 10 = .ok (.getfield 30, 3) := by decide +kernel
theorem dX5_reduce_13 : decode cX5_reduce 13 = .ok (.invokevirtual 147, 3) := by decide +kernel
theorem dX5_reduce_16 : decode cX5_reduce 16 = .ok (.aload_n 0, 1) := by decide +kernel
theorem dX5_reduce_17 : decode cX5_reduce 17 = .ok (.aload_n 1, 1) := by decide +kernel
theorem dX5_reduce_18 : decode cX5_reduce 18 = .ok (.getfield 141, 3) := by decide +kernel
theorem dX5_reduce_21 : decode cX5_reduce 21 = .ok (.aload_n 0, 1) := by decide +kernel
theorem dX5_reduce_22 : decode cX5_reduce 22 = .ok (.getfield 30, 3) := by decide +kernel
theorem dX5_reduce_25 : decode cX5_reduce 25 = .ok (.aload_n 0, 1) := by decide +kernel
theorem dX5_reduce_26 : decode cX5_reduce 26 = .ok (.getfield 36, 3) := by decide +kernel
theorem dX5_reduce_29 : decode cX5_reduce 29 = .ok (.aload_n 0, 1) := by decide +kernel
theorem dX5_reduce_30 : decode cX5_reduce 30 = .ok (.getfield 21, 3) := by decide +kernel
theorem dX5_reduce_33 : decode cX5_reduce 33 = .ok (.invokevirtual 133, 3) := by decide +kernel
theorem dX5_reduce_36 : decode cX5_reduce 36 = .ok (.aload_n 0, 1) := by decide +kernel
theorem dX5_reduce_37 : decode cX5_reduce 37 = .ok (.aload_n 1, 1) := by decide +kernel
theorem dX5_reduce_38 : decode cX5_reduce 38 = .ok (.getfield 144, 3) := by decide +kernel
theorem dX5_reduce_41 : decode cX5_reduce 41 = .ok (.aload_n 0, 1) := by decide +kernel
theorem dX5_reduce_42 : decode cX5_reduce 42 = .ok (.getfield 30, 3) := by decide +kernel
theorem dX5_reduce_45 : decode cX5_reduce 45 = .ok (.aload_n 0, 1) := by decide +kernel
theorem dX5_reduce_46 : decode cX5_reduce 46 = .ok (.getfield 39, 3) := by decide +kernel
theorem dX5_reduce_49 : decode cX5_reduce 49 = .ok (.aload_n 0, 1) := by decide +kernel
theorem dX5_reduce_50 : decode cX5_reduce 50 = .ok (.getfield 21, 3) := by decide +kernel
theorem dX5_reduce_53 : decode cX5_reduce 53 = .ok (.invokevirtual 133, 3) := by decide +kernel
theorem dX5_reduce_56 : decode cX5_reduce 56 = .ok (.aload_n 1, 1) := by decide +kernel
theorem dX5_reduce_57 : decode cX5_reduce 57 = .ok (.getfield 141, 3) := by decide +kernel
theorem dX5_reduce_60 : decode cX5_reduce 60 = .ok (.aload_n 0, 1) := by decide +kernel
theorem dX5_reduce_61 : decode cX5_reduce 61 = .ok (.getfield 36, 3) := by decide +kernel
theorem dX5_reduce_64 : decode cX5_reduce 64 = .ok (.invokevirtual 70, 3) := by decide +kernel
theorem dX5_reduce_67 : decode cX5_reduce 67 = .ok (.aload_n 1, 1) := by decide +kernel
theorem dX5_reduce_68 : decode cX5_reduce 68 = .ok (.getfield 144, 3) := by decide +kernel
theorem dX5_reduce_71 : decode cX5_reduce 71 = .ok (.aload_n 0, 1) := by decide +kernel
theorem dX5_reduce_72 : decode cX5_reduce 72 = .ok (.getfield 39, 3) := by decide +kernel
theorem dX5_reduce_75 : decode cX5_reduce 75 = .ok (.invokevirtual 70, 3) := by decide +kernel
theorem dX5_reduce_78 : decode cX5_reduce 78 = .ok (.return_, 1) := by decide +kernel
theorem dX5_join_0 : decode cX5_join 0 = .ok (.aload_n 0, 1) := by decide +kernel
theorem dX5_join_1 : decode cX5_join 1 = .ok (.getfield 42, 3) := by decide +kernel
theorem dX5_join_4 : decode cX5_join 4 = .ok (.aload_n 0, 1) := by decide +kernel
theorem dX5_join_5 : decode cX5_join 5 = .ok (.getfield 45, 3) := by decide +kernel
theorem dX5_join_8 : decode cX5_join 8 = .ok (.invokevirtual 78, 3) := by decide +kernel
theorem dX5_join_11 : decode cX5_join 11 = .ok (.istore 4, 2) := by decide +kernel
theorem dX5_join_13 : decode cX5_join 13 = .ok (.iload_n 1, 1) := by decide +kernel
theorem dX5_join_14 : decode cX5_join 14 = .ok (.iload_n 2, 1) := by decide +kernel
theorem dX5_join_15 : decode cX5_join 15 = .ok (.imul, 1) := by decide +kernel
theorem dX5_join_16 : decode cX5_join 16 = .ok (.ifCond .lt 41, 3) := by decide +kernel
theorem dX5_join_19 : decode cX5_join 19 = .ok (.aload_n 3, 1) := by decide +kernel
theorem dX5_join_20 : decode cX5_join 20 = .ok (.getfield 141, 3) := by decide +kernel
theorem dX5_join_23 : decode cX5_join 23 = .ok (.aload_n 0, 1) := by decide +kernel
theorem dX5_join_24 : decode cX5_join 24 = .ok (.getfield 42, 3) := by decide +kernel
theorem dX5_join_27 : decode cX5_join 27 = .ok (.invokevirtual 70, 3) := by decide +kernel
theorem dX5_join_30 : decode cX5_join 30 = .ok (.aload_n 3, 1) := by decide +kernel
theorem dX5_join_31 : decode cX5_join 31 = .ok (.getfield 141, 3) := by decide +kernel
theorem dX5_join_34 : decode cX5_join 34 = .ok (.aload_n 0, 1) := by decide +kernel
theorem dX5_join_35 : decode cX5_join 35 = .ok (.getfield 45, 3) := by decide +kernel
theorem dX5_join_38 : decode cX5_join 38 = .ok (.invokevirtual 151, 3) := by decide +kernel
theorem dX5_join_41 : decode cX5_join 41 = .ok (.aload_n 3, 1) := by decide +kernel
theorem dX5_join_42 : decode cX5_join 42 = .ok (.iload_n 1, 1) := by decide +kernel
theorem dX5_join_43 : decode cX5_join 43 = .ok (.ifCond .eq 7, 3) := by decide +kernel
theorem dX5_join_46 : decode cX5_join 46 = .ok (.iload_n 1, 1) := by decide +kernel
theorem dX5_join_47 : decode cX5_join 47 = .ok (.goto 4, 3) := by decide +kernel
theorem dX5_join_50 : decode cX5_join 50 = .ok (.iload_n 2, 1) := by decide +kernel
theorem dX5_join_51 : decode cX5_join 51 = .ok (.invokevirtual 154, 3) := by decide +kernel
theorem dX5_join_54 : decode cX5_join 54 = .ok (.goto 65, 3) := by decide +kernel
theorem dX5_join_57 : decode cX5_join 57 = .ok (.iload 4, 2) := by decide +kernel
theorem dX5_join_59 : decode cX5_join 59 = .ok (.ifCond .lt 33, 3) := by decide +kernel
theorem dX5_join_62 : decode cX5_join 62 = .ok (.aload_n 3, 1) := by decide +kernel
theorem dX5_join_63 : decode cX5_join 63 = .ok (.getfield 141, 3) := by decide +kernel
theorem dX5_join_66 : decode cX5_join 66 = .ok (.aload_n 0, 1) := by decide +kernel
theorem dX5_join_67 : decode cX5_join 67 = .ok (.getfield 42, 3) := by decide +kernel
theorem dX5_join_70 : decode cX5_join 70 = .ok (.invokevirtual 70, 3) := by decide +kernel
theorem dX5_join_73 : decode cX5_join 73 = .ok (.aload_n 3, 1) := by decide +kernel
theorem dX5_join_74 : decode cX5_join 74 = .ok (.getfield 141, 3) := by decide +kernel
theorem dX5_join_77 : decode cX5_join 77 = .ok (.aload_n 0, 1) := by decide +kernel
theorem dX5_join_78 : decode cX5_join 78 = .ok (.getfield 45, 3) := by decide +kernel
theorem dX5_join_81 : decode cX5_join 81 = .ok (.invokevirtual 158, 3) := by decide +kernel
theorem dX5_join_84 : decode cX5_join 84 = .ok (.aload_n 3, 1) := by decide +kernel
theorem dX5_join_85 : decode cX5_join 85 = .ok (.iload_n 1, 1) := by decide +kernel
theorem dX5_join_86 : decode cX5_join 86 = .ok (.invokevirtual 154, 3) := by decide +kernel
theorem dX5_join_89 : decode cX5_join 89 = .ok (.goto 30, 3) := by decide +kernel
theorem dX5_join_92 : decode cX5_join 92 = .ok (.aload_n 3, 1) := by decide +kernel
theorem dX5_join_93 : decode cX5_join 93 = .ok (.getfield 141, 3) := by decide +kernel
theorem dX5_join_96 : decode cX5_join 96 = .ok (.aload_n 0, 1) := by decide +kernel
theorem dX5_join_97 : decode cX5_join 97 = .ok (.getfield 45, 3) := by decide +kernel
theorem dX5_join_100 : decode cX5_join 100 = .ok (.invokevirtual 70, 3) := by decide +kernel
theorem dX5_join_103 : decode cX5_join 103 = .ok (.aload_n 3, 1) := by decide +kernel
theorem dX5_join_104 : decode cX5_join 104 = .ok (.getfield 141, 3) := by decide +kernel
theorem dX5_join_107 : decode cX5_join 107 = .ok (.aload_n 0, 1) := by decide +kernel
theorem dX5_join_108 : decode cX5_join 108 = .ok (.getfield 42, 3) := by decide +kernel
theorem dX5_join_111 : decode cX5_join 111 = .ok (.invokevirtual 158, 3) := by decide +kernel
theorem dX5_join_114 : decode cX5_join 114 = .ok (.aload_n 3, 1) := by decide +kernel
theorem dX5_join_115 : decode cX5_join 115 = .ok (.iload_n 2, 1) := by decide +kernel
theorem dX5_join_116 : decode cX5_join 116 = .ok (.invokevirtual 154, 3) := by decide +kernel
theorem dX5_join_119 : decode cX5_join 119 = .ok (.return_, 1) := by decide +kernel
theorem dX5_add_0 : decode cX5_add 0 = .ok (.aload_n 0, 1) := by decide +kernel
theorem dX5_add_1 : decode cX5_add 1 = .ok (.aload_n 1, 1) := by decide +kernel
theorem dX5_add_2 : decode cX5_add 2 = .ok (.getfield 144, 3) := by decide +kernel
theorem dX5_add_5 : decode cX5_add 5 = .ok (.aload_n 2, 1) := by decide +kernel
theorem dX5_add_6 : decode cX5_add 6 = .ok (.getfield 144, 3) := by decide +kernel
theorem dX5_add_9 : decode cX5_add 9 = .ok (.aload_n 0, 1) := by decide +kernel
theorem dX5_add_10 : decode cX5_add 10 = .ok (.getfield 30, 3) := by decide +kernel
theorem dX5_add_13 : decode cX5_add 13 = .ok (.invokevirtual 147, 3) := by decide +kernel
theorem dX5_add_16 : decode cX5_add 16 = .ok (.aload_n 0, 1) := by decide +kernel
theorem dX5_add_17 : decode cX5_add 17 = .ok (.aload_n 1, 1) := by decide +kernel
theorem dX5_add_18 : decode cX5_add 18 = .ok (.getfield 144, 3) := by decide +kernel
theorem dX5_add_21 : decode cX5_add 21 = .ok (.aload_n 0, 1) := by decide +kernel
theorem dX5_add_22 : decode cX5_add 22 = .ok (.getfield 30, 3) := by decide +kernel
theorem dX5_add_25 : decode cX5_add 25 = .ok (.aload_n 0, 1) := by decide +kernel
theorem dX5_add_26 : decode cX5_add 26 = .ok (.getfield 36, 3) := by decide +kernel
theorem dX5_add_29 : decode cX5_add 29 = .ok (.aload_n 0, 1) := by decide +kernel
theorem dX5_add_30 : decode cX5_add 30 = .ok (.getfield 21, 3) := by decide +kernel
theorem dX5_add_33 : decode cX5_add 33 = .ok (.invokevirtual 133, 3) := by decide +kernel
theorem dX5_add_36 : decode cX5_add 36 = .ok (.aload_n 0, 1) := by decide +kernel
theorem dX5_add_37 : decode cX5_add 37 = .ok (.aload_n 2, 1) := by decide +kernel
theorem dX5_add_38 : decode cX5_add 38 = .ok (.getfield 144, 3) := by decide +kernel
theorem dX5_add_41 : decode cX5_add 41 = .ok (.aload_n 0, 1) := by decide +kernel
theorem dX5_add_42 : decode cX5_add 42 = .ok (.getfield 30, 3) := by decide +kernel
theorem dX5_add_45 : decode cX5_add 45 = .ok (.aload_n 0, 1) := by decide +kernel
theorem dX5_add_46 : decode cX5_add 46 = .ok (.getfield 39, 3) := by decide +kernel
theorem dX5_add_49 : decode cX5_add 49 = .ok (.aload_n 0, 1) := by decide +kernel
theorem dX5_add_50 : decode cX5_add 50 = .ok (.getfield 21, 3) := by decide +kernel
theorem dX5_add_53 : decode cX5_add 53 = .ok (.invokevirtual 133, 3) := by decide +kernel
theorem dX5_add_56 : decode cX5_add 56 = .ok (.aload_n 0, 1) := by decide +kernel
theorem dX5_add_57 : decode cX5_add 57 = .ok (.getfield 42, 3) := by decide +kernel
theorem dX5_add_60 : decode cX5_add 60 = .ok (.aload_n 1, 1) := by decide +kernel
theorem dX5_add_61 : decode cX5_add 61 = .ok (.getfield 141, 3) := by decide +kernel
theorem dX5_add_64 : decode cX5_add 64 = .ok (.aload_n 0, 1) := by decide +kernel
theorem dX5_add_65 : decode cX5_add 65 = .ok (.getfield 39, 3) := by decide +kernel
theorem dX5_add_68 : decode cX5_add 68 = .ok (.invokevirtual 161, 3) := by decide +kernel
theorem dX5_add_71 : decode cX5_add 71 = .ok (.aload_n 0, 1) := by decide +kernel
theorem dX5_add_72 : decode cX5_add 72 = .ok (.getfield 45, 3) := by decide +kernel
theorem dX5_add_75 : decode cX5_add 75 = .ok (.aload_n 2, 1) := by decide +kernel
theorem dX5_add_76 : decode cX5_add 76 = .ok (.getfield 141, 3) := by decide +kernel
theorem dX5_add_79 : decode cX5_add 79 = .ok (.aload_n 0, 1) := by decide +kernel
theorem dX5_add_80 : decode cX5_add 80 = .ok (.getfield 36, 3) := by decide +kernel
theorem dX5_add_83 : decode cX5_add 83 = .ok (.invokevirtual 161, 3) := by decide +kernel
theorem dX5_add_86 : decode cX5_add 86 = .ok (.aload_n 0, 1) := by decide +kernel
theorem dX5_add_87 : decode cX5_add 87 = .ok (.aload_n 1, 1) := by decide +kernel
theorem dX5_add_88 : decode cX5_add 88 = .ok (.getfield 165, 3) := by decide +kernel
theorem dX5_add_91 : decode cX5_add 91 = .ok (.iload_n 3, 1) := by decide +kernel
theorem dX5_add_92 : decode cX5_add 92 = .ok (.ifCond .eq 11, 3) := by decide +kernel
theorem dX5_add_95 : decode cX5_add 95 = .ok (.aload_n 2, 1) := by decide +kernel
theorem dX5_add_96 : decode cX5_add 96 = .ok (.getfield 165, 3) := by decide +kernel
theorem dX5_add_99 : decode cX5_add 99 = .ok (.ineg, 1) := by decide +kernel
theorem dX5_add_100 : decode cX5_add 100 = .ok (.goto 7, 3) := by decide +kernel
theorem dX5_add_103 : decode cX5_add 103 = .ok (.aload_n 2, 1) := by decide +kernel
theorem dX5_add_104 : decode cX5_add 104 = .ok (.getfield 165, 3) := by decide +kernel
theorem dX5_add_107 : decode cX5_add 107 = .ok (.aload 4, 2) := by decide +kernel
theorem dX5_add_109 : decode cX5_add 109 = .ok (.invokevirtual 168, 3) := by decide +kernel
theorem dX5_add_112 : decode cX5_add 112 = .ok (.aload_n 0, 1) := by decide +kernel
theorem dX5_add_113 : decode cX5_add 113 = .ok (.aload 4, 2) := by decide +kernel
theorem dX5_add_115 : decode cX5_add 115 = .ok (.getfield 141, 3) := by decide +kernel
theorem dX5_add_118 : decode cX5_add 118 = .ok (.aload_n 0, 1) := by decide +kernel
theorem dX5_add_119 : decode cX5_add 119 = .ok (.getfield 30, 3) := by decide +kernel
theorem dX5_add_122 : decode cX5_add 122 = .ok (.aload_n 0, 1) := by decide +kernel
theorem dX5_add_123 : decode cX5_add 123 = .ok (.getfield 33, 3) := by decide +kernel
theorem dX5_add_126 : decode cX5_add 126 = .ok (.invokevirtual 147, 3) := by decide +kernel
theorem dX5_add_129 : decode cX5_add 129 = .ok (.aload_n 0, 1) := by decide +kernel
theorem dX5_add_130 : decode cX5_add 130 = .ok (.aload 4, 2) := by decide +kernel
theorem dX5_add_132 : decode cX5_add 132 = .ok (.getfield 141, 3) := by decide +kernel
theorem dX5_add_135 : decode cX5_add 135 = .ok (.aload_n 0, 1) := by decide +kernel
theorem dX5_add_136 : decode cX5_add 136 = .ok (.getfield 33, 3) := by decide +kernel
theorem dX5_add_139 : decode cX5_add 139 = .ok (.aload_n 0, 1) := by decide +kernel
theorem dX5_add_140 : decode cX5_add 140 = .ok (.getfield 42, 3) := by decide +kernel
theorem dX5_add_143 : decode cX5_add 143 = .ok (.aload_n 0, 1) := by decide +kernel
theorem dX5_add_144 : decode cX5_add 144 = .ok (.getfield 21, 3) := by decide +kernel
theorem dX5_add_147 : decode cX5_add 147 = .ok (.invokevirtual 133, 3) := by decide +kernel
theorem dX5_add_150 : decode cX5_add 150 = .ok (.aload 4, 2) := by decide +kernel
theorem dX5_add_152 : decode cX5_add 152 = .ok (.getfield 141, 3) := by decide +kernel
theorem dX5_add_155 : decode cX5_add 155 = .ok (.aload_n 0, 1) := by decide +kernel
theorem dX5_add_156 : decode cX5_add 156 = .ok (.getfield 42, 3) := by decide +kernel
theorem dX5_add_159 : decode cX5_add 159 = .ok (.invokevirtual 70, 3) := by decide +kernel
theorem dX5_add_162 : decode cX5_add 162 = .ok (.aload_n 0, 1) := by decide +kernel
theorem dX5_add_163 : decode cX5_add 163 = .ok (.aload_n 2, 1) := by decide +kernel
theorem dX5_add_164 : decode cX5_add 164 = .ok (.getfield 144, 3) := by decide +kernel
theorem dX5_add_167 : decode cX5_add 167 = .ok (.aload_n 0, 1) := by decide +kernel
theorem dX5_add_168 : decode cX5_add 168 = .ok (.getfield 33, 3) := by decide +kernel
theorem dX5_add_171 : decode cX5_add 171 = .ok (.aload_n 0, 1) := by decide +kernel
theorem dX5_add_172 : decode cX5_add 172 = .ok (.getfield 39, 3) := by decide +kernel
theorem dX5_add_175 : decode cX5_add 175 = .ok (.aload_n 0, 1) := by decide +kernel
theorem dX5_add_176 : decode cX5_add 176 = .ok (.getfield 21, 3) := by decide +kernel
theorem dX5_add_179 : decode cX5_add 179 = .ok (.invokevirtual 133, 3) := by decide +kernel
theorem dX5_add_182 : decode cX5_add 182 = .ok (.aload 4, 2) := by decide +kernel
theorem dX5_add_184 : decode cX5_add 184 = .ok (.getfield 144, 3) := by decide +kernel
theorem dX5_add_187 : decode cX5_add 187 = .ok (.aload_n 0, 1) := by decide +kernel
theorem dX5_add_188 : decode cX5_add 188 = .ok (.getfield 36, 3) := by decide +kernel
theorem dX5_add_191 : decode cX5_add 191 = .ok (.aload_n 0, 1) := by decide +kernel
theorem dX5_add_192 : decode cX5_add 192 = .ok (.getfield 39, 3) := by decide +kernel
theorem dX5_add_195 : decode cX5_add 195 = .ok (.invokevirtual 161, 3) := by decide +kernel
theorem dX5_add_198 : decode cX5_add 198 = .ok (.return_, 1) := by decide +kernel
theorem dX5_multiply_0 : decode cX5_multiply 0 = .ok (.aload_n 0, 1) := by decide +kernel
theorem dX5_multiply_1 : decode cX5_multiply 1 = .ok (.aload_n 1, 1) := by decide +kernel
theorem dX5_multiply_2 : decode cX5_multiply 2 = .ok (.getfield 141, 3) := by decide +kernel
theorem dX5_multiply_5 : decode cX5_multiply 5 = .ok (.aload_n 2, 1) := by decide +kernel
theorem dX5_multiply_6 : decode cX5_multiply 6 = .ok (.getfield 144, 3) := by decide +kernel
theorem dX5_multiply_9 : decode cX5_multiply 9 = .ok (.aload_n 0, 1) := by decide +kernel
theorem dX5_multiply_10 : decode cX5_multiply 10 = .ok (.getfield 30, 3) := by decide +kernel
theorem dX5_multiply_13 : decode cX5_multiply 13 = .ok (.invokevirtual 147, 3) := by decide +kernel
theorem dX5_multiply_16 : decode cX5_multiply 16 = .ok (.aload_n 0, 1) := by decide +kernel
theorem dX5_multiply_17 : decode cX5_multiply 17 = .ok (.aload_n 2, 1) := by decide +kernel
theorem dX5_multiply_18 : decode cX5_multiply 18 = .ok (.getfield 141, 3) := by decide +kernel
theorem dX5_multiply_21 : decode cX5_multiply 21 = .ok (.aload_n 1, 1) := by decide +kernel
theorem dX5_multiply_22 : decode cX5_multiply 22 = .ok (.getfield 144, 3) := by decide +kernel
theorem dX5_multiply_25 : decode cX5_multiply 25 = .ok (.aload_n 0, 1) := by decide +kernel
theorem dX5_multiply_26 : decode cX5_multiply 26 = .ok (.getfield 33, 3) := by decide +kernel
theorem dX5_multiply_29 : decode cX5_multiply 29 = .ok (.invokevirtual 147, 3) := by decide +kernel
theorem dX5_multiply_32 : decode cX5_multiply 32 = .ok (.aload_n 0, 1) := by decide +kernel
theorem dX5_multiply_33 : decode cX5_multiply 33 = .ok (.aload_n 1, 1) := by decide +kernel
theorem dX5_multiply_34 : decode cX5_multiply 34 = .ok (.getfield 141, 3) := by decide +kernel
theorem dX5_multiply_37 : decode cX5_multiply 37 = .ok (.aload_n 0, 1) := by decide +kernel
theorem dX5_multiply_38 : decode cX5_multiply 38 = .ok (.getfield 30, 3) := by decide +kernel
theorem dX5_multiply_41 : decode cX5_multiply 41 = .ok (.aload_n 0, 1) := by decide +kernel
theorem dX5_multiply_42 : decode cX5_multiply 42 = .ok (.getfield 36, 3) := by decide +kernel
theorem dX5_multiply_45 : decode cX5_multiply 45 = .ok (.aload_n 0, 1) := by decide +kernel
theorem dX5_multiply_46 : decode cX5_multiply 46 = .ok (.getfield 21, 3) := by decide +kernel
theorem dX5_multiply_49 : decode cX5_multiply 49 = .ok (.invokevirtual 133, 3) := by decide +kernel
theorem dX5_multiply_52 : decode cX5_multiply 52 = .ok (.aload_n 0, 1) := by decide +kernel
theorem dX5_multiply_53 : decode cX5_multiply 53 = .ok (.aload_n 2, 1) := by decide +kernel
theorem dX5_multiply_54 : decode cX5_multiply 54 = .ok (.getfield 141, 3) := by decide +kernel
theorem dX5_multiply_57 : decode cX5_multiply 57 = .ok (.aload_n 0, 1) := by decide +kernel
theorem dX5_multiply_58 : decode cX5_multiply 58 = .ok (.getfield 33, 3) := by decide +kernel
theorem dX5_multiply_61 : decode cX5_multiply 61 = .ok (.aload_n 0, 1) := by decide +kernel
theorem dX5_multiply_62 : decode cX5_multiply 62 = .ok (.getfield 39, 3) := by decide +kernel
theorem dX5_multiply_65 : decode cX5_multiply 65 = .ok (.aload_n 0, 1) := by decide +kernel
theorem dX5_multiply_66 : decode cX5_multiply 66 = .ok (.getfield 21, 3) := by decide +kernel
theorem dX5_multiply_69 : decode cX5_multiply 69 = .ok (.invokevirtual 133, 3) := by decide +kernel
theorem dX5_multiply_72 : decode cX5_multiply 72 = .ok (.aload_n 3, 1) := by decide +kernel
theorem dX5_multiply_73 : decode cX5_multiply 73 = .ok (.getfield 141, 3) := by decide +kernel
theorem dX5_multiply_76 : decode cX5_multiply 76 = .ok (.aload_n 0, 1) := by decide +kernel
theorem dX5_multiply_77 : decode cX5_multiply 77 = .ok (.getfield 36, 3) := by decide +kernel
theorem dX5_multiply_80 : decode cX5_multiply 80 = .ok (.aload_n 0, 1) := by decide +kernel
theorem dX5_multiply_81 : decode cX5_multiply 81 = .ok (.getfield 39, 3) := by decide +kernel
theorem dX5_multiply_84 : decode cX5_multiply 84 = .ok (.invokevirtual 161, 3) := by decide +kernel
theorem dX5_multiply_87 : decode cX5_multiply 87 = .ok (.aload_n 0, 1) := by decide +kernel
theorem dX5_multiply_88 : decode cX5_multiply 88 = .ok (.aload_n 1, 1) := by decide +kernel
theorem dX5_multiply_89 : decode cX5_multiply 89 = .ok (.getfield 144, 3) := by decide +kernel
theorem dX5_multiply_92 : decode cX5_multiply 92 = .ok (.aload_n 0, 1) := by decide +kernel
theorem dX5_multiply_93 : decode cX5_multiply 93 = .ok (.getfield 33, 3) := by decide +kernel
theorem dX5_multiply_96 : decode cX5_multiply 96 = .ok (.aload_n 0, 1) := by decide +kernel
theorem dX5_multiply_97 : decode cX5_multiply 97 = .ok (.getfield 36, 3) := by decide +kernel
theorem dX5_multiply_100 : decode cX5_multiply 100 = .ok (.aload_n 0, 1) := by decide +kernel
theorem dX5_multiply_101 : decode cX5_multiply 101 = .ok (.getfield 21, 3) := by decide +kernel
theorem dX5_multiply_104 : decode cX5_multiply 104 = .ok (.invokevirtual 133, 3) := by decide +kernel
theorem dX5_multiply_107 : decode cX5_multiply 107 = .ok (.aload_n 0, 1) := by decide +kernel
theorem dX5_multiply_108 : decode cX5_multiply 108 = .ok (.aload_n 2, 1) := by decide +kernel
theorem dX5_multiply_109 : decode cX5_multiply 109 = .ok (.getfield 144, 3) := by decide +kernel
theorem dX5_multiply_112 : decode cX5_multiply 112 = .ok (.aload_n 0, 1) := by decide +kernel
theorem dX5_multiply_113 : decode cX5_multiply 113 = .ok (.getfield 30, 3) := by decide +kernel
theorem dX5_multiply_116 : decode cX5_multiply 116 = .ok (.aload_n 0, 1) := by decide +kernel
theorem dX5_multiply_117 : decode cX5_multiply 117 = .ok (.getfield 39, 3) := by decide +kernel
theorem dX5_multiply_120 : decode cX5_multiply 120 = .ok (.aload_n 0, 1) := by decide +kernel
theorem dX5_multiply_121 : decode cX5_multiply 121 = .ok (.getfield 21, 3) := by decide +kernel
theorem dX5_multiply_124 : decode cX5_multiply 124 = .ok (.invokevirtual 133, 3) := by decide +kernel
theorem dX5_multiply_127 : decode cX5_multiply 127 = .ok (.aload_n 3, 1) := by decide +kernel
theorem dX5_multiply_128 : decode cX5_multiply 128 = .ok (.getfield 144, 3) := by decide +kernel
theorem dX5_multiply_131 : decode cX5_multiply 131 = .ok (.aload_n 0, 1) := by decide +kernel
theorem dX5_multiply_132 : decode cX5_multiply 132 = .ok (.getfield 36, 3) := by decide +kernel
theorem dX5_multiply_135 : decode cX5_multiply 135 = .ok (.aload_n 0, 1) := by decide +kernel
theorem dX5_multiply_136 : decode cX5_multiply 136 = .ok (.getfield 39, 3) := by decide +kernel
theorem dX5_multiply_139 : decode cX5_multiply 139 = .ok (.invokevirtual 161, 3) := by decide +kernel
theorem dX5_multiply_142 : decode cX5_multiply 142 = .ok (.aload_n 3, 1) := by decide +kernel
theorem dX5_multiply_143 : decode cX5_multiply 143 = .ok (.aload_n 1, 1) := by decide +kernel
theorem dX5_multiply_144 : decode cX5_multiply 144 = .ok (.getfield 165, 3) := by decide +kernel
theorem dX5_multiply_147 : decode cX5_multiply 147 = .ok (.aload_n 2, 1) := by decide +kernel
theorem dX5_multiply_148 : decode cX5_multiply 148 = .ok (.getfield 165, 3) := by decide +kernel
theorem dX5_multiply_151 : decode cX5_multiply 151 = .ok (.imul, 1) := by decide +kernel
theorem dX5_multiply_152 : decode cX5_multiply 152 = .ok (.invokevirtual 154, 3) := by decide +kernel
theorem dX5_multiply_155 : decode cX5_multiply 155 = .ok (.return_, 1) := by decide +kernel
theorem dX5_inverse_0 : decode cX5_inverse 0 = .ok (.aload_n 0, 1) := by decide +kernel
theorem dX5_inverse_1 : decode cX5_inverse 1 = .ok (.getfield 57, 3) := by decide +kernel
theorem dX5_inverse_4 : decode cX5_inverse 4 = .ok (.getfield 141, 3) := by decide +kernel
theorem dX5_inverse_7 : decode cX5_inverse 7 = .ok (.aload_n 1, 1) := by decide +kernel
theorem dX5_inverse_8 : decode cX5_inverse 8 = .ok (.getfield 144, 3) := by decide +kernel
theorem dX5_inverse_11 : decode cX5_inverse 11 = .ok (.invokevirtual 70, 3) := by decide +kernel
theorem dX5_inverse_14 : decode cX5_inverse 14 = .ok (.aload_n 0, 1) := by decide +kernel
theorem dX5_inverse_15 : decode cX5_inverse 15 = .ok (.getfield 57, 3) := by decide +kernel
theorem dX5_inverse_18 : decode cX5_inverse 18 = .ok (.getfield 144, 3) := by decide +kernel
theorem dX5_inverse_21 : decode cX5_inverse 21 = .ok (.aload_n 1, 1) := by decide +kernel
theorem dX5_inverse_22 : decode cX5_inverse 22 = .ok (.getfield 141, 3) := by decide +kernel
theorem dX5_inverse_25 : decode cX5_inverse 25 = .ok (.invokevirtual 70, 3) := by decide +kernel
theorem dX5_inverse_28 : decode cX5_inverse 28 = .ok (.aload_n 0, 1) := by decide +kernel
theorem dX5_inverse_29 : decode cX5_inverse 29 = .ok (.getfield 57, 3) := by decide +kernel
theorem dX5_inverse_32 : decode cX5_inverse 32 = .ok (.aload_n 1, 1) := by decide +kernel
theorem dX5_inverse_33 : decode cX5_inverse 33 = .ok (.getfield 165, 3) := by decide +kernel
theorem dX5_inverse_36 : decode cX5_inverse 36 = .ok (.putfield 165, 3) := by decide +kernel
theorem dX5_inverse_39 : decode cX5_inverse 39 = .ok (.aload_n 0, 1) := by decide +kernel
theorem dX5_inverse_40 : decode cX5_inverse 40 = .ok (.getfield 57, 3) := by decide +kernel
theorem dX5_inverse_43 : decode cX5_inverse 43 = .ok (.areturn, 1) := by decide +kernel
theorem dX5_remain_0 : decode cX5_remain 0 = .ok (.aload_n 0, 1) := by decide +kernel
theorem dX5_remain_1 : decode cX5_remain 1 = .ok (.getfield 42, 3) := by decide +kernel
theorem dX5_remain_4 : decode cX5_remain 4 = .ok (.aload_n 1, 1) := by decide +kernel
theorem dX5_remain_5 : decode cX5_remain 5 = .ok (.getfield 141, 3) := by decide +kernel
theorem dX5_remain_8 : decode cX5_remain 8 = .ok (.aload_n 2, 1) := by decide +kernel
theorem dX5_remain_9 : decode cX5_remain 9 = .ok (.getfield 144, 3) := by decide +kernel
theorem dX5_remain_12 : decode cX5_remain 12 = .ok (.invokevirtual 161, 3) := by decide +kernel
theorem dX5_remain_15 : decode cX5_remain 15 = .ok (.aload_n 0, 1) := by decide +kernel
theorem dX5_remain_16 : decode cX5_remain 16 = .ok (.getfield 45, 3) := by decide +kernel
theorem dX5_remain_19 : decode cX5_remain 19 = .ok (.aload_n 2, 1) := by decide +kernel
theorem dX5_remain_20 : decode cX5_remain 20 = .ok (.getfield 141, 3) := by decide +kernel
theorem dX5_remain_23 : decode cX5_remain 23 = .ok (.aload_n 1, 1) := by decide +kernel
theorem dX5_remain_24 : decode cX5_remain 24 = .ok (.getfield 144, 3) := by decide +kernel
theorem dX5_remain_27 : decode cX5_remain 27 = .ok (.invokevirtual 161, 3) := by decide +kernel
theorem dX5_remain_30 : decode cX5_remain 30 = .ok (.aload_n 0, 1) := by decide +kernel
theorem dX5_remain_31 : decode cX5_remain 31 = .ok (.aload_n 0, 1) := by decide +kernel
theorem dX5_remain_32 : decode cX5_remain 32 = .ok (.getfield 42, 3) := by decide +kernel
theorem dX5_remain_35 : decode cX5_remain 35 = .ok (.aload_n 0, 1) := by decide +kernel
theorem dX5_remain_36 : decode cX5_remain 36 = .ok (.getfield 45, 3) := by decide +kernel
theorem dX5_remain_39 : decode cX5_remain 39 = .ok (.aload_n 0, 1) := by decide +kernel
theorem dX5_remain_40 : decode cX5_remain 40 = .ok (.getfield 36, 3) := by decide +kernel
theorem dX5_remain_43 : decode cX5_remain 43 = .ok (.aload_n 3, 1) := by decide +kernel
theorem dX5_remain_44 : decode cX5_remain 44 = .ok (.getfield 141, 3) := by decide +kernel
theorem dX5_remain_47 : decode cX5_remain 47 = .ok (.invokevirtual 133, 3) := by decide +kernel
theorem dX5_remain_50 : decode cX5_remain 50 = .ok (.aload_n 1, 1) := by decide +kernel
theorem dX5_remain_51 : decode cX5_remain 51 = .ok (.getfield 165, 3) := by decide +kernel
theorem dX5_remain_54 : decode cX5_remain 54 = .ok (.aload_n 2, 1) := by decide +kernel
theorem dX5_remain_55 : decode cX5_remain 55 = .ok (.getfield 165, 3) := by decide +kernel
theorem dX5_remain_58 : decode cX5_remain 58 = .ok (.imul, 1) := by decide +kernel
theorem dX5_remain_59 : decode cX5_remain 59 = .ok (.ifCond .ge 35, 3) := by decide +kernel
theorem dX5_remain_62 : decode cX5_remain 62 = .ok (.aload_n 3, 1) := by decide +kernel
theorem dX5_remain_63 : decode cX5_remain 63 = .ok (.getfield 141, 3) := by decide +kernel
theorem dX5_remain_66 : decode cX5_remain 66 = .ok (.invokevirtual 130, 3) := by decide +kernel
theorem dX5_remain_69 : decode cX5_remain 69 = .ok (.ifCond .ne 25, 3) := by decide +kernel
theorem dX5_remain_72 : decode cX5_remain 72 = .ok (.aload_n 0, 1) := by decide +kernel
theorem dX5_remain_73 : decode cX5_remain 73 = .ok (.getfield 45, 3) := by decide +kernel
theorem dX5_remain_76 : decode cX5_remain 76 = .ok (.aload_n 3, 1) := by decide +kernel
theorem dX5_remain_77 : decode cX5_remain 77 = .ok (.getfield 141, 3) := by decide +kernel
theorem dX5_remain_80 : decode cX5_remain 80 = .ok (.invokevirtual 158, 3) := by decide +kernel
theorem dX5_remain_83 : decode cX5_remain 83 = .ok (.aload_n 3, 1) := by decide +kernel
theorem dX5_remain_84 : decode cX5_remain 84 = .ok (.getfield 141, 3) := by decide +kernel
theorem dX5_remain_87 : decode cX5_remain 87 = .ok (.aload_n 0, 1) := by decide +kernel
theorem dX5_remain_88 : decode cX5_remain 88 = .ok (.getfield 45, 3) := by decide +kernel
theorem dX5_remain_91 : decode cX5_remain 91 = .ok (.invokevirtual 70, 3) := by decide +kernel
theorem dX5_remain_94 : decode cX5_remain 94 = .ok (.aload_n 3, 1) := by decide +kernel
theorem dX5_remain_95 : decode cX5_remain 95 = .ok (.getfield 144, 3) := by decide +kernel
theorem dX5_remain_98 : decode cX5_remain 98 = .ok (.aload_n 1, 1) := by decide +kernel
theorem dX5_remain_99 : decode cX5_remain 99 = .ok (.getfield 144, 3) := by decide +kernel
theorem dX5_remain_102 : decode cX5_remain 102 = .ok (.aload_n 2, 1) := by decide +kernel
theorem dX5_remain_103 : decode cX5_remain 103 = .ok (.getfield 144, 3) := by decide +kernel
theorem dX5_remain_106 : decode cX5_remain 106 = .ok (.invokevirtual 161, 3) := by decide +kernel
theorem dX5_remain_109 : decode cX5_remain 109 = .ok (.aload_n 3, 1) := by decide +kernel
theorem dX5_remain_110 : decode cX5_remain 110 = .ok (.aload_n 2, 1) := by decide +kernel
theorem dX5_remain_111 : decode cX5_remain 111 = .ok (.getfield 165, 3) := by decide +kernel
theorem dX5_remain_114 : decode cX5_remain 114 = .ok (.invokevirtual 154, 3) := by decide +kernel
theorem dX5_remain_117 : decode cX5_remain 117 = .ok (.return_, 1) := by decide +kernel
theorem dX5_mediate_0 : decode cX5_mediate 0 = .ok (.aload_n 0, 1) := by decide +kernel
theorem dX5_mediate_1 : decode cX5_mediate 1 = .ok (.getfield 42, 3) := by decide +kernel
theorem dX5_mediate_4 : decode cX5_mediate 4 = .ok (.aload_n 1, 1) := by decide +kernel
theorem dX5_mediate_5 : decode cX5_mediate 5 = .ok (.getfield 141, 3) := by decide +kernel
theorem dX5_mediate_8 : decode cX5_mediate 8 = .ok (.invokevirtual 70, 3) := by decide +kernel
theorem dX5_mediate_11 : decode cX5_mediate 11 = .ok (.aload_n 0, 1) := by decide +kernel
theorem dX5_mediate_12 : decode cX5_mediate 12 = .ok (.getfield 45, 3) := by decide +kernel
theorem dX5_mediate_15 : decode cX5_mediate 15 = .ok (.aload_n 2, 1) := by decide +kernel
theorem dX5_mediate_16 : decode cX5_mediate 16 = .ok (.getfield 141, 3) := by decide +kernel
theorem dX5_mediate_19 : decode cX5_mediate 19 = .ok (.invokevirtual 70, 3) := by decide +kernel
theorem dX5_mediate_22 : decode cX5_mediate 22 = .ok (.aload_n 0, 1) := by decide +kernel
theorem dX5_mediate_23 : decode cX5_mediate 23 = .ok (.aload_n 1, 1) := by decide +kernel
theorem dX5_mediate_24 : decode cX5_mediate 24 = .ok (.getfield 165, 3) := by decide +kernel
theorem dX5_mediate_27 : decode cX5_mediate 27 = .ok (.aload_n 2, 1) := by decide +kernel
theorem dX5_mediate_28 : decode cX5_mediate 28 = .ok (.getfield 165, 3) := by decide +kernel
theorem dX5_mediate_31 : decode cX5_mediate 31 = .ok (.aload_n 3, 1) := by decide +kernel
theorem dX5_mediate_32 : decode cX5_mediate 32 = .ok (.invokevirtual 168, 3) := by decide +kernel
theorem dX5_mediate_35 : decode cX5_mediate 35 = .ok (.aload_n 3, 1) := by decide +kernel
theorem dX5_mediate_36 : decode cX5_mediate 36 = .ok (.getfield 144, 3) := by decide +kernel
theorem dX5_mediate_39 : decode cX5_mediate 39 = .ok (.aload_n 1, 1) := by decide +kernel
theorem dX5_mediate_40 : decode cX5_mediate 40 = .ok (.getfield 144, 3) := by decide +kernel
theorem dX5_mediate_43 : decode cX5_mediate 43 = .ok (.invokevirtual 70, 3) := by decide +kernel
theorem dX5_mediate_46 : decode cX5_mediate 46 = .ok (.aload_n 3, 1) := by decide +kernel
theorem dX5_mediate_47 : decode cX5_mediate 47 = .ok (.getfield 144, 3) := by decide +kernel
theorem dX5_mediate_50 : decode cX5_mediate 50 = .ok (.aload_n 2, 1) := by decide +kernel
theorem dX5_mediate_51 : decode cX5_mediate 51 = .ok (.getfield 144, 3) := by decide +kernel
theorem dX5_mediate_54 : decode cX5_mediate 54 = .ok (.invokevirtual 151, 3) := by decide +kernel
theorem dX5_mediate_57 : decode cX5_mediate 57 = .ok (.return_, 1) := by decide +kernel
theorem dX5_power_0 : decode cX5_power 0 = .ok (.iload_n 2, 1) := by decide +kernel
theorem dX5_power_1 : decode cX5_power 1 = .ok (.invokestatic 172, 3) := by decide +kernel
theorem dX5_power_4 : decode cX5_power 4 = .ok (.istore 4, 2) := by decide +kernel
theorem dX5_power_6 : decode cX5_power 6 = .ok (.aload_n 0, 1) := by decide +kernel
theorem dX5_power_7 : decode cX5_power 7 = .ok (.iload_n 2, 1) := by decide +kernel
theorem dX5_power_8 : decode cX5_power 8 = .ok (.ifCond .ge 10, 3) := by decide +kernel
theorem dX5_power_11 : decode cX5_power 11 = .ok (.aload_n 1, 1) := by decide +kernel
theorem dX5_power_12 : decode cX5_power 12 = .ok (.getfield 144, 3) := by decide +kernel
theorem dX5_power_15 : decode cX5_power 15 = .ok (.goto 7, 3) := by decide +kernel
theorem dX5_power_18 : decode cX5_power 18 = .ok (.aload_n 1, 1) := by decide +kernel
theorem dX5_power_19 : decode cX5_power 19 = .ok (.getfield 141, 3) := by decide +kernel
theorem dX5_power_22 : decode cX5_power 22 = .ok (.iload 4, 2) := by decide +kernel
theorem dX5_power_24 : decode cX5_power 24 = .ok (.aload_n 3, 1) := by decide +kernel
theorem dX5_power_25 : decode cX5_power 25 = .ok (.getfield 141, 3) := by decide +kernel
theorem dX5_power_28 : decode cX5_power 28 = .ok (.invokevirtual 175, 3) := by decide +kernel
theorem dX5_power_31 : decode cX5_power 31 = .ok (.aload_n 0, 1) := by decide +kernel
theorem dX5_power_32 : decode cX5_power 32 = .ok (.iload_n 2, 1) := by decide +kernel
theorem dX5_power_33 : decode cX5_power 33 = .ok (.ifCond .ge 10, 3) := by decide +kernel
theorem dX5_power_36 : decode cX5_power 36 = .ok (.aload_n 1, 1) := by decide +kernel
theorem dX5_power_37 : decode cX5_power 37 = .ok (.getfield 141, 3) := by decide +kernel
theorem dX5_power_40 : decode cX5_power 40 = .ok (.goto 7, 3) := by decide +kernel
theorem dX5_power_43 : decode cX5_power 43 = .ok (.aload_n 1, 1) := by decide +kernel
theorem dX5_power_44 : decode cX5_power 44 = .ok (.getfield 144, 3) := by decide +kernel
theorem dX5_power_47 : decode cX5_power 47 = .ok (.iload 4, 2) := by decide +kernel
theorem dX5_power_49 : decode cX5_power 49 = .ok (.aload_n 3, 1) := by decide +kernel
theorem dX5_power_50 : decode cX5_power 50 = .ok (.getfield 144, 3) := by decide +kernel
theorem dX5_power_53 : decode cX5_power 53 = .ok (.invokevirtual 175, 3) := by decide +kernel
theorem dX5_power_56 : decode cX5_power 56 = .ok (.aload_n 3, 1) := by decide +kernel
theorem dX5_power_57 : decode cX5_power 57 = .ok (.aload_n 1, 1) := by decide +kernel
theorem dX5_power_58 : decode cX5_power 58 = .ok (.getfield 165, 3) := by decide +kernel
theorem dX5_power_61 : decode cX5_power 61 = .ok (.ifCond .ge 14, 3) := by decide +kernel
theorem dX5_power_64 : decode cX5_power 64 = .ok (.iload 4, 2) := by decide +kernel
theorem dX5_power_66 : decode cX5_power 66 = .ok (.iconst 2, 1) := by decide +kernel
theorem dX5_power_67 : decode cX5_power 67 = .ok (.irem, 1) := by decide +kernel
theorem dX5_power_68 : decode cX5_power 68 = .ok (.ifCond .eq 7, 3) := by decide +kernel
theorem dX5_power_71 : decode cX5_power 71 = .ok (.iconst (-1), 1) := by decide +kernel
theorem dX5_power_72 : decode cX5_power 72 = .ok (.goto 4, 3) := by decide +kernel
theorem dX5_power_75 : decode cX5_power 75 = .ok (.iconst 1, 1) := by decide +kernel
theorem dX5_power_76 : decode cX5_power 76 = .ok (.invokevirtual 154, 3) := by decide +kernel
theorem dX5_power_79 : decode cX5_power 79 = .ok (.return_, 1) := by decide +kernel
theorem dX5_multiplyOften_0 : decode cX5_multiplyOften 0 = .ok (.aload_n 3, 1) := by decide +kernel
theorem dX5_multiplyOften_1 : decode cX5_multiplyOften 1 = .ok (.lconst 1, 1) := by decide +kernel
theorem dX5_multiplyOften_2 : decode cX5_multiplyOften 2 = .ok (.invokevirtual 90, 3) := by decide +kernel
theorem dX5_multiplyOften_5 : decode cX5_multiplyOften 5 = .ok (.iconst 0, 1) := by decide +kernel
theorem dX5_multiplyOften_6 : decode cX5_multiplyOften 6 = .ok (.istore 4, 2) := by decide +kernel
theorem dX5_multiplyOften_8 : decode cX5_multiplyOften 8 = .ok (.iload 4, 2) := by decide +kernel
theorem dX5_multiplyOften_10 : decode cX5_multiplyOften 10 = .ok (.iload_n 2, 1) := by decide +kernel
theorem dX5_multiplyOften_11 : decode cX5_multiplyOften 11 = .ok (.if_icmp .ge 33, 3) := by decide +kernel
theorem dX5_multiplyOften_14 : decode cX5_multiplyOften 14 = .ok (.aload_n 3, 1) := by decide +kernel
theorem dX5_multiplyOften_15 : decode cX5_multiplyOften 15 = .ok (.invokevirtual 179, 3) := by decide +kernel
theorem dX5_multiplyOften_18 : decode cX5_multiplyOften 18 = .ok (.ifCond .eq 26, 3) := by decide +kernel
theorem dX5_multiplyOften_21 : decode cX5_multiplyOften 21 = .ok (.aload_n 0, 1) := by decide +kernel
theorem dX5_multiplyOften_22 : decode cX5_multiplyOften 22 = .ok (.getfield 42, 3) := by decide +kernel
theorem dX5_multiplyOften_25 : decode cX5_multiplyOften 25 = .ok (.aload_n 3, 1) := by decide +kernel
theorem dX5_multiplyOften_26 : decode cX5_multiplyOften 26 = .ok (.aload_n 1, 1) := by decide +kernel
theorem dX5_multiplyOften_27 : decode cX5_multiplyOften 27 = .ok (.invokevirtual 161, 3) := by decide +kernel
theorem dX5_multiplyOften_30 : decode cX5_multiplyOften 30 = .ok (.aload_n 3, 1) := by decide +kernel
theorem dX5_multiplyOften_31 : decode cX5_multiplyOften 31 = .ok (.aload_n 0, 1) := by decide +kernel
theorem dX5_multiplyOften_32 : decode cX5_multiplyOften 32 = .ok (.getfield 42, 3) := by decide +kernel
theorem dX5_multiplyOften_35 : decode cX5_multiplyOften 35 = .ok (.invokevirtual 70, 3) := by decide +kernel
theorem dX5_multiplyOften_38 : decode cX5_multiplyOften 38 = .ok (.iinc 4 1, 3) := by decide +kernel
theorem dX5_multiplyOften_41 : decode cX5_multiplyOften 41 = .ok (.goto (-33), 3) := by decide +kernel
theorem dX5_multiplyOften_44 : decode cX5_multiplyOften 44 = .ok (.return_, 1) := by decide +kernel
theorem dX5_factorial_0 : decode cX5_factorial 0 = .ok (.aload_n 1, 1) := by decide +kernel
theorem dX5_factorial_1 : decode cX5_factorial 1 = .ok (.getfield 141, 3) := by decide +kernel
theorem dX5_factorial_4 : decode cX5_factorial 4 = .ok (.getfield 74, 3) := by decide +kernel
theorem dX5_factorial_7 : decode cX5_factorial 7 = .ok (.iconst 1, 1) := by decide +kernel
theorem dX5_factorial_8 : decode cX5_factorial 8 = .ok (.if_icmp .le 8, 3) := by decide +kernel
theorem dX5_factorial_11 : decode cX5_factorial 11 = .ok (.bipush 100, 2) := by decide +kernel
theorem dX5_factorial_13 : decode cX5_factorial 13 = .ok (.goto 16, 3) := by decide +kernel
theorem dX5_factorial_16 : decode cX5_factorial 16 = .ok (.aload_n 1, 1) := by decide +kernel
theorem dX5_factorial_17 : decode cX5_factorial 17 = .ok (.getfield 141, 3) := by decide +kernel
theorem dX5_factorial_20 : decode cX5_factorial 20 = .ok (.iconst 0, 1) := by decide +kernel
theorem dX5_factorial_21 : decode cX5_factorial 21 = .ok (.invokevirtual 182, 3) := by decide +kernel
theorem dX5_factorial_24 : decode cX5_factorial 24 = .ok (.bipush 100, 2) := by decide +kernel
theorem dX5_factorial_26 : decode cX5_factorial 26 = .ok (.invokestatic 185, 3) := by decide +kernel
theorem dX5_factorial_29 : decode cX5_factorial 29 = .ok (.istore_n 3, 1) := by decide +kernel
theorem dX5_factorial_30 : decode cX5_factorial 30 = .ok (.aload_n 2, 1) := by decide +kernel
theorem dX5_factorial_31 : decode cX5_factorial 31 = .ok (.getfield 141, 3) := by decide +kernel
theorem dX5_factorial_34 : decode cX5_factorial 34 = .ok (.lconst 1, 1) := by decide +kernel
theorem dX5_factorial_35 : decode cX5_factorial 35 = .ok (.invokevirtual 90, 3) := by decide +kernel
theorem dX5_factorial_38 : decode cX5_factorial 38 = .ok (.iconst 2, 1) := by decide +kernel
theorem dX5_factorial_39 : decode cX5_factorial 39 = .ok (.istore 4, 2) := by decide +kernel
theorem dX5_factorial_41 : decode cX5_factorial 41 = .ok (.iload 4, 2) := by decide +kernel
theorem dX5_factorial_43 : decode cX5_factorial 43 = .ok (.iload_n 3, 1) := by decide +kernel
theorem dX5_factorial_44 : decode cX5_factorial 44 = .ok (.if_icmp .gt 29, 3) := by decide +kernel
theorem dX5_factorial_47 : decode cX5_factorial 47 = .ok (.aload_n 2, 1) := by decide +kernel
theorem dX5_factorial_48 : decode cX5_factorial 48 = .ok (.getfield 141, 3) := by decide +kernel
theorem dX5_factorial_51 : decode cX5_factorial 51 = .ok (.invokevirtual 179, 3) := by decide +kernel
theorem dX5_factorial_54 : decode cX5_factorial 54 = .ok (.ifCond .eq 19, 3) := by decide +kernel
theorem dX5_factorial_57 : decode cX5_factorial 57 = .ok (.aload_n 2, 1) := by decide +kernel
theorem dX5_factorial_58 : decode cX5_factorial 58 = .ok (.getfield 141, 3) := by decide +kernel
theorem dX5_factorial_61 : decode cX5_factorial 61 = .ok (.iload 4, 2) := by decide +kernel
theorem dX5_factorial_63 : decode cX5_factorial 63 = .ok (.iconst 0, 1) := by decide +kernel
theorem dX5_factorial_64 : decode cX5_factorial 64 = .ok (.invokevirtual 95, 3) := by decide +kernel
theorem dX5_factorial_67 : decode cX5_factorial 67 = .ok (.iinc 4 1, 3) := by decide +kernel
theorem dX5_factorial_70 : decode cX5_factorial 70 = .ok (.goto (-29), 3) := by decide +kernel
theorem dX5_factorial_73 : decode cX5_factorial 73 = .ok (.aload_n 2, 1) := by decide +kernel
theorem dX5_factorial_74 : decode cX5_factorial 74 = .ok (.getfield 144, 3) := by decide +kernel
theorem dX5_factorial_77 : decode cX5_factorial 77 = .ok (.lconst 1, 1) := by decide +kernel
theorem dX5_factorial_78 : decode cX5_factorial 78 = .ok (.invokevirtual 90, 3) := by decide +kernel
theorem dX5_factorial_81 : decode cX5_factorial 81 = .ok (.aload_n 2, 1) := by decide +kernel
theorem dX5_factorial_82 : decode cX5_factorial 82 = .ok (.iconst 1, 1) := by decide +kernel
theorem dX5_factorial_83 : decode cX5_factorial 83 = .ok (.putfield 165, 3) := by decide +kernel
theorem dX5_factorial_86 : decode cX5_factorial 86 = .ok (.return_, 1) := by decide +kernel
theorem dX5_round_0 : decode cX5_round 0 = .ok (.aload_n 0, 1) := by decide +kernel
theorem dX5_round_1 : decode cX5_round 1 = .ok (.aload_n 1, 1) := by decide +kernel
theorem dX5_round_2 : decode cX5_round 2 = .ok (.getfield 141, 3) := by decide +kernel
theorem dX5_round_5 : decode cX5_round 5 = .ok (.aload_n 1, 1) := by decide +kernel
theorem dX5_round_6 : decode cX5_round 6 = .ok (.getfield 144, 3) := by decide +kernel
theorem dX5_round_9 : decode cX5_round 9 = .ok (.aload_n 3, 1) := by decide +kernel
theorem dX5_round_10 : decode cX5_round 10 = .ok (.getfield 141, 3) := by decide +kernel
theorem dX5_round_13 : decode cX5_round 13 = .ok (.aload_n 0, 1) := by decide +kernel
theorem dX5_round_14 : decode cX5_round 14 = .ok (.getfield 21, 3) := by decide +kernel
theorem dX5_round_17 : decode cX5_round 17 = .ok (.invokevirtual 133, 3) := by decide +kernel
theorem dX5_round_20 : decode cX5_round 20 = .ok (.iload_n 2, 1) := by decide +kernel
theorem dX5_round_21 : decode cX5_round 21 = .ok (.bipush 14, 2) := by decide +kernel
theorem dX5_round_23 : decode cX5_round 23 = .ok (.if_icmp .ne 56, 3) := by decide +kernel
theorem dX5_round_26 : decode cX5_round 26 = .ok (.aload_n 0, 1) := by decide +kernel
theorem dX5_round_27 : decode cX5_round 27 = .ok (.getfield 21, 3) := by decide +kernel
theorem dX5_round_30 : decode cX5_round 30 = .ok (.iconst 2, 1) := by decide +kernel
theorem dX5_round_31 : decode cX5_round 31 = .ok (.iconst 0, 1) := by decide +kernel
theorem dX5_round_32 : decode cX5_round 32 = .ok (.invokevirtual 95, 3) := by decide +kernel
theorem dX5_round_35 : decode cX5_round 35 = .ok (.aload_n 0, 1) := by decide +kernel
theorem dX5_round_36 : decode cX5_round 36 = .ok (.getfield 21, 3) := by decide +kernel
theorem dX5_round_39 : decode cX5_round 39 = .ok (.aload_n 1, 1) := by decide +kernel
theorem dX5_round_40 : decode cX5_round 40 = .ok (.getfield 144, 3) := by decide +kernel
theorem dX5_round_43 : decode cX5_round 43 = .ok (.invokevirtual 78, 3) := by decide +kernel
theorem dX5_round_46 : decode cX5_round 46 = .ok (.istore 5, 2) := by decide +kernel
theorem dX5_round_48 : decode cX5_round 48 = .ok (.iload 5, 2) := by decide +kernel
theorem dX5_round_50 : decode cX5_round 50 = .ok (.ifCond .gt 19, 3) := by decide +kernel
theorem dX5_round_53 : decode cX5_round 53 = .ok (.iload 5, 2) := by decide +kernel
theorem dX5_round_55 : decode cX5_round 55 = .ok (.ifCond .ne 18, 3) := by decide +kernel
theorem dX5_round_58 : decode cX5_round 58 = .ok (.aload_n 3, 1) := by decide +kernel
theorem dX5_round_59 : decode cX5_round 59 = .ok (.getfield 141, 3) := by decide +kernel
theorem dX5_round_62 : decode cX5_round 62 = .ok (.iconst 2, 1) := by decide +kernel
theorem dX5_round_63 : decode cX5_round 63 = .ok (.invokevirtual 188, 3) := by decide +kernel
theorem dX5_round_66 : decode cX5_round 66 = .ok (.ifCond .ne 7, 3) := by decide +kernel
theorem dX5_round_69 : decode cX5_round 69 = .ok (.iconst 1, 1) := by decide +kernel
theorem dX5_round_70 : decode cX5_round 70 = .ok (.goto 4, 3) := by decide +kernel
theorem dX5_round_73 : decode cX5_round 73 = .ok (.iconst 0, 1) := by decide +kernel
theorem dX5_round_74 : decode cX5_round 74 = .ok (.istore 4, 2) := by decide +kernel
theorem dX5_round_76 : decode cX5_round 76 = .ok (.goto 46, 3) := by decide +kernel
theorem dX5_round_79 : decode cX5_round 79 = .ok (.aload_n 0, 1) := by decide +kernel
theorem dX5_round_80 : decode cX5_round 80 = .ok (.getfield 21, 3) := by decide +kernel
theorem dX5_round_83 : decode cX5_round 83 = .ok (.invokevirtual 130, 3) := by decide +kernel
theorem dX5_round_86 : decode cX5_round 86 = .ok (.ifCond .ne 33, 3) := by decide +kernel
theorem dX5_round_89 : decode cX5_round 89 = .ok (.aload_n 1, 1) := by decide +kernel
theorem dX5_round_90 : decode cX5_round 90 = .ok (.getfield 165, 3) := by decide +kernel
theorem dX5_round_93 : decode cX5_round 93 = .ok (.ifCond .ge 7, 3) := by decide +kernel
theorem dX5_round_96 : decode cX5_round 96 = .ok (.iconst 1, 1) := by decide +kernel
theorem dX5_round_97 : decode cX5_round 97 = .ok (.goto 4, 3) := by decide +kernel
theorem dX5_round_100 : decode cX5_round 100 = .ok (.iconst 0, 1) := by decide +kernel
theorem dX5_round_101 : decode cX5_round 101 = .ok (.iload_n 2, 1) := by decide +kernel
theorem dX5_round_102 : decode cX5_round 102 = .ok (.bipush 12, 2) := by decide +kernel
theorem dX5_round_104 : decode cX5_round 104 = .ok (.if_icmp .ne 7, 3) := by decide +kernel
theorem dX5_round_107 : decode cX5_round 107 = .ok (.iconst 1, 1) := by decide +kernel
theorem dX5_round_108 : decode cX5_round 108 = .ok (.goto 4, 3) := by decide +kernel
theorem dX5_round_111 : decode cX5_round 111 = .ok (.iconst 0, 1) := by decide +kernel
theorem dX5_round_112 : decode cX5_round 112 = .ok (.if_icmp .ne 7, 3) := by decide +kernel
theorem dX5_round_115 : decode cX5_round 115 = .ok (.iconst 1, 1) := by decide +kernel
theorem dX5_round_116 : decode cX5_round 116 = .ok (.goto 4, 3) := by decide +kernel
theorem dX5_round_119 : decode cX5_round 119 = .ok (.iconst 0, 1) := by decide +kernel
theorem dX5_round_120 : decode cX5_round 120 = .ok (.istore 4, 2) := by decide +kernel
theorem dX5_round_122 : decode cX5_round 122 = .ok (.iload 4, 2) := by decide +kernel
theorem dX5_round_124 : decode cX5_round 124 = .ok (.ifCond .eq 12, 3) := by decide +kernel
theorem dX5_round_127 : decode cX5_round 127 = .ok (.aload_n 3, 1) := by decide +kernel
theorem dX5_round_128 : decode cX5_round 128 = .ok (.getfield 141, 3) := by decide +kernel
theorem dX5_round_131 : decode cX5_round 131 = .ok (.iconst 1, 1) := by decide +kernel
theorem dX5_round_132 : decode cX5_round 132 = .ok (.iconst 1, 1) := by decide +kernel
theorem dX5_round_133 : decode cX5_round 133 = .ok (.invokevirtual 95, 3) := by decide +kernel
theorem dX5_round_136 : decode cX5_round 136 = .ok (.aload_n 3, 1) := by decide +kernel
theorem dX5_round_137 : decode cX5_round 137 = .ok (.getfield 144, 3) := by decide +kernel
theorem dX5_round_140 : decode cX5_round 140 = .ok (.lconst 1, 1) := by decide +kernel
theorem dX5_round_141 : decode cX5_round 141 = .ok (.invokevirtual 90, 3) := by decide +kernel
theorem dX5_round_144 : decode cX5_round 144 = .ok (.aload_n 3, 1) := by decide +kernel
theorem dX5_round_145 : decode cX5_round 145 = .ok (.aload_n 1, 1) := by decide +kernel
theorem dX5_round_146 : decode cX5_round 146 = .ok (.getfield 165, 3) := by decide +kernel
theorem dX5_round_149 : decode cX5_round 149 = .ok (.invokevirtual 154, 3) := by decide +kernel
theorem dX5_round_152 : decode cX5_round 152 = .ok (.return_, 1) := by decide +kernel
theorem dX5_commonDivisor_0 : decode cX5_commonDivisor 0 = .ok (.aload_n 0, 1) := by decide +kernel
theorem dX5_commonDivisor_1 : decode cX5_commonDivisor 1 = .ok (.aload_n 1, 1) := by decide +kernel
theorem dX5_commonDivisor_2 : decode cX5_commonDivisor 2 = .ok (.getfield 141, 3) := by decide +kernel
theorem dX5_commonDivisor_5 : decode cX5_commonDivisor 5 = .ok (.aload_n 2, 1) := by decide +kernel
theorem dX5_commonDivisor_6 : decode cX5_commonDivisor 6 = .ok (.getfield 141, 3) := by decide +kernel
theorem dX5_commonDivisor_9 : decode cX5_commonDivisor 9 = .ok (.aload_n 3, 1) := by decide +kernel
theorem dX5_commonDivisor_10 : decode cX5_commonDivisor 10 = .ok (.getfield 141, 3) := by decide +kernel
theorem dX5_commonDivisor_13 : decode cX5_commonDivisor 13 = .ok (.invokevirtual 147, 3) := by decide +kernel
theorem dX5_commonDivisor_16 : decode cX5_commonDivisor 16 = .ok (.aload_n 3, 1) := by decide +kernel
theorem dX5_commonDivisor_17 : decode cX5_commonDivisor 17 = .ok (.getfield 144, 3) := by decide +kernel
theorem dX5_commonDivisor_20 : decode cX5_commonDivisor 20 = .ok (.lconst 1, 1) := by decide +kernel
theorem dX5_commonDivisor_21 : decode cX5_commonDivisor 21 = .ok (.invokevirtual 90, 3) := by decide +kernel
theorem dX5_commonDivisor_24 : decode cX5_commonDivisor 24 = .ok (.aload_n 3, 1) := by decide +kernel
theorem dX5_commonDivisor_25 : decode cX5_commonDivisor 25 = .ok (.iconst 1, 1) := by decide +kernel
theorem dX5_commonDivisor_26 : decode cX5_commonDivisor 26 = .ok (.invokevirtual 154, 3) := by decide +kernel
theorem dX5_commonDivisor_29 : decode cX5_commonDivisor 29 = .ok (.return_, 1) := by decide +kernel
theorem dX5_commonMultiple_0 : decode cX5_commonMultiple 0 = .ok (.aload_n 0, 1) := by decide +kernel
theorem dX5_commonMultiple_1 : decode cX5_commonMultiple 1 = .ok (.aload_n 1, 1) := by decide +kernel
theorem dX5_commonMultiple_2 : decode cX5_commonMultiple 2 = .ok (.getfield 141, 3) := by decide +kernel
theorem dX5_commonMultiple_5 : decode cX5_commonMultiple 5 = .ok (.aload_n 2, 1) := by decide +kernel
theorem dX5_commonMultiple_6 : decode cX5_commonMultiple 6 = .ok (.getfield 141, 3) := by decide +kernel
theorem dX5_commonMultiple_9 : decode cX5_commonMultiple 9 = .ok (.aload_n 0, 1) := by decide +kernel
theorem dX5_commonMultiple_10 : decode cX5_commonMultiple 10 = .ok (.getfield 30, 3) := by decide +kernel
theorem dX5_commonMultiple_13 : decode cX5_commonMultiple 13 = .ok (.invokevirtual 147, 3) := by decide +kernel
theorem dX5_commonMultiple_16 : decode cX5_commonMultiple 16 = .ok (.aload_n 0, 1) := by decide +kernel
theorem dX5_commonMultiple_17 : decode cX5_commonMultiple 17 = .ok (.aload_n 1, 1) := by decide +kernel
theorem dX5_commonMultiple_18 : decode cX5_commonMultiple 18 = .ok (.getfield 141, 3) := by decide +kernel
theorem dX5_commonMultiple_21 : decode cX5_commonMultiple 21 = .ok (.aload_n 0, 1) := by decide +kernel
theorem dX5_commonMultiple_22 : decode cX5_commonMultiple 22 = .ok (.getfield 30, 3) := by decide +kernel
theorem dX5_commonMultiple_25 : decode cX5_commonMultiple 25 = .ok (.aload_n 0, 1) := by decide +kernel
theorem dX5_commonMultiple_26 : decode cX5_commonMultiple 26 = .ok (.getfield 36, 3) := by decide +kernel
theorem dX5_commonMultiple_29 : decode cX5_commonMultiple 29 = .ok (.aload_n 0, 1) := by decide +kernel
theorem dX5_commonMultiple_30 : decode cX5_commonMultiple 30 = .ok (.getfield 21, 3) := by decide +kernel
theorem dX5_commonMultiple_33 : decode cX5_commonMultiple 33 = .ok (.invokevirtual 133, 3) := by decide +kernel
theorem dX5_commonMultiple_36 : decode cX5_commonMultiple 36 = .ok (.aload_n 3, 1) := by decide +kernel
theorem dX5_commonMultiple_37 : decode cX5_commonMultiple 37 = .ok (.getfield 141, 3) := by decide +kernel
theorem dX5_commonMultiple_40 : decode cX5_commonMultiple 40 = .ok (.aload_n 0, 1) := by decide +kernel
theorem dX5_commonMultiple_41 : decode cX5_commonMultiple 41 = .ok (.getfield 36, 3) := by decide +kernel
theorem dX5_commonMultiple_44 : decode cX5_commonMultiple 44 = .ok (.aload_n 2, 1) := by decide +kernel
theorem dX5_commonMultiple_45 : decode cX5_commonMultiple 45 = .ok (.getfield 141, 3) := by decide +kernel
theorem dX5_commonMultiple_48 : decode cX5_commonMultiple 48 = .ok (.invokevirtual 161, 3) := by decide +kernel
theorem dX5_commonMultiple_51 : decode cX5_commonMultiple 51 = .ok (.aload_n 3, 1) := by decide +kernel
theorem dX5_commonMultiple_52 : decode cX5_commonMultiple 52 = .ok (.getfield 144, 3) := by decide +kernel
theorem dX5_commonMultiple_55 : decode cX5_commonMultiple 55 = .ok (.lconst 1, 1) := by decide +kernel
theorem dX5_commonMultiple_56 : decode cX5_commonMultiple 56 = .ok (.invokevirtual 90, 3) := by decide +kernel
theorem dX5_commonMultiple_59 : decode cX5_commonMultiple 59 = .ok (.aload_n 3, 1) := by decide +kernel
theorem dX5_commonMultiple_60 : decode cX5_commonMultiple 60 = .ok (.iconst 1, 1) := by decide +kernel
theorem dX5_commonMultiple_61 : decode cX5_commonMultiple 61 = .ok (.invokevirtual 154, 3) := by decide +kernel
theorem dX5_commonMultiple_64 : decode cX5_commonMultiple 64 = .ok (.return_, 1) := by decide +kernel
theorem dX5_order_0 : decode cX5_order 0 = .ok (.aload_n 1, 1) := by decide +kernel
theorem dX5_order_1 : decode cX5_order 1 = .ok (.getfield 165, 3) := by decide +kernel
theorem dX5_order_4 : decode cX5_order 4 = .ok (.aload_n 2, 1) := by decide +kernel
theorem dX5_order_5 : decode cX5_order 5 = .ok (.getfield 165, 3) := by decide +kernel
theorem dX5_order_8 : decode cX5_order 8 = .ok (.if_icmp .eq 20, 3) := by decide +kernel
theorem dX5_order_11 : decode cX5_order 11 = .ok (.aload_n 1, 1) := by decide +kernel
theorem dX5_order_12 : decode cX5_order 12 = .ok (.getfield 165, 3) := by decide +kernel
theorem dX5_order_15 : decode cX5_order 15 = .ok (.aload_n 2, 1) := by decide +kernel
theorem dX5_order_16 : decode cX5_order 16 = .ok (.getfield 165, 3) := by decide +kernel
theorem dX5_order_19 : decode cX5_order 19 = .ok (.if_icmp .ge 7, 3) := by decide +kernel
theorem dX5_order_22 : decode cX5_order 22 = .ok (.iconst (-1), 1) := by decide +kernel
theorem dX5_order_23 : decode cX5_order 23 = .ok (.goto 4, 3) := by decide +kernel
theorem dX5_order_26 : decode cX5_order 26 = .ok (.iconst 1, 1) := by decide +kernel
theorem dX5_order_27 : decode cX5_order 27 = .ok (.ireturn, 1) := by decide +kernel
theorem dX5_order_28 : decode cX5_order 28 = .ok (.aload_n 0, 1) := by decide +kernel
theorem dX5_order_29 : decode cX5_order 29 = .ok (.getfield 42, 3) := by decide +kernel
theorem dX5_order_32 : decode cX5_order 32 = .ok (.aload_n 1, 1) := by decide +kernel
theorem dX5_order_33 : decode cX5_order 33 = .ok (.getfield 141, 3) := by decide +kernel
theorem dX5_order_36 : decode cX5_order 36 = .ok (.aload_n 2, 1) := by decide +kernel
theorem dX5_order_37 : decode cX5_order 37 = .ok (.getfield 144, 3) := by decide +kernel
theorem dX5_order_40 : decode cX5_order 40 = .ok (.invokevirtual 161, 3) := by decide +kernel
theorem dX5_order_43 : decode cX5_order 43 = .ok (.aload_n 0, 1) := by decide +kernel
theorem dX5_order_44 : decode cX5_order 44 = .ok (.getfield 45, 3) := by decide +kernel
theorem dX5_order_47 : decode cX5_order 47 = .ok (.aload_n 2, 1) := by decide +kernel
theorem dX5_order_48 : decode cX5_order 48 = .ok (.getfield 141, 3) := by decide +kernel
theorem dX5_order_51 : decode cX5_order 51 = .ok (.aload_n 1, 1) := by decide +kernel
theorem dX5_order_52 : decode cX5_order 52 = .ok (.getfield 144, 3) := by decide +kernel
theorem dX5_order_55 : decode cX5_order 55 = .ok (.invokevirtual 161, 3) := by decide +kernel
theorem dX5_order_58 : decode cX5_order 58 = .ok (.aload_n 0, 1) := by decide +kernel
theorem dX5_order_59 : decode cX5_order 59 = .ok (.getfield 42, 3) := by decide +kernel
theorem dX5_order_62 : decode cX5_order 62 = .ok (.aload_n 0, 1) := by decide +kernel
theorem dX5_order_63 : decode cX5_order 63 = .ok (.getfield 45, 3) := by decide +kernel
theorem dX5_order_66 : decode cX5_order 66 = .ok (.invokevirtual 78, 3) := by decide +kernel
theorem dX5_order_69 : decode cX5_order 69 = .ok (.aload_n 1, 1) := by decide +kernel
theorem dX5_order_70 : decode cX5_order 70 = .ok (.getfield 165, 3) := by decide +kernel
theorem dX5_order_73 : decode cX5_order 73 = .ok (.imul, 1) := by decide +kernel
theorem dX5_order_74 : decode cX5_order 74 = .ok (.ireturn, 1) := by decide +kernel
theorem dX5_countBelow_0 : decode cX5_countBelow 0 = .ok (.iconst 0, 1) := by decide +kernel
theorem dX5_countBelow_1 : decode cX5_countBelow 1 = .ok (.istore_n 3, 1) := by decide +kernel
theorem dX5_countBelow_2 : decode cX5_countBelow 2 = .ok (.iload_n 3, 1) := by decide +kernel
theorem dX5_countBelow_3 : decode cX5_countBelow 3 = .ok (.aload_n 1, 1) := by decide +kernel
theorem dX5_countBelow_4 : decode cX5_countBelow 4 = .ok (.getfield 192, 3) := by decide +kernel
theorem dX5_countBelow_7 : decode cX5_countBelow 7 = .ok (.arraylength, 1) := by decide +kernel
theorem dX5_countBelow_8 : decode cX5_countBelow 8 = .ok (.if_icmp .ge 23, 3) := by decide +kernel
theorem dX5_countBelow_11 : decode cX5_countBelow 11 = .ok (.aload_n 0, 1) := by decide +kernel
theorem dX5_countBelow_12 : decode cX5_countBelow 12 = .ok (.aload_n 1, 1) := by decide +kernel
theorem dX5_countBelow_13 : decode cX5_countBelow 13 = .ok (.getfield 192, 3) := by decide +kernel
theorem dX5_countBelow_16 : decode cX5_countBelow 16 = .ok (.iload_n 3, 1) := by decide +kernel
theorem dX5_countBelow_17 : decode cX5_countBelow 17 = .ok (.aaload, 1) := by decide +kernel
theorem dX5_countBelow_18 : decode cX5_countBelow 18 = .ok (.aload_n 2, 1) := by decide +kernel
theorem dX5_countBelow_19 : decode cX5_countBelow 19 = .ok (.invokevirtual 198, 3) := by decide +kernel
theorem dX5_countBelow_22 : decode cX5_countBelow 22 = .ok (.ifCond .ge 9, 3) := by decide +kernel
theorem dX5_countBelow_25 : decode cX5_countBelow 25 = .ok (.iinc 3 1, 3) := by decide +kernel
theorem dX5_countBelow_28 : decode cX5_countBelow 28 = .ok (.goto (-26), 3) := by decide +kernel
theorem dX5_countBelow_31 : decode cX5_countBelow 31 = .ok (.iload_n 3, 1) := by decide +kernel
theorem dX5_countBelow_32 : decode cX5_countBelow 32 = .ok (.ireturn, 1) := by decide +kernel
theorem dX5_totalOf_0 : decode cX5_totalOf 0 = .ok (.aload_n 0, 1) := by decide +kernel
theorem dX5_totalOf_1 : decode cX5_totalOf 1 = .ok (.getfield 61, 3) := by decide +kernel
theorem dX5_totalOf_4 : decode cX5_totalOf 4 = .ok (.astore_n 3, 1) := by decide +kernel
theorem dX5_totalOf_5 : decode cX5_totalOf 5 = .ok (.aload_n 0, 1) := by decide +kernel
theorem dX5_totalOf_6 : decode cX5_totalOf 6 = .ok (.getfield 64, 3) := by decide +kernel
theorem dX5_totalOf_9 : decode cX5_totalOf 9 = .ok (.astore 4, 2) := by decide +kernel
theorem dX5_totalOf_11 : decode cX5_totalOf 11 = .ok (.aload_n 3, 1) := by decide +kernel
theorem dX5_totalOf_12 : decode cX5_totalOf 12 = .ok (.getfield 141, 3) := by decide +kernel
theorem dX5_totalOf_15 : decode cX5_totalOf 15 = .ok (.iload_n 2, 1) := by decide +kernel
theorem dX5_totalOf_16 : decode cX5_totalOf 16 = .ok (.ifCond .eq 7, 3) := by decide +kernel
theorem dX5_totalOf_19 : decode cX5_totalOf 19 = .ok (.lconst 1, 1) := by decide +kernel
theorem dX5_totalOf_20 : decode cX5_totalOf 20 = .ok (.goto 4, 3) := by decide +kernel
theorem dX5_totalOf_23 : decode cX5_totalOf 23 = .ok (.lconst 0, 1) := by decide +kernel
theorem dX5_totalOf_24 : decode cX5_totalOf 24 = .ok (.invokevirtual 90, 3) := by decide +kernel
theorem dX5_totalOf_27 : decode cX5_totalOf 27 = .ok (.aload_n 3, 1) := by decide +kernel
theorem dX5_totalOf_28 : decode cX5_totalOf 28 = .ok (.getfield 144, 3) := by decide +kernel
theorem dX5_totalOf_31 : decode cX5_totalOf 31 = .ok (.lconst 1, 1) := by decide +kernel
theorem dX5_totalOf_32 : decode cX5_totalOf 32 = .ok (.invokevirtual 90, 3) := by decide +kernel
theorem dX5_totalOf_35 : decode cX5_totalOf 35 = .ok (.aload_n 3, 1) := by decide +kernel
theorem dX5_totalOf_36 : decode cX5_totalOf 36 = .ok (.iconst 1, 1) := by decide +kernel
theorem dX5_totalOf_37 : decode cX5_totalOf 37 = .ok (.invokevirtual 154, 3) := by decide +kernel
theorem dX5_totalOf_40 : decode cX5_totalOf 40 = .ok (.iconst 0, 1) := by decide +kernel
theorem dX5_totalOf_41 : decode cX5_totalOf 41 = .ok (.istore 5, 2) := by decide +kernel
theorem dX5_totalOf_43 : decode cX5_totalOf 43 = .ok (.iload 5, 2) := by decide +kernel
theorem dX5_totalOf_45 : decode cX5_totalOf 45 = .ok (.aload_n 1, 1) := by decide +kernel
theorem dX5_totalOf_46 : decode cX5_totalOf 46 = .ok (.arraylength, 1) := by decide +kernel
theorem dX5_totalOf_47 : decode cX5_totalOf 47 = .ok (.if_icmp .ge 49, 3) := by decide +kernel
theorem dX5_totalOf_50 : decode cX5_totalOf 50 = .ok (.iload_n 2, 1) := by decide +kernel
theorem dX5_totalOf_51 : decode cX5_totalOf 51 = .ok (.ifCond .eq 17, 3) := by decide +kernel
theorem dX5_totalOf_54 : decode cX5_totalOf 54 = .ok (.aload_n 0, 1) := by decide +kernel
theorem dX5_totalOf_55 : decode cX5_totalOf 55 = .ok (.aload_n 3, 1) := by decide +kernel
theorem dX5_totalOf_56 : decode cX5_totalOf 56 = .ok (.aload_n 1, 1) := by decide +kernel
theorem dX5_totalOf_57 : decode cX5_totalOf 57 = .ok (.iload 5, 2) := by decide +kernel
theorem dX5_totalOf_59 : decode cX5_totalOf 59 = .ok (.aaload, 1) := by decide +kernel
theorem dX5_totalOf_60 : decode cX5_totalOf 60 = .ok (.aload 4, 2) := by decide +kernel
theorem dX5_totalOf_62 : decode cX5_totalOf 62 = .ok (.invokevirtual 202, 3) := by decide +kernel
theorem dX5_totalOf_65 : decode cX5_totalOf 65 = .ok (.goto 15, 3) := by decide +kernel
theorem dX5_totalOf_68 : decode cX5_totalOf 68 = .ok (.aload_n 0, 1) := by decide +kernel
theorem dX5_totalOf_69 : decode cX5_totalOf 69 = .ok (.aload_n 3, 1) := by decide +kernel
theorem dX5_totalOf_70 : decode cX5_totalOf 70 = .ok (.aload_n 1, 1) := by decide +kernel
theorem dX5_totalOf_71 : decode cX5_totalOf 71 = .ok (.iload 5, 2) := by decide +kernel
theorem dX5_totalOf_73 : decode cX5_totalOf 73 = .ok (.aaload, 1) := by decide +kernel
theorem dX5_totalOf_74 : decode cX5_totalOf 74 = .ok (.iconst 0, 1) := by decide +kernel
theorem dX5_totalOf_75 : decode cX5_totalOf 75 = .ok (.aload 4, 2) := by decide +kernel
theorem dX5_totalOf_77 : decode cX5_totalOf 77 = .ok (.invokevirtual 206, 3) := by decide +kernel
theorem dX5_totalOf_80 : decode cX5_totalOf 80 = .ok (.aload_n 3, 1) := by decide +kernel
theorem dX5_totalOf_81 : decode cX5_totalOf 81 = .ok (.astore 6, 2) := by decide +kernel
theorem dX5_totalOf_83 : decode cX5_totalOf 83 = .ok (.aload 4, 2) := by decide +kernel
theorem dX5_totalOf_85 : decode cX5_totalOf 85 = .ok (.astore_n 3, 1) := by decide +kernel
theorem dX5_totalOf_86 : decode cX5_totalOf 86 = .ok (.aload 6, 2) := by decide +kernel
theorem dX5_totalOf_88 : decode cX5_totalOf 88 = .ok (.astore 4, 2) := by decide +kernel
theorem dX5_totalOf_90 : decode cX5_totalOf 90 = .ok (.iinc 5 1, 3) := by decide +kernel
theorem dX5_totalOf_93 : decode cX5_totalOf 93 = .ok (.goto (-50), 3) := by decide +kernel
theorem dX5_totalOf_96 : decode cX5_totalOf 96 = .ok (.aload_n 3, 1) := by decide +kernel
theorem dX5_totalOf_97 : decode cX5_totalOf 97 = .ok (.areturn, 1) := by decide +kernel
theorem dX5_meanOf_0 : decode cX5_meanOf 0 = .ok (.aload_n 0, 1) := by decide +kernel
theorem dX5_meanOf_1 : decode cX5_meanOf 1 = .ok (.getfield 67, 3) := by decide +kernel
theorem dX5_meanOf_4 : decode cX5_meanOf 4 = .ok (.aload_n 0, 1) := by decide +kernel
theorem dX5_meanOf_5 : decode cX5_meanOf 5 = .ok (.aload_n 1, 1) := by decide +kernel
theorem dX5_meanOf_6 : decode cX5_meanOf 6 = .ok (.iconst 0, 1) := by decide +kernel
theorem dX5_meanOf_7 : decode cX5_meanOf 7 = .ok (.invokevirtual 210, 3) := by decide +kernel
theorem dX5_meanOf_10 : decode cX5_meanOf 10 = .ok (.invokevirtual 214, 3) := by decide +kernel
theorem dX5_meanOf_13 : decode cX5_meanOf 13 = .ok (.aload_n 0, 1) := by decide +kernel
theorem dX5_meanOf_14 : decode cX5_meanOf 14 = .ok (.getfield 57, 3) := by decide +kernel
theorem dX5_meanOf_17 : decode cX5_meanOf 17 = .ok (.getfield 141, 3) := by decide +kernel
theorem dX5_meanOf_20 : decode cX5_meanOf 20 = .ok (.lconst 1, 1) := by decide +kernel
theorem dX5_meanOf_21 : decode cX5_meanOf 21 = .ok (.invokevirtual 90, 3) := by decide +kernel
theorem dX5_meanOf_24 : decode cX5_meanOf 24 = .ok (.aload_n 0, 1) := by decide +kernel
theorem dX5_meanOf_25 : decode cX5_meanOf 25 = .ok (.getfield 57, 3) := by decide +kernel
theorem dX5_meanOf_28 : decode cX5_meanOf 28 = .ok (.getfield 144, 3) := by decide +kernel
theorem dX5_meanOf_31 : decode cX5_meanOf 31 = .ok (.aload_n 1, 1) := by decide +kernel
theorem dX5_meanOf_32 : decode cX5_meanOf 32 = .ok (.arraylength, 1) := by decide +kernel
theorem dX5_meanOf_33 : decode cX5_meanOf 33 = .ok (.iconst 1, 1) := by decide +kernel
theorem dX5_meanOf_34 : decode cX5_meanOf 34 = .ok (.invokestatic 217, 3) := by decide +kernel
theorem dX5_meanOf_37 : decode cX5_meanOf 37 = .ok (.i2l, 1) := by decide +kernel
theorem dX5_meanOf_38 : decode cX5_meanOf 38 = .ok (.invokevirtual 90, 3) := by decide +kernel
theorem dX5_meanOf_41 : decode cX5_meanOf 41 = .ok (.aload_n 0, 1) := by decide +kernel
theorem dX5_meanOf_42 : decode cX5_meanOf 42 = .ok (.getfield 57, 3) := by decide +kernel
theorem dX5_meanOf_45 : decode cX5_meanOf 45 = .ok (.iconst 1, 1) := by decide +kernel
theorem dX5_meanOf_46 : decode cX5_meanOf 46 = .ok (.putfield 165, 3) := by decide +kernel
theorem dX5_meanOf_49 : decode cX5_meanOf 49 = .ok (.aload_n 0, 1) := by decide +kernel
theorem dX5_meanOf_50 : decode cX5_meanOf 50 = .ok (.aload_n 0, 1) := by decide +kernel
theorem dX5_meanOf_51 : decode cX5_meanOf 51 = .ok (.getfield 67, 3) := by decide +kernel
theorem dX5_meanOf_54 : decode cX5_meanOf 54 = .ok (.aload_n 0, 1) := by decide +kernel
theorem dX5_meanOf_55 : decode cX5_meanOf 55 = .ok (.getfield 57, 3) := by decide +kernel
theorem dX5_meanOf_58 : decode cX5_meanOf 58 = .ok (.aload_n 0, 1) := by decide +kernel
theorem dX5_meanOf_59 : decode cX5_meanOf 59 = .ok (.getfield 61, 3) := by decide +kernel
theorem dX5_meanOf_62 : decode cX5_meanOf 62 = .ok (.invokevirtual 202, 3) := by decide +kernel
theorem dX5_meanOf_65 : decode cX5_meanOf 65 = .ok (.aload_n 0, 1) := by decide +kernel
theorem dX5_meanOf_66 : decode cX5_meanOf 66 = .ok (.getfield 61, 3) := by decide +kernel
theorem dX5_meanOf_69 : decode cX5_meanOf 69 = .ok (.areturn, 1) := by decide +kernel
theorem dX5_isLawful_0 : decode cX5_isLawful 0 = .ok (.aload_n 0, 1) := by decide +kernel
theorem dX5_isLawful_1 : decode cX5_isLawful 1 = .ok (.aload_n 1, 1) := by decide +kernel
theorem dX5_isLawful_2 : decode cX5_isLawful 2 = .ok (.aload_n 2, 1) := by decide +kernel
theorem dX5_isLawful_3 : decode cX5_isLawful 3 = .ok (.iconst 0, 1) := by decide +kernel
theorem dX5_isLawful_4 : decode cX5_isLawful 4 = .ok (.aload_n 0, 1) := by decide +kernel
theorem dX5_isLawful_5 : decode cX5_isLawful 5 = .ok (.getfield 61, 3) := by decide +kernel
theorem dX5_isLawful_8 : decode cX5_isLawful 8 = .ok (.invokevirtual 206, 3) := by decide +kernel
theorem dX5_isLawful_11 : decode cX5_isLawful 11 = .ok (.aload_n 0, 1) := by decide +kernel
theorem dX5_isLawful_12 : decode cX5_isLawful 12 = .ok (.aload_n 0, 1) := by decide +kernel
theorem dX5_isLawful_13 : decode cX5_isLawful 13 = .ok (.getfield 61, 3) := by decide +kernel
theorem dX5_isLawful_16 : decode cX5_isLawful 16 = .ok (.aload_n 2, 1) := by decide +kernel
theorem dX5_isLawful_17 : decode cX5_isLawful 17 = .ok (.iconst 1, 1) := by decide +kernel
theorem dX5_isLawful_18 : decode cX5_isLawful 18 = .ok (.aload_n 0, 1) := by decide +kernel
theorem dX5_isLawful_19 : decode cX5_isLawful 19 = .ok (.getfield 64, 3) := by decide +kernel
theorem dX5_isLawful_22 : decode cX5_isLawful 22 = .ok (.invokevirtual 206, 3) := by decide +kernel
theorem dX5_isLawful_25 : decode cX5_isLawful 25 = .ok (.aload_n 0, 1) := by decide +kernel
theorem dX5_isLawful_26 : decode cX5_isLawful 26 = .ok (.getfield 64, 3) := by decide +kernel
theorem dX5_isLawful_29 : decode cX5_isLawful 29 = .ok (.aload_n 1, 1) := by decide +kernel
theorem dX5_isLawful_30 : decode cX5_isLawful 30 = .ok (.invokevirtual 220, 3) := by decide +kernel
theorem dX5_isLawful_33 : decode cX5_isLawful 33 = .ok (.ifCond .ne 5, 3) := by decide +kernel
theorem dX5_isLawful_36 : decode cX5_isLawful 36 = .ok (.iconst 0, 1) := by decide +kernel
theorem dX5_isLawful_37 : decode cX5_isLawful 37 = .ok (.ireturn, 1) := by decide +kernel
theorem dX5_isLawful_38 : decode cX5_isLawful 38 = .ok (.aload_n 2, 1) := by decide +kernel
theorem dX5_isLawful_39 : decode cX5_isLawful 39 = .ok (.getfield 165, 3) := by decide +kernel
theorem dX5_isLawful_42 : decode cX5_isLawful 42 = .ok (.ifCond .ne 5, 3) := by decide +kernel
theorem dX5_isLawful_45 : decode cX5_isLawful 45 = .ok (.iconst 1, 1) := by decide +kernel
theorem dX5_isLawful_46 : decode cX5_isLawful 46 = .ok (.ireturn, 1) := by decide +kernel
theorem dX5_isLawful_47 : decode cX5_isLawful 47 = .ok (.aload_n 0, 1) := by decide +kernel
theorem dX5_isLawful_48 : decode cX5_isLawful 48 = .ok (.aload_n 1, 1) := by decide +kernel
theorem dX5_isLawful_49 : decode cX5_isLawful 49 = .ok (.aload_n 2, 1) := by decide +kernel
theorem dX5_isLawful_50 : decode cX5_isLawful 50 = .ok (.aload_n 0, 1) := by decide +kernel
theorem dX5_isLawful_51 : decode cX5_isLawful 51 = .ok (.getfield 61, 3) := by decide +kernel
theorem dX5_isLawful_54 : decode cX5_isLawful 54 = .ok (.invokevirtual 202, 3) := by decide +kernel
theorem dX5_isLawful_57 : decode cX5_isLawful 57 = .ok (.aload_n 0, 1) := by decide +kernel
theorem dX5_isLawful_58 : decode cX5_isLawful 58 = .ok (.aload_n 0, 1) := by decide +kernel
theorem dX5_isLawful_59 : decode cX5_isLawful 59 = .ok (.getfield 61, 3) := by decide +kernel
theorem dX5_isLawful_62 : decode cX5_isLawful 62 = .ok (.aload_n 0, 1) := by decide +kernel
theorem dX5_isLawful_63 : decode cX5_isLawful 63 = .ok (.aload_n 2, 1) := by decide +kernel
theorem dX5_isLawful_64 : decode cX5_isLawful 64 = .ok (.invokevirtual 224, 3) := by decide +kernel
theorem dX5_isLawful_67 : decode cX5_isLawful 67 = .ok (.aload_n 0, 1) := by decide +kernel
theorem dX5_isLawful_68 : decode cX5_isLawful 68 = .ok (.getfield 64, 3) := by decide +kernel
theorem dX5_isLawful_71 : decode cX5_isLawful 71 = .ok (.invokevirtual 202, 3) := by decide +kernel
theorem dX5_isLawful_74 : decode cX5_isLawful 74 = .ok (.aload_n 0, 1) := by decide +kernel
theorem dX5_isLawful_75 : decode cX5_isLawful 75 = .ok (.getfield 64, 3) := by decide +kernel
theorem dX5_isLawful_78 : decode cX5_isLawful 78 = .ok (.aload_n 1, 1) := by decide +kernel
theorem dX5_isLawful_79 : decode cX5_isLawful 79 = .ok (.invokevirtual 220, 3) := by decide +kernel
theorem dX5_isLawful_82 : decode cX5_isLawful 82 = .ok (.ireturn, 1) := by decide +kernel
theorem dX5_lengthAhead_0 : decode cX5_lengthAhead 0 = .ok (.aload_n 0, 1) := by decide +kernel
theorem dX5_lengthAhead_1 : decode cX5_lengthAhead 1 = .ok (.getfield 48, 3) := by decide +kernel
theorem dX5_lengthAhead_4 : decode cX5_lengthAhead 4 = .ok (.aload_n 1, 1) := by decide +kernel
theorem dX5_lengthAhead_5 : decode cX5_lengthAhead 5 = .ok (.getfield 144, 3) := by decide +kernel
theorem dX5_lengthAhead_8 : decode cX5_lengthAhead 8 = .ok (.invokevirtual 70, 3) := by decide +kernel
theorem dX5_lengthAhead_11 : decode cX5_lengthAhead 11 = .ok (.iconst 0, 1) := by decide +kernel
theorem dX5_lengthAhead_12 : decode cX5_lengthAhead 12 = .ok (.istore_n 2, 1) := by decide +kernel
theorem dX5_lengthAhead_13 : decode cX5_lengthAhead 13 = .ok (.iload_n 2, 1) := by decide +kernel
theorem dX5_lengthAhead_14 : decode cX5_lengthAhead 14 = .ok (.sipush 1000, 3) := by decide +kernel
theorem dX5_lengthAhead_17 : decode cX5_lengthAhead 17 = .ok (.if_icmp .ge 29, 3) := by decide +kernel
