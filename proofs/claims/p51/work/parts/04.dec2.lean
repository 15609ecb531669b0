theorem dL_drawn_66 : decode cL_drawn 66 = .ok (.iload_n 2, 1) := by decide +kernel
theorem dL_drawn_67 : decode cL_drawn 67 = .ok (.aload_n 0, 1) := by decide +kernel
theorem dL_drawn_68 : decode cL_drawn 68 = .ok (.aload_n 0, 1) := by decide +kernel
theorem dL_drawn_69 : decode cL_drawn 69 = .ok (.getfield 16, 3) := by decide +kernel
theorem dL_drawn_72 : decode cL_drawn 72 = .ok (.iload_n 2, 1) := by decide +kernel
theorem dL_drawn_73 : decode cL_drawn 73 = .ok (.iaload, 1) := by decide +kernel
theorem dL_drawn_74 : decode cL_drawn 74 = .ok (.bipush 100, 2) := by decide +kernel
theorem dL_drawn_76 : decode cL_drawn 76 = .ok (.if_icmp .ne 10, 3) := by decide +kernel
theorem dL_drawn_79 : decode cL_drawn 79 = .ok (.aload_n 0, 1) := by decide +kernel
theorem dL_drawn_80 : decode cL_drawn 80 = .ok (.getfield 72, 3) := by decide +kernel
theorem dL_drawn_83 : decode cL_drawn 83 = .ok (.goto 5, 3) := by decide +kernel
theorem dL_drawn_86 : decode cL_drawn 86 = .ok (.bipush 10, 2) := by decide +kernel
theorem dL_drawn_88 : decode cL_drawn 88 = .ok (.invokevirtual 68, 3) := by decide +kernel
theorem dL_drawn_91 : decode cL_drawn 91 = .ok (.iastore, 1) := by decide +kernel
theorem dL_drawn_92 : decode cL_drawn 92 = .ok (.aload_n 0, 1) := by decide +kernel
theorem dL_drawn_93 : decode cL_drawn 93 = .ok (.getfield 23, 3) := by decide +kernel
theorem dL_drawn_96 : decode cL_drawn 96 = .ok (.iload_n 2, 1) := by decide +kernel
theorem dL_drawn_97 : decode cL_drawn 97 = .ok (.aload_n 0, 1) := by decide +kernel
theorem dL_drawn_98 : decode cL_drawn 98 = .ok (.iconst 4, 1) := by decide +kernel
theorem dL_drawn_99 : decode cL_drawn 99 = .ok (.invokevirtual 68, 3) := by decide +kernel
theorem dL_drawn_102 : decode cL_drawn 102 = .ok (.ifCond .ne 14, 3) := by decide +kernel
theorem dL_drawn_105 : decode cL_drawn 105 = .ok (.iconst 1, 1) := by decide +kernel
theorem dL_drawn_106 : decode cL_drawn 106 = .ok (.aload_n 0, 1) := by decide +kernel
theorem dL_drawn_107 : decode cL_drawn 107 = .ok (.bipush 9, 2) := by decide +kernel
theorem dL_drawn_109 : decode cL_drawn 109 = .ok (.invokevirtual 68, 3) := by decide +kernel
theorem dL_drawn_112 : decode cL_drawn 112 = .ok (.iadd, 1) := by decide +kernel
theorem dL_drawn_113 : decode cL_drawn 113 = .ok (.goto 4, 3) := by decide +kernel
theorem dL_drawn_116 : decode cL_drawn 116 = .ok (.iconst 0, 1) := by decide +kernel
theorem dL_drawn_117 : decode cL_drawn 117 = .ok (.iastore, 1) := by decide +kernel
theorem dL_drawn_118 : decode cL_drawn 118 = .ok (.iload_n 2, 1) := by decide +kernel
theorem dL_drawn_119 : decode cL_drawn 119 = .ok (.ireturn, 1) := by decide +kernel
theorem dL_drawn_120 : decode cL_drawn 120 = .ok (.aload_n 0, 1) := by decide +kernel
theorem dL_drawn_121 : decode cL_drawn 121 = .ok (.getfield 16, 3) := by decide +kernel
theorem dL_drawn_124 : decode cL_drawn 124 = .ok (.iload_n 2, 1) := by decide +kernel
theorem dL_drawn_125 : decode cL_drawn 125 = .ok (.iload_n 3, 1) := by decide +kernel
theorem dL_drawn_126 : decode cL_drawn 126 = .ok (.bipush 9, 2) := by decide +kernel
theorem dL_drawn_128 : decode cL_drawn 128 = .ok (.if_icmp .ge 13, 3) := by decide +kernel
theorem dL_drawn_131 : decode cL_drawn 131 = .ok (.iconst 1, 1) := by decide +kernel
theorem dL_drawn_132 : decode cL_drawn 132 = .ok (.aload_n 0, 1) := by decide +kernel
theorem dL_drawn_133 : decode cL_drawn 133 = .ok (.iconst 4, 1) := by decide +kernel
theorem dL_drawn_134 : decode cL_drawn 134 = .ok (.invokevirtual 68, 3) := by decide +kernel
theorem dL_drawn_137 : decode cL_drawn 137 = .ok (.iadd, 1) := by decide +kernel
theorem dL_drawn_138 : decode cL_drawn 138 = .ok (.goto 44, 3) := by decide +kernel
theorem dL_drawn_141 : decode cL_drawn 141 = .ok (.iload_n 3, 1) := by decide +kernel
theorem dL_drawn_142 : decode cL_drawn 142 = .ok (.bipush 9, 2) := by decide +kernel
theorem dL_drawn_144 : decode cL_drawn 144 = .ok (.if_icmp .ne 7, 3) := by decide +kernel
theorem dL_drawn_147 : decode cL_drawn 147 = .ok (.iconst 5, 1) := by decide +kernel
theorem dL_drawn_148 : decode cL_drawn 148 = .ok (.goto 34, 3) := by decide +kernel
theorem dL_drawn_151 : decode cL_drawn 151 = .ok (.iload_n 3, 1) := by decide +kernel
theorem dL_drawn_152 : decode cL_drawn 152 = .ok (.bipush 10, 2) := by decide +kernel
theorem dL_drawn_154 : decode cL_drawn 154 = .ok (.if_icmp .ne 8, 3) := by decide +kernel
theorem dL_drawn_157 : decode cL_drawn 157 = .ok (.bipush 6, 2) := by decide +kernel
theorem dL_drawn_159 : decode cL_drawn 159 = .ok (.goto 23, 3) := by decide +kernel
theorem dL_drawn_162 : decode cL_drawn 162 = .ok (.iload_n 3, 1) := by decide +kernel
theorem dL_drawn_163 : decode cL_drawn 163 = .ok (.bipush 11, 2) := by decide +kernel
theorem dL_drawn_165 : decode cL_drawn 165 = .ok (.if_icmp .ne 8, 3) := by decide +kernel
theorem dL_drawn_168 : decode cL_drawn 168 = .ok (.bipush 8, 2) := by decide +kernel
theorem dL_drawn_170 : decode cL_drawn 170 = .ok (.goto 12, 3) := by decide +kernel
theorem dL_drawn_173 : decode cL_drawn 173 = .ok (.bipush 10, 2) := by decide +kernel
theorem dL_drawn_175 : decode cL_drawn 175 = .ok (.aload_n 0, 1) := by decide +kernel
theorem dL_drawn_176 : decode cL_drawn 176 = .ok (.bipush 11, 2) := by decide +kernel
theorem dL_drawn_178 : decode cL_drawn 178 = .ok (.invokevirtual 68, 3) := by decide +kernel
theorem dL_drawn_181 : decode cL_drawn 181 = .ok (.iadd, 1) := by decide +kernel
theorem dL_drawn_182 : decode cL_drawn 182 = .ok (.iastore, 1) := by decide +kernel
theorem dL_drawn_183 : decode cL_drawn 183 = .ok (.aload_n 0, 1) := by decide +kernel
theorem dL_drawn_184 : decode cL_drawn 184 = .ok (.getfield 20, 3) := by decide +kernel
theorem dL_drawn_187 : decode cL_drawn 187 = .ok (.iload_n 2, 1) := by decide +kernel
theorem dL_drawn_188 : decode cL_drawn 188 = .ok (.aload_n 0, 1) := by decide +kernel
theorem dL_drawn_189 : decode cL_drawn 189 = .ok (.iload_n 1, 1) := by decide +kernel
theorem dL_drawn_190 : decode cL_drawn 190 = .ok (.iconst 1, 1) := by decide +kernel
theorem dL_drawn_191 : decode cL_drawn 191 = .ok (.isub, 1) := by decide +kernel
theorem dL_drawn_192 : decode cL_drawn 192 = .ok (.invokevirtual 75, 3) := by decide +kernel
theorem dL_drawn_195 : decode cL_drawn 195 = .ok (.iastore, 1) := by decide +kernel
theorem dL_drawn_196 : decode cL_drawn 196 = .ok (.aload_n 0, 1) := by decide +kernel
theorem dL_drawn_197 : decode cL_drawn 197 = .ok (.getfield 23, 3) := by decide +kernel
theorem dL_drawn_200 : decode cL_drawn 200 = .ok (.iload_n 2, 1) := by decide +kernel
theorem dL_drawn_201 : decode cL_drawn 201 = .ok (.aload_n 0, 1) := by decide +kernel
theorem dL_drawn_202 : decode cL_drawn 202 = .ok (.getfield 16, 3) := by decide +kernel
theorem dL_drawn_205 : decode cL_drawn 205 = .ok (.iload_n 2, 1) := by decide +kernel
theorem dL_drawn_206 : decode cL_drawn 206 = .ok (.iaload, 1) := by decide +kernel
theorem dL_drawn_207 : decode cL_drawn 207 = .ok (.invokestatic 78, 3) := by decide +kernel
theorem dL_drawn_210 : decode cL_drawn 210 = .ok (.ifCond .eq 28, 3) := by decide +kernel
theorem dL_drawn_213 : decode cL_drawn 213 = .ok (.aload_n 0, 1) := by decide +kernel
theorem dL_drawn_214 : decode cL_drawn 214 = .ok (.aload_n 0, 1) := by decide +kernel
theorem dL_drawn_215 : decode cL_drawn 215 = .ok (.getfield 16, 3) := by decide +kernel
theorem dL_drawn_218 : decode cL_drawn 218 = .ok (.iload_n 2, 1) := by decide +kernel
theorem dL_drawn_219 : decode cL_drawn 219 = .ok (.iaload, 1) := by decide +kernel
theorem dL_drawn_220 : decode cL_drawn 220 = .ok (.bipush 6, 2) := by decide +kernel
theorem dL_drawn_222 : decode cL_drawn 222 = .ok (.if_icmp .ne 7, 3) := by decide +kernel
theorem dL_drawn_225 : decode cL_drawn 225 = .ok (.iconst 0, 1) := by decide +kernel
theorem dL_drawn_226 : decode cL_drawn 226 = .ok (.goto 6, 3) := by decide +kernel
theorem dL_drawn_229 : decode cL_drawn 229 = .ok (.iload_n 1, 1) := by decide +kernel
theorem dL_drawn_230 : decode cL_drawn 230 = .ok (.iconst 1, 1) := by decide +kernel
theorem dL_drawn_231 : decode cL_drawn 231 = .ok (.isub, 1) := by decide +kernel
theorem dL_drawn_232 : decode cL_drawn 232 = .ok (.invokevirtual 75, 3) := by decide +kernel
theorem dL_drawn_235 : decode cL_drawn 235 = .ok (.goto 4, 3) := by decide +kernel
theorem dL_drawn_238 : decode cL_drawn 238 = .ok (.iconst (-1), 1) := by decide +kernel
theorem dL_drawn_239 : decode cL_drawn 239 = .ok (.iastore, 1) := by decide +kernel
theorem dL_drawn_240 : decode cL_drawn 240 = .ok (.iload_n 2, 1) := by decide +kernel
theorem dL_drawn_241 : decode cL_drawn 241 = .ok (.ireturn, 1) := by decide +kernel
theorem dL_hasTwo_0 : decode cL_hasTwo 0 = .ok (.iload_n 0, 1) := by decide +kernel
theorem dL_hasTwo_1 : decode cL_hasTwo 1 = .ok (.bipush 7, 2) := by decide +kernel
theorem dL_hasTwo_3 : decode cL_hasTwo 3 = .ok (.if_icmp .lt 27, 3) := by decide +kernel
theorem dL_hasTwo_6 : decode cL_hasTwo 6 = .ok (.iload_n 0, 1) := by decide +kernel
theorem dL_hasTwo_7 : decode cL_hasTwo 7 = .ok (.bipush 10, 2) := by decide +kernel
theorem dL_hasTwo_9 : decode cL_hasTwo 9 = .ok (.if_icmp .eq 21, 3) := by decide +kernel
theorem dL_hasTwo_12 : decode cL_hasTwo 12 = .ok (.iload_n 0, 1) := by decide +kernel
theorem dL_hasTwo_13 : decode cL_hasTwo 13 = .ok (.bipush 11, 2) := by decide +kernel
theorem dL_hasTwo_15 : decode cL_hasTwo 15 = .ok (.if_icmp .eq 15, 3) := by decide +kernel
theorem dL_hasTwo_18 : decode cL_hasTwo 18 = .ok (.iload_n 0, 1) := by decide +kernel
theorem dL_hasTwo_19 : decode cL_hasTwo 19 = .ok (.bipush 16, 2) := by decide +kernel
theorem dL_hasTwo_21 : decode cL_hasTwo 21 = .ok (.if_icmp .eq 9, 3) := by decide +kernel
theorem dL_hasTwo_24 : decode cL_hasTwo 24 = .ok (.iload_n 0, 1) := by decide +kernel
theorem dL_hasTwo_25 : decode cL_hasTwo 25 = .ok (.bipush 18, 2) := by decide +kernel
theorem dL_hasTwo_27 : decode cL_hasTwo 27 = .ok (.if_icmp .le 7, 3) := by decide +kernel
theorem dL_hasTwo_30 : decode cL_hasTwo 30 = .ok (.iconst 1, 1) := by decide +kernel
theorem dL_hasTwo_31 : decode cL_hasTwo 31 = .ok (.goto 4, 3) := by decide +kernel
theorem dL_hasTwo_34 : decode cL_hasTwo 34 = .ok (.iconst 0, 1) := by decide +kernel
theorem dL_hasTwo_35 : decode cL_hasTwo 35 = .ok (.ireturn, 1) := by decide +kernel
theorem dL_function_0 : decode cL_function 0 = .ok (.iload_n 0, 1) := by decide +kernel
theorem dL_function_1 : decode cL_function 1 = .ok (.tableswitch 85 10 19 #[55, 58, 61, 64, 67, 70, 73, 76, 79, 82], 55) := by decide +kernel
theorem dL_function_56 : decode cL_function 56 = .ok (.ldc 82, 2) := by decide +kernel
theorem dL_function_58 : decode cL_function 58 = .ok (.areturn, 1) := by decide +kernel
theorem dL_function_59 : decode cL_function 59 = .ok (.ldc 83, 2) := by decide +kernel
theorem dL_function_61 : decode cL_function 61 = .ok (.areturn, 1) := by decide +kernel
theorem dL_function_62 : decode cL_function 62 = .ok (.ldc 85, 2) := by decide +kernel
theorem dL_function_64 : decode cL_function 64 = .ok (.areturn, 1) := by decide +kernel
theorem dL_function_65 : decode cL_function 65 = .ok (.ldc 87, 2) := by decide +kernel
theorem dL_function_67 : decode cL_function 67 = .ok (.areturn, 1) := by decide +kernel
theorem dL_function_68 : decode cL_function 68 = .ok (.ldc 89, 2) := by decide +kernel
theorem dL_function_70 : decode cL_function 70 = .ok (.areturn, 1) := by decide +kernel
theorem dL_function_71 : decode cL_function 71 = .ok (.ldc 91, 2) := by decide +kernel
theorem dL_function_73 : decode cL_function 73 = .ok (.areturn, 1) := by decide +kernel
theorem dL_function_74 : decode cL_function 74 = .ok (.ldc 92, 2) := by decide +kernel
theorem dL_function_76 : decode cL_function 76 = .ok (.areturn, 1) := by decide +kernel
theorem dL_function_77 : decode cL_function 77 = .ok (.ldc 94, 2) := by decide +kernel
theorem dL_function_79 : decode cL_function 79 = .ok (.areturn, 1) := by decide +kernel
theorem dL_function_80 : decode cL_function 80 = .ok (.ldc 96, 2) := by decide +kernel
theorem dL_function_82 : decode cL_function 82 = .ok (.areturn, 1) := by decide +kernel
theorem dL_function_83 : decode cL_function 83 = .ok (.ldc 98, 2) := by decide +kernel
theorem dL_function_85 : decode cL_function 85 = .ok (.areturn, 1) := by decide +kernel
theorem dL_function_86 : decode cL_function 86 = .ok (.ldc 100, 2) := by decide +kernel
theorem dL_function_88 : decode cL_function 88 = .ok (.areturn, 1) := by decide +kernel
theorem dL_tells_0 : decode cL_tells 0 = .ok (.aload_n 0, 1) := by decide +kernel
theorem dL_tells_1 : decode cL_tells 1 = .ok (.getfield 16, 3) := by decide +kernel
theorem dL_tells_4 : decode cL_tells 4 = .ok (.iload_n 2, 1) := by decide +kernel
theorem dL_tells_5 : decode cL_tells 5 = .ok (.iaload, 1) := by decide +kernel
theorem dL_tells_6 : decode cL_tells 6 = .ok (.istore_n 3, 1) := by decide +kernel
theorem dL_tells_7 : decode cL_tells 7 = .ok (.iload_n 3, 1) := by decide +kernel
theorem dL_tells_8 : decode cL_tells 8 = .ok (.ifCond .ne 52, 3) := by decide +kernel
theorem dL_tells_11 : decode cL_tells 11 = .ok (.aload_n 0, 1) := by decide +kernel
theorem dL_tells_12 : decode cL_tells 12 = .ok (.getfield 26, 3) := by decide +kernel
theorem dL_tells_15 : decode cL_tells 15 = .ok (.iload_n 2, 1) := by decide +kernel
theorem dL_tells_16 : decode cL_tells 16 = .ok (.aload_n 1, 1) := by decide +kernel
theorem dL_tells_17 : decode cL_tells 17 = .ok (.invokevirtual 102, 3) := by decide +kernel
theorem dL_tells_20 : decode cL_tells 20 = .ok (.iastore, 1) := by decide +kernel
theorem dL_tells_21 : decode cL_tells 21 = .ok (.aload_n 1, 1) := by decide +kernel
theorem dL_tells_22 : decode cL_tells 22 = .ok (.aload_n 0, 1) := by decide +kernel
theorem dL_tells_23 : decode cL_tells 23 = .ok (.getfield 20, 3) := by decide +kernel
theorem dL_tells_26 : decode cL_tells 26 = .ok (.iload_n 2, 1) := by decide +kernel
theorem dL_tells_27 : decode cL_tells 27 = .ok (.iaload, 1) := by decide +kernel
theorem dL_tells_28 : decode cL_tells 28 = .ok (.invokevirtual 108, 3) := by decide +kernel
theorem dL_tells_31 : decode cL_tells 31 = .ok (.pop, 1) := by decide +kernel
theorem dL_tells_32 : decode cL_tells 32 = .ok (.aload_n 0, 1) := by decide +kernel
theorem dL_tells_33 : decode cL_tells 33 = .ok (.getfield 23, 3) := by decide +kernel
theorem dL_tells_36 : decode cL_tells 36 = .ok (.iload_n 2, 1) := by decide +kernel
theorem dL_tells_37 : decode cL_tells 37 = .ok (.iaload, 1) := by decide +kernel
theorem dL_tells_38 : decode cL_tells 38 = .ok (.ifCond .le 226, 3) := by decide +kernel
theorem dL_tells_41 : decode cL_tells 41 = .ok (.aload_n 1, 1) := by decide +kernel
theorem dL_tells_42 : decode cL_tells 42 = .ok (.bipush 46, 2) := by decide +kernel
theorem dL_tells_44 : decode cL_tells 44 = .ok (.invokevirtual 112, 3) := by decide +kernel
theorem dL_tells_47 : decode cL_tells 47 = .ok (.aload_n 0, 1) := by decide +kernel
theorem dL_tells_48 : decode cL_tells 48 = .ok (.getfield 23, 3) := by decide +kernel
theorem dL_tells_51 : decode cL_tells 51 = .ok (.iload_n 2, 1) := by decide +kernel
theorem dL_tells_52 : decode cL_tells 52 = .ok (.iaload, 1) := by decide +kernel
theorem dL_tells_53 : decode cL_tells 53 = .ok (.invokevirtual 108, 3) := by decide +kernel
theorem dL_tells_56 : decode cL_tells 56 = .ok (.pop, 1) := by decide +kernel
theorem dL_tells_57 : decode cL_tells 57 = .ok (.goto 207, 3) := by decide +kernel
theorem dL_tells_60 : decode cL_tells 60 = .ok (.iload_n 3, 1) := by decide +kernel
theorem dL_tells_61 : decode cL_tells 61 = .ok (.bipush 100, 2) := by decide +kernel
theorem dL_tells_63 : decode cL_tells 63 = .ok (.if_icmp .ne 31, 3) := by decide +kernel
theorem dL_tells_66 : decode cL_tells 66 = .ok (.aload_n 0, 1) := by decide +kernel
theorem dL_tells_67 : decode cL_tells 67 = .ok (.getfield 26, 3) := by decide +kernel
theorem dL_tells_70 : decode cL_tells 70 = .ok (.iload_n 2, 1) := by decide +kernel
theorem dL_tells_71 : decode cL_tells 71 = .ok (.aload_n 1, 1) := by decide +kernel
theorem dL_tells_72 : decode cL_tells 72 = .ok (.invokevirtual 102, 3) := by decide +kernel
theorem dL_tells_75 : decode cL_tells 75 = .ok (.iastore, 1) := by decide +kernel
theorem dL_tells_76 : decode cL_tells 76 = .ok (.aload_n 1, 1) := by decide +kernel
theorem dL_tells_77 : decode cL_tells 77 = .ok (.bipush 112, 2) := by decide +kernel
theorem dL_tells_79 : decode cL_tells 79 = .ok (.aload_n 0, 1) := by decide +kernel
theorem dL_tells_80 : decode cL_tells 80 = .ok (.getfield 20, 3) := by decide +kernel
theorem dL_tells_83 : decode cL_tells 83 = .ok (.iload_n 2, 1) := by decide +kernel
theorem dL_tells_84 : decode cL_tells 84 = .ok (.iaload, 1) := by decide +kernel
theorem dL_tells_85 : decode cL_tells 85 = .ok (.iadd, 1) := by decide +kernel
theorem dL_tells_86 : decode cL_tells 86 = .ok (.i2c, 1) := by decide +kernel
theorem dL_tells_87 : decode cL_tells 87 = .ok (.invokevirtual 112, 3) := by decide +kernel
theorem dL_tells_90 : decode cL_tells 90 = .ok (.pop, 1) := by decide +kernel
theorem dL_tells_91 : decode cL_tells 91 = .ok (.goto 173, 3) := by decide +kernel
theorem dL_tells_94 : decode cL_tells 94 = .ok (.iload_n 3, 1) := by decide +kernel
theorem dL_tells_95 : decode cL_tells 95 = .ok (.bipush 9, 2) := by decide +kernel
theorem dL_tells_97 : decode cL_tells 97 = .ok (.if_icmp .le 73, 3) := by decide +kernel
theorem dL_tells_100 : decode cL_tells 100 = .ok (.aload_n 0, 1) := by decide +kernel
theorem dL_tells_101 : decode cL_tells 101 = .ok (.getfield 26, 3) := by decide +kernel
theorem dL_tells_104 : decode cL_tells 104 = .ok (.iload_n 2, 1) := by decide +kernel
theorem dL_tells_105 : decode cL_tells 105 = .ok (.aload_n 1, 1) := by decide +kernel
theorem dL_tells_106 : decode cL_tells 106 = .ok (.invokevirtual 102, 3) := by decide +kernel
theorem dL_tells_109 : decode cL_tells 109 = .ok (.iastore, 1) := by decide +kernel
theorem dL_tells_110 : decode cL_tells 110 = .ok (.aload_n 1, 1) := by decide +kernel
theorem dL_tells_111 : decode cL_tells 111 = .ok (.iload_n 3, 1) := by decide +kernel
theorem dL_tells_112 : decode cL_tells 112 = .ok (.invokestatic 115, 3) := by decide +kernel
theorem dL_tells_115 : decode cL_tells 115 = .ok (.invokevirtual 119, 3) := by decide +kernel
theorem dL_tells_118 : decode cL_tells 118 = .ok (.bipush 40, 2) := by decide +kernel
theorem dL_tells_120 : decode cL_tells 120 = .ok (.invokevirtual 112, 3) := by decide +kernel
theorem dL_tells_123 : decode cL_tells 123 = .ok (.pop, 1) := by decide +kernel
theorem dL_tells_124 : decode cL_tells 124 = .ok (.aload_n 0, 1) := by decide +kernel
theorem dL_tells_125 : decode cL_tells 125 = .ok (.aload_n 1, 1) := by decide +kernel
theorem dL_tells_126 : decode cL_tells 126 = .ok (.aload_n 0, 1) := by decide +kernel
theorem dL_tells_127 : decode cL_tells 127 = .ok (.getfield 20, 3) := by decide +kernel
theorem dL_tells_130 : decode cL_tells 130 = .ok (.iload_n 2, 1) := by decide +kernel
theorem dL_tells_131 : decode cL_tells 131 = .ok (.iaload, 1) := by decide +kernel
theorem dL_tells_132 : decode cL_tells 132 = .ok (.invokevirtual 122, 3) := by decide +kernel
theorem dL_tells_135 : decode cL_tells 135 = .ok (.iload_n 3, 1) := by decide +kernel
theorem dL_tells_136 : decode cL_tells 136 = .ok (.invokestatic 78, 3) := by decide +kernel
theorem dL_tells_139 : decode cL_tells 139 = .ok (.ifCond .eq 21, 3) := by decide +kernel
theorem dL_tells_142 : decode cL_tells 142 = .ok (.aload_n 1, 1) := by decide +kernel
theorem dL_tells_143 : decode cL_tells 143 = .ok (.bipush 44, 2) := by decide +kernel
theorem dL_tells_145 : decode cL_tells 145 = .ok (.invokevirtual 112, 3) := by decide +kernel
theorem dL_tells_148 : decode cL_tells 148 = .ok (.pop, 1) := by decide +kernel
theorem dL_tells_149 : decode cL_tells 149 = .ok (.aload_n 0, 1) := by decide +kernel
theorem dL_tells_150 : decode cL_tells 150 = .ok (.aload_n 1, 1) := by decide +kernel
theorem dL_tells_151 : decode cL_tells 151 = .ok (.aload_n 0, 1) := by decide +kernel
theorem dL_tells_152 : decode cL_tells 152 = .ok (.getfield 23, 3) := by decide +kernel
theorem dL_tells_155 : decode cL_tells 155 = .ok (.iload_n 2, 1) := by decide +kernel
theorem dL_tells_156 : decode cL_tells 156 = .ok (.iaload, 1) := by decide +kernel
theorem dL_tells_157 : decode cL_tells 157 = .ok (.invokevirtual 122, 3) := by decide +kernel
theorem dL_tells_160 : decode cL_tells 160 = .ok (.aload_n 1, 1) := by decide +kernel
theorem dL_tells_161 : decode cL_tells 161 = .ok (.bipush 41, 2) := by decide +kernel
theorem dL_tells_163 : decode cL_tells 163 = .ok (.invokevirtual 112, 3) := by decide +kernel
theorem dL_tells_166 : decode cL_tells 166 = .ok (.pop, 1) := by decide +kernel
theorem dL_tells_167 : decode cL_tells 167 = .ok (.goto 97, 3) := by decide +kernel
theorem dL_tells_170 : decode cL_tells 170 = .ok (.aload_n 1, 1) := by decide +kernel
theorem dL_tells_171 : decode cL_tells 171 = .ok (.bipush 40, 2) := by decide +kernel
theorem dL_tells_173 : decode cL_tells 173 = .ok (.invokevirtual 112, 3) := by decide +kernel
theorem dL_tells_176 : decode cL_tells 176 = .ok (.pop, 1) := by decide +kernel
theorem dL_tells_177 : decode cL_tells 177 = .ok (.iload_n 3, 1) := by decide +kernel
theorem dL_tells_178 : decode cL_tells 178 = .ok (.bipush 8, 2) := by decide +kernel
theorem dL_tells_180 : decode cL_tells 180 = .ok (.if_icmp .ne 34, 3) := by decide +kernel
theorem dL_tells_183 : decode cL_tells 183 = .ok (.aload_n 0, 1) := by decide +kernel
theorem dL_tells_184 : decode cL_tells 184 = .ok (.getfield 26, 3) := by decide +kernel
theorem dL_tells_187 : decode cL_tells 187 = .ok (.iload_n 2, 1) := by decide +kernel
theorem dL_tells_188 : decode cL_tells 188 = .ok (.aload_n 1, 1) := by decide +kernel
theorem dL_tells_189 : decode cL_tells 189 = .ok (.invokevirtual 102, 3) := by decide +kernel
theorem dL_tells_192 : decode cL_tells 192 = .ok (.iastore, 1) := by decide +kernel
theorem dL_tells_193 : decode cL_tells 193 = .ok (.aload_n 1, 1) := by decide +kernel
theorem dL_tells_194 : decode cL_tells 194 = .ok (.bipush 45, 2) := by decide +kernel
theorem dL_tells_196 : decode cL_tells 196 = .ok (.invokevirtual 112, 3) := by decide +kernel
theorem dL_tells_199 : decode cL_tells 199 = .ok (.pop, 1) := by decide +kernel
theorem dL_tells_200 : decode cL_tells 200 = .ok (.aload_n 0, 1) := by decide +kernel
theorem dL_tells_201 : decode cL_tells 201 = .ok (.aload_n 1, 1) := by decide +kernel
theorem dL_tells_202 : decode cL_tells 202 = .ok (.aload_n 0, 1) := by decide +kernel
theorem dL_tells_203 : decode cL_tells 203 = .ok (.getfield 20, 3) := by decide +kernel
theorem dL_tells_206 : decode cL_tells 206 = .ok (.iload_n 2, 1) := by decide +kernel
theorem dL_tells_207 : decode cL_tells 207 = .ok (.iaload, 1) := by decide +kernel
theorem dL_tells_208 : decode cL_tells 208 = .ok (.invokevirtual 122, 3) := by decide +kernel
theorem dL_tells_211 : decode cL_tells 211 = .ok (.goto 46, 3) := by decide +kernel
theorem dL_tells_214 : decode cL_tells 214 = .ok (.aload_n 0, 1) := by decide +kernel
theorem dL_tells_215 : decode cL_tells 215 = .ok (.aload_n 1, 1) := by decide +kernel
theorem dL_tells_216 : decode cL_tells 216 = .ok (.aload_n 0, 1) := by decide +kernel
theorem dL_tells_217 : decode cL_tells 217 = .ok (.getfield 20, 3) := by decide +kernel
theorem dL_tells_220 : decode cL_tells 220 = .ok (.iload_n 2, 1) := by decide +kernel
theorem dL_tells_221 : decode cL_tells 221 = .ok (.iaload, 1) := by decide +kernel
theorem dL_tells_222 : decode cL_tells 222 = .ok (.invokevirtual 122, 3) := by decide +kernel
theorem dL_tells_225 : decode cL_tells 225 = .ok (.aload_n 0, 1) := by decide +kernel
theorem dL_tells_226 : decode cL_tells 226 = .ok (.getfield 26, 3) := by decide +kernel
theorem dL_tells_229 : decode cL_tells 229 = .ok (.iload_n 2, 1) := by decide +kernel
theorem dL_tells_230 : decode cL_tells 230 = .ok (.aload_n 1, 1) := by decide +kernel
theorem dL_tells_231 : decode cL_tells 231 = .ok (.invokevirtual 102, 3) := by decide +kernel
theorem dL_tells_234 : decode cL_tells 234 = .ok (.iastore, 1) := by decide +kernel
theorem dL_tells_235 : decode cL_tells 235 = .ok (.aload_n 1, 1) := by decide +kernel
theorem dL_tells_236 : decode cL_tells 236 = .ok (.ldc 126, 2) := by decide +kernel
theorem dL_tells_238 : decode cL_tells 238 = .ok (.iload_n 3, 1) := by decide +kernel
theorem dL_tells_239 : decode cL_tells 239 = .ok (.invokevirtual 128, 3) := by decide +kernel
theorem dL_tells_242 : decode cL_tells 242 = .ok (.invokevirtual 112, 3) := by decide +kernel
theorem dL_tells_245 : decode cL_tells 245 = .ok (.pop, 1) := by decide +kernel
theorem dL_tells_246 : decode cL_tells 246 = .ok (.aload_n 0, 1) := by decide +kernel
theorem dL_tells_247 : decode cL_tells 247 = .ok (.aload_n 1, 1) := by decide +kernel
theorem dL_tells_248 : decode cL_tells 248 = .ok (.aload_n 0, 1) := by decide +kernel
theorem dL_tells_249 : decode cL_tells 249 = .ok (.getfield 23, 3) := by decide +kernel
theorem dL_tells_252 : decode cL_tells 252 = .ok (.iload_n 2, 1) := by decide +kernel
theorem dL_tells_253 : decode cL_tells 253 = .ok (.iaload, 1) := by decide +kernel
theorem dL_tells_254 : decode cL_tells 254 = .ok (.invokevirtual 122, 3) := by decide +kernel
theorem dL_tells_257 : decode cL_tells 257 = .ok (.aload_n 1, 1) := by decide +kernel
theorem dL_tells_258 : decode cL_tells 258 = .ok (.bipush 41, 2) := by decide +kernel
theorem dL_tells_260 : decode cL_tells 260 = .ok (.invokevirtual 112, 3) := by decide +kernel
theorem dL_tells_263 : decode cL_tells 263 = .ok (.pop, 1) := by decide +kernel
theorem dL_tells_264 : decode cL_tells 264 = .ok (.return_, 1) := by decide +kernel
theorem dL_floor_0 : decode cL_floor 0 = .ok (.lload_n 0, 1) := by decide +kernel
theorem dL_floor_1 : decode cL_floor 1 = .ok (.lconst 0, 1) := by decide +kernel
theorem dL_floor_2 : decode cL_floor 2 = .ok (.lcmp, 1) := by decide +kernel
theorem dL_floor_3 : decode cL_floor 3 = .ok (.ifCond .lt 9, 3) := by decide +kernel
theorem dL_floor_6 : decode cL_floor 6 = .ok (.lload_n 0, 1) := by decide +kernel
theorem dL_floor_7 : decode cL_floor 7 = .ok (.lload_n 2, 1) := by decide +kernel
theorem dL_floor_8 : decode cL_floor 8 = .ok (.ldiv, 1) := by decide +kernel
theorem dL_floor_9 : decode cL_floor 9 = .ok (.goto 12, 3) := by decide +kernel
theorem dL_floor_12 : decode cL_floor 12 = .ok (.lload_n 0, 1) := by decide +kernel
theorem dL_floor_13 : decode cL_floor 13 = .ok (.lneg, 1) := by decide +kernel
theorem dL_floor_14 : decode cL_floor 14 = .ok (.lload_n 2, 1) := by decide +kernel
theorem dL_floor_15 : decode cL_floor 15 = .ok (.ladd, 1) := by decide +kernel
theorem dL_floor_16 : decode cL_floor 16 = .ok (.lconst 1, 1) := by decide +kernel
theorem dL_floor_17 : decode cL_floor 17 = .ok (.lsub, 1) := by decide +kernel
theorem dL_floor_18 : decode cL_floor 18 = .ok (.lload_n 2, 1) := by decide +kernel
theorem dL_floor_19 : decode cL_floor 19 = .ok (.ldiv, 1) := by decide +kernel
theorem dL_floor_20 : decode cL_floor 20 = .ok (.lneg, 1) := by decide +kernel
theorem dL_floor_21 : decode cL_floor 21 = .ok (.lreturn, 1) := by decide +kernel
theorem dL_refuses_0 : decode cL_refuses 0 = .ok (.aload_n 0, 1) := by decide +kernel
theorem dL_refuses_1 : decode cL_refuses 1 = .ok (.iload_n 1, 1) := by decide +kernel
theorem dL_refuses_2 : decode cL_refuses 2 = .ok (.putfield 134, 3) := by decide +kernel
theorem dL_refuses_5 : decode cL_refuses 5 = .ok (.aload_n 0, 1) := by decide +kernel
theorem dL_refuses_6 : decode cL_refuses 6 = .ok (.aload_n 0, 1) := by decide +kernel
theorem dL_refuses_7 : decode cL_refuses 7 = .ok (.getfield 26, 3) := by decide +kernel
theorem dL_refuses_10 : decode cL_refuses 10 = .ok (.iload_n 2, 1) := by decide +kernel
theorem dL_refuses_11 : decode cL_refuses 11 = .ok (.iaload, 1) := by decide +kernel
theorem dL_refuses_12 : decode cL_refuses 12 = .ok (.putfield 137, 3) := by decide +kernel
theorem dL_refuses_15 : decode cL_refuses 15 = .ok (.iconst 0, 1) := by decide +kernel
theorem dL_refuses_16 : decode cL_refuses 16 = .ok (.ireturn, 1) := by decide +kernel
theorem dL_works_0 : decode cL_works 0 = .ok (.aload_n 0, 1) := by decide +kernel
theorem dL_works_1 : decode cL_works 1 = .ok (.getfield 16, 3) := by decide +kernel
theorem dL_works_4 : decode cL_works 4 = .ok (.iload_n 1, 1) := by decide +kernel
theorem dL_works_5 : decode cL_works 5 = .ok (.iaload, 1) := by decide +kernel
theorem dL_works_6 : decode cL_works 6 = .ok (.istore_n 2, 1) := by decide +kernel
theorem dL_works_7 : decode cL_works 7 = .ok (.iload_n 2, 1) := by decide +kernel
theorem dL_works_8 : decode cL_works 8 = .ok (.ifCond .ne 64, 3) := by decide +kernel
theorem dL_works_11 : decode cL_works 11 = .ok (.aload_n 0, 1) := by decide +kernel
theorem dL_works_12 : decode cL_works 12 = .ok (.iload_n 1, 1) := by decide +kernel
theorem dL_works_13 : decode cL_works 13 = .ok (.aload_n 0, 1) := by decide +kernel
theorem dL_works_14 : decode cL_works 14 = .ok (.getfield 23, 3) := by decide +kernel
theorem dL_works_17 : decode cL_works 17 = .ok (.iload_n 1, 1) := by decide +kernel
theorem dL_works_18 : decode cL_works 18 = .ok (.iaload, 1) := by decide +kernel
theorem dL_works_19 : decode cL_works 19 = .ok (.ifCond .le 25, 3) := by decide +kernel
theorem dL_works_22 : decode cL_works 22 = .ok (.ldc2_w 140, 3) := by decide +kernel
theorem dL_works_25 : decode cL_works 25 = .ok (.aload_n 0, 1) := by decide +kernel
theorem dL_works_26 : decode cL_works 26 = .ok (.getfield 20, 3) := by decide +kernel
theorem dL_works_29 : decode cL_works 29 = .ok (.iload_n 1, 1) := by decide +kernel
theorem dL_works_30 : decode cL_works 30 = .ok (.iaload, 1) := by decide +kernel
theorem dL_works_31 : decode cL_works 31 = .ok (.i2l, 1) := by decide +kernel
theorem dL_works_32 : decode cL_works 32 = .ok (.lmul, 1) := by decide +kernel
theorem dL_works_33 : decode cL_works 33 = .ok (.aload_n 0, 1) := by decide +kernel
theorem dL_works_34 : decode cL_works 34 = .ok (.getfield 23, 3) := by decide +kernel
theorem dL_works_37 : decode cL_works 37 = .ok (.iload_n 1, 1) := by decide +kernel
theorem dL_works_38 : decode cL_works 38 = .ok (.iaload, 1) := by decide +kernel
theorem dL_works_39 : decode cL_works 39 = .ok (.i2l, 1) := by decide +kernel
theorem dL_works_40 : decode cL_works 40 = .ok (.ladd, 1) := by decide +kernel
theorem dL_works_41 : decode cL_works 41 = .ok (.goto 10, 3) := by decide +kernel
theorem dL_works_44 : decode cL_works 44 = .ok (.aload_n 0, 1) := by decide +kernel
theorem dL_works_45 : decode cL_works 45 = .ok (.getfield 20, 3) := by decide +kernel
theorem dL_works_48 : decode cL_works 48 = .ok (.iload_n 1, 1) := by decide +kernel
theorem dL_works_49 : decode cL_works 49 = .ok (.iaload, 1) := by decide +kernel
theorem dL_works_50 : decode cL_works 50 = .ok (.i2l, 1) := by decide +kernel
theorem dL_works_51 : decode cL_works 51 = .ok (.aload_n 0, 1) := by decide +kernel
theorem dL_works_52 : decode cL_works 52 = .ok (.getfield 23, 3) := by decide +kernel
theorem dL_works_55 : decode cL_works 55 = .ok (.iload_n 1, 1) := by decide +kernel
theorem dL_works_56 : decode cL_works 56 = .ok (.iaload, 1) := by decide +kernel
theorem dL_works_57 : decode cL_works 57 = .ok (.ifCond .le 9, 3) := by decide +kernel
theorem dL_works_60 : decode cL_works 60 = .ok (.ldc2_w 140, 3) := by decide +kernel
theorem dL_works_63 : decode cL_works 63 = .ok (.goto 4, 3) := by decide +kernel
theorem dL_works_66 : decode cL_works 66 = .ok (.lconst 1, 1) := by decide +kernel
theorem dL_works_67 : decode cL_works 67 = .ok (.invokevirtual 142, 3) := by decide +kernel
theorem dL_works_70 : decode cL_works 70 = .ok (.iconst 1, 1) := by decide +kernel
theorem dL_works_71 : decode cL_works 71 = .ok (.ireturn, 1) := by decide +kernel
theorem dL_works_72 : decode cL_works 72 = .ok (.iload_n 2, 1) := by decide +kernel
theorem dL_works_73 : decode cL_works 73 = .ok (.bipush 100, 2) := by decide +kernel
theorem dL_works_75 : decode cL_works 75 = .ok (.if_icmp .ne 49, 3) := by decide +kernel
theorem dL_works_78 : decode cL_works 78 = .ok (.aload_n 0, 1) := by decide +kernel
theorem dL_works_79 : decode cL_works 79 = .ok (.getfield 29, 3) := by decide +kernel
theorem dL_works_82 : decode cL_works 82 = .ok (.iload_n 1, 1) := by decide +kernel
theorem dL_works_83 : decode cL_works 83 = .ok (.aload_n 0, 1) := by decide +kernel
theorem dL_works_84 : decode cL_works 84 = .ok (.getfield 29, 3) := by decide +kernel
theorem dL_works_87 : decode cL_works 87 = .ok (.aload_n 0, 1) := by decide +kernel
theorem dL_works_88 : decode cL_works 88 = .ok (.getfield 36, 3) := by decide +kernel
theorem dL_works_91 : decode cL_works 91 = .ok (.aload_n 0, 1) := by decide +kernel
theorem dL_works_92 : decode cL_works 92 = .ok (.getfield 20, 3) := by decide +kernel
theorem dL_works_95 : decode cL_works 95 = .ok (.iload_n 1, 1) := by decide +kernel
theorem dL_works_96 : decode cL_works 96 = .ok (.iaload, 1) := by decide +kernel
theorem dL_works_97 : decode cL_works 97 = .ok (.iaload, 1) := by decide +kernel
theorem dL_works_98 : decode cL_works 98 = .ok (.laload, 1) := by decide +kernel
theorem dL_works_99 : decode cL_works 99 = .ok (.lastore, 1) := by decide +kernel
theorem dL_works_100 : decode cL_works 100 = .ok (.aload_n 0, 1) := by decide +kernel
theorem dL_works_101 : decode cL_works 101 = .ok (.getfield 33, 3) := by decide +kernel
theorem dL_works_104 : decode cL_works 104 = .ok (.iload_n 1, 1) := by decide +kernel
theorem dL_works_105 : decode cL_works 105 = .ok (.aload_n 0, 1) := by decide +kernel
theorem dL_works_106 : decode cL_works 106 = .ok (.getfield 33, 3) := by decide +kernel
theorem dL_works_109 : decode cL_works 109 = .ok (.aload_n 0, 1) := by decide +kernel
theorem dL_works_110 : decode cL_works 110 = .ok (.getfield 36, 3) := by decide +kernel
theorem dL_works_113 : decode cL_works 113 = .ok (.aload_n 0, 1) := by decide +kernel
theorem dL_works_114 : decode cL_works 114 = .ok (.getfield 20, 3) := by decide +kernel
theorem dL_works_117 : decode cL_works 117 = .ok (.iload_n 1, 1) := by decide +kernel
theorem dL_works_118 : decode cL_works 118 = .ok (.iaload, 1) := by decide +kernel
theorem dL_works_119 : decode cL_works 119 = .ok (.iaload, 1) := by decide +kernel
theorem dL_works_120 : decode cL_works 120 = .ok (.laload, 1) := by decide +kernel
theorem dL_works_121 : decode cL_works 121 = .ok (.lastore, 1) := by decide +kernel
theorem dL_works_122 : decode cL_works 122 = .ok (.iconst 1, 1) := by decide +kernel
theorem dL_works_123 : decode cL_works 123 = .ok (.ireturn, 1) := by decide +kernel
theorem dL_works_124 : decode cL_works 124 = .ok (.aload_n 0, 1) := by decide +kernel
theorem dL_works_125 : decode cL_works 125 = .ok (.aload_n 0, 1) := by decide +kernel
theorem dL_works_126 : decode cL_works 126 = .ok (.getfield 20, 3) := by decide +kernel
theorem dL_works_129 : decode cL_works 129 = .ok (.iload_n 1, 1) := by decide +kernel
theorem dL_works_130 : decode cL_works 130 = .ok (.iaload, 1) := by decide +kernel
theorem dL_works_131 : decode cL_works 131 = .ok (.invokevirtual 146, 3) := by decide +kernel
theorem dL_works_134 : decode cL_works 134 = .ok (.ifCond .eq 23, 3) := by decide +kernel
theorem dL_works_137 : decode cL_works 137 = .ok (.iload_n 2, 1) := by decide +kernel
theorem dL_works_138 : decode cL_works 138 = .ok (.invokestatic 78, 3) := by decide +kernel
theorem dL_works_141 : decode cL_works 141 = .ok (.ifCond .eq 18, 3) := by decide +kernel
theorem dL_works_144 : decode cL_works 144 = .ok (.aload_n 0, 1) := by decide +kernel
theorem dL_works_145 : decode cL_works 145 = .ok (.aload_n 0, 1) := by decide +kernel
theorem dL_works_146 : decode cL_works 146 = .ok (.getfield 23, 3) := by decide +kernel
theorem dL_works_149 : decode cL_works 149 = .ok (.iload_n 1, 1) := by decide +kernel
theorem dL_works_150 : decode cL_works 150 = .ok (.iaload, 1) := by decide +kernel
theorem dL_works_151 : decode cL_works 151 = .ok (.invokevirtual 146, 3) := by decide +kernel
theorem dL_works_154 : decode cL_works 154 = .ok (.ifCond .ne 5, 3) := by decide +kernel
theorem dL_works_157 : decode cL_works 157 = .ok (.iconst 0, 1) := by decide +kernel
theorem dL_works_158 : decode cL_works 158 = .ok (.ireturn, 1) := by decide +kernel
theorem dL_works_159 : decode cL_works 159 = .ok (.aload_n 0, 1) := by decide +kernel
theorem dL_works_160 : decode cL_works 160 = .ok (.dup, 1) := by decide +kernel
theorem dL_works_161 : decode cL_works 161 = .ok (.getfield 149, 3) := by decide +kernel
theorem dL_works_164 : decode cL_works 164 = .ok (.iconst 1, 1) := by decide +kernel
theorem dL_works_165 : decode cL_works 165 = .ok (.iadd, 1) := by decide +kernel
theorem dL_works_166 : decode cL_works 166 = .ok (.putfield 149, 3) := by decide +kernel
theorem dL_works_169 : decode cL_works 169 = .ok (.aload_n 0, 1) := by decide +kernel
theorem dL_works_170 : decode cL_works 170 = .ok (.getfield 59, 3) := by decide +kernel
theorem dL_works_173 : decode cL_works 173 = .ok (.ifCond .eq 5, 3) := by decide +kernel
theorem dL_works_176 : decode cL_works 176 = .ok (.iconst 1, 1) := by decide +kernel
theorem dL_works_177 : decode cL_works 177 = .ok (.ireturn, 1) := by decide +kernel
theorem dL_works_178 : decode cL_works 178 = .ok (.aload_n 0, 1) := by decide +kernel
theorem dL_works_179 : decode cL_works 179 = .ok (.getfield 29, 3) := by decide +kernel
theorem dL_works_182 : decode cL_works 182 = .ok (.aload_n 0, 1) := by decide +kernel
theorem dL_works_183 : decode cL_works 183 = .ok (.getfield 20, 3) := by decide +kernel
theorem dL_works_186 : decode cL_works 186 = .ok (.iload_n 1, 1) := by decide +kernel
theorem dL_works_187 : decode cL_works 187 = .ok (.iaload, 1) := by decide +kernel
theorem dL_works_188 : decode cL_works 188 = .ok (.laload, 1) := by decide +kernel
theorem dL_works_189 : decode cL_works 189 = .ok (.lstore_n 3, 1) := by decide +kernel
theorem dL_works_190 : decode cL_works 190 = .ok (.aload_n 0, 1) := by decide +kernel
theorem dL_works_191 : decode cL_works 191 = .ok (.getfield 33, 3) := by decide +kernel
theorem dL_works_194 : decode cL_works 194 = .ok (.aload_n 0, 1) := by decide +kernel
theorem dL_works_195 : decode cL_works 195 = .ok (.getfield 20, 3) := by decide +kernel
theorem dL_works_198 : decode cL_works 198 = .ok (.iload_n 1, 1) := by decide +kernel
theorem dL_works_199 : decode cL_works 199 = .ok (.iaload, 1) := by decide +kernel
theorem dL_works_200 : decode cL_works 200 = .ok (.laload, 1) := by decide +kernel
theorem dL_works_201 : decode cL_works 201 = .ok (.lstore 5, 2) := by decide +kernel
theorem dL_works_203 : decode cL_works 203 = .ok (.iload_n 2, 1) := by decide +kernel
theorem dL_works_204 : decode cL_works 204 = .ok (.invokestatic 78, 3) := by decide +kernel
theorem dL_works_207 : decode cL_works 207 = .ok (.ifCond .eq 17, 3) := by decide +kernel
theorem dL_works_210 : decode cL_works 210 = .ok (.aload_n 0, 1) := by decide +kernel
theorem dL_works_211 : decode cL_works 211 = .ok (.getfield 29, 3) := by decide +kernel
theorem dL_works_214 : decode cL_works 214 = .ok (.aload_n 0, 1) := by decide +kernel
theorem dL_works_215 : decode cL_works 215 = .ok (.getfield 23, 3) := by decide +kernel
theorem dL_works_218 : decode cL_works 218 = .ok (.iload_n 1, 1) := by decide +kernel
theorem dL_works_219 : decode cL_works 219 = .ok (.iaload, 1) := by decide +kernel
theorem dL_works_220 : decode cL_works 220 = .ok (.laload, 1) := by decide +kernel
theorem dL_works_221 : decode cL_works 221 = .ok (.goto 4, 3) := by decide +kernel
theorem dL_works_224 : decode cL_works 224 = .ok (.lconst 0, 1) := by decide +kernel
theorem dL_works_225 : decode cL_works 225 = .ok (.lstore 7, 2) := by decide +kernel
theorem dL_works_227 : decode cL_works 227 = .ok (.iload_n 2, 1) := by decide +kernel
theorem dL_works_228 : decode cL_works 228 = .ok (.invokestatic 78, 3) := by decide +kernel
theorem dL_works_231 : decode cL_works 231 = .ok (.ifCond .eq 17, 3) := by decide +kernel
theorem dL_works_234 : decode cL_works 234 = .ok (.aload_n 0, 1) := by decide +kernel
theorem dL_works_235 : decode cL_works 235 = .ok (.getfield 33, 3) := by decide +kernel
theorem dL_works_238 : decode cL_works 238 = .ok (.aload_n 0, 1) := by decide +kernel
theorem dL_works_239 : decode cL_works 239 = .ok (.getfield 23, 3) := by decide +kernel
theorem dL_works_242 : decode cL_works 242 = .ok (.iload_n 1, 1) := by decide +kernel
theorem dL_works_243 : decode cL_works 243 = .ok (.iaload, 1) := by decide +kernel
theorem dL_works_244 : decode cL_works 244 = .ok (.laload, 1) := by decide +kernel
theorem dL_works_245 : decode cL_works 245 = .ok (.goto 4, 3) := by decide +kernel
theorem dL_works_248 : decode cL_works 248 = .ok (.lconst 1, 1) := by decide +kernel
theorem dL_works_249 : decode cL_works 249 = .ok (.lstore 9, 2) := by decide +kernel
theorem dL_works_251 : decode cL_works 251 = .ok (.iload_n 2, 1) := by decide +kernel
theorem dL_works_252 : decode cL_works 252 = .ok (.bipush 6, 2) := by decide +kernel
theorem dL_works_254 : decode cL_works 254 = .ok (.if_icmp .ne 28, 3) := by decide +kernel
theorem dL_works_257 : decode cL_works 257 = .ok (.lload 9, 2) := by decide +kernel
theorem dL_works_259 : decode cL_works 259 = .ok (.lconst 1, 1) := by decide +kernel
theorem dL_works_260 : decode cL_works 260 = .ok (.lcmp, 1) := by decide +kernel
theorem dL_works_261 : decode cL_works 261 = .ok (.ifCond .ne 47, 3) := by decide +kernel
theorem dL_works_264 : decode cL_works 264 = .ok (.lload 7, 2) := by decide +kernel
theorem dL_works_266 : decode cL_works 266 = .ok (.ldc2_w 152, 3) := by decide +kernel
theorem dL_works_269 : decode cL_works 269 = .ok (.lcmp, 1) := by decide +kernel
theorem dL_works_270 : decode cL_works 270 = .ok (.ifCond .lt 38, 3) := by decide +kernel
theorem dL_works_273 : decode cL_works 273 = .ok (.lload 7, 2) := by decide +kernel
theorem dL_works_275 : decode cL_works 275 = .ok (.ldc2_w 154, 3) := by decide +kernel
theorem dL_works_278 : decode cL_works 278 = .ok (.lcmp, 1) := by decide +kernel
theorem dL_works_279 : decode cL_works 279 = .ok (.ifCond .gt 29, 3) := by decide +kernel
theorem dL_works_282 : decode cL_works 282 = .ok (.iload_n 2, 1) := by decide +kernel
theorem dL_works_283 : decode cL_works 283 = .ok (.bipush 10, 2) := by decide +kernel
theorem dL_works_285 : decode cL_works 285 = .ok (.if_icmp .eq 9, 3) := by decide +kernel
theorem dL_works_288 : decode cL_works 288 = .ok (.iload_n 2, 1) := by decide +kernel
theorem dL_works_289 : decode cL_works 289 = .ok (.bipush 11, 2) := by decide +kernel
theorem dL_works_291 : decode cL_works 291 = .ok (.if_icmp .ne 25, 3) := by decide +kernel
theorem dL_works_294 : decode cL_works 294 = .ok (.lload 5, 2) := by decide +kernel
theorem dL_works_296 : decode cL_works 296 = .ok (.lconst 1, 1) := by decide +kernel
theorem dL_works_297 : decode cL_works 297 = .ok (.lcmp, 1) := by decide +kernel
theorem dL_works_298 : decode cL_works 298 = .ok (.ifCond .ne 10, 3) := by decide +kernel
theorem dL_works_301 : decode cL_works 301 = .ok (.lload 9, 2) := by decide +kernel
theorem dL_works_303 : decode cL_works 303 = .ok (.lconst 1, 1) := by decide +kernel
theorem dL_works_304 : decode cL_works 304 = .ok (.lcmp, 1) := by decide +kernel
theorem dL_works_305 : decode cL_works 305 = .ok (.ifCond .eq 11, 3) := by decide +kernel
theorem dL_works_308 : decode cL_works 308 = .ok (.aload_n 0, 1) := by decide +kernel
theorem dL_works_309 : decode cL_works 309 = .ok (.bipush 6, 2) := by decide +kernel
theorem dL_works_311 : decode cL_works 311 = .ok (.iload_n 1, 1) := by decide +kernel
theorem dL_works_312 : decode cL_works 312 = .ok (.invokevirtual 156, 3) := by decide +kernel
theorem dL_works_315 : decode cL_works 315 = .ok (.ireturn, 1) := by decide +kernel
theorem dL_works_316 : decode cL_works 316 = .ok (.iload_n 2, 1) := by decide +kernel
theorem dL_works_317 : decode cL_works 317 = .ok (.iconst 4, 1) := by decide +kernel
theorem dL_works_318 : decode cL_works 318 = .ok (.if_icmp .eq 8, 3) := by decide +kernel
theorem dL_works_321 : decode cL_works 321 = .ok (.iload_n 2, 1) := by decide +kernel
theorem dL_works_322 : decode cL_works 322 = .ok (.iconst 5, 1) := by decide +kernel
theorem dL_works_323 : decode cL_works 323 = .ok (.if_icmp .ne 10, 3) := by decide +kernel
theorem dL_works_326 : decode cL_works 326 = .ok (.lload 7, 2) := by decide +kernel
theorem dL_works_328 : decode cL_works 328 = .ok (.lconst 0, 1) := by decide +kernel
theorem dL_works_329 : decode cL_works 329 = .ok (.lcmp, 1) := by decide +kernel
theorem dL_works_330 : decode cL_works 330 = .ok (.ifCond .eq 22, 3) := by decide +kernel
theorem dL_works_333 : decode cL_works 333 = .ok (.iload_n 2, 1) := by decide +kernel
theorem dL_works_334 : decode cL_works 334 = .ok (.bipush 6, 2) := by decide +kernel
theorem dL_works_336 : decode cL_works 336 = .ok (.if_icmp .ne 23, 3) := by decide +kernel
theorem dL_works_339 : decode cL_works 339 = .ok (.lload_n 3, 1) := by decide +kernel
theorem dL_works_340 : decode cL_works 340 = .ok (.lconst 0, 1) := by decide +kernel
theorem dL_works_341 : decode cL_works 341 = .ok (.lcmp, 1) := by decide +kernel
theorem dL_works_342 : decode cL_works 342 = .ok (.ifCond .ne 17, 3) := by decide +kernel
theorem dL_works_345 : decode cL_works 345 = .ok (.lload 7, 2) := by decide +kernel
theorem dL_works_347 : decode cL_works 347 = .ok (.lconst 0, 1) := by decide +kernel
theorem dL_works_348 : decode cL_works 348 = .ok (.lcmp, 1) := by decide +kernel
theorem dL_works_349 : decode cL_works 349 = .ok (.ifCond .ge 10, 3) := by decide +kernel
theorem dL_works_352 : decode cL_works 352 = .ok (.aload_n 0, 1) := by decide +kernel
theorem dL_works_353 : decode cL_works 353 = .ok (.iconst 5, 1) := by decide +kernel
theorem dL_works_354 : decode cL_works 354 = .ok (.iload_n 1, 1) := by decide +kernel
theorem dL_works_355 : decode cL_works 355 = .ok (.invokevirtual 156, 3) := by decide +kernel
theorem dL_works_358 : decode cL_works 358 = .ok (.ireturn, 1) := by decide +kernel
theorem dL_works_359 : decode cL_works 359 = .ok (.lload_n 3, 1) := by decide +kernel
theorem dL_works_360 : decode cL_works 360 = .ok (.lload 5, 2) := by decide +kernel
theorem dL_works_362 : decode cL_works 362 = .ok (.invokestatic 160, 3) := by decide +kernel
theorem dL_works_365 : decode cL_works 365 = .ok (.lstore 11, 2) := by decide +kernel
theorem dL_works_367 : decode cL_works 367 = .ok (.lload_n 3, 1) := by decide +kernel
theorem dL_works_368 : decode cL_works 368 = .ok (.lload 11, 2) := by decide +kernel
theorem dL_works_370 : decode cL_works 370 = .ok (.lload 5, 2) := by decide +kernel
theorem dL_works_372 : decode cL_works 372 = .ok (.lmul, 1) := by decide +kernel
theorem dL_works_373 : decode cL_works 373 = .ok (.lsub, 1) := by decide +kernel
theorem dL_works_374 : decode cL_works 374 = .ok (.lstore 13, 2) := by decide +kernel
theorem dL_works_376 : decode cL_works 376 = .ok (.iload_n 2, 1) := by decide +kernel
theorem dL_works_377 : decode cL_works 377 = .ok (.tableswitch 479 1 18 #[87, 110, 133, 150, 198, 258, 479, 271, 479, 283, 298, 338, 349, 374, 427, 441, 458, 468], 87) := by decide +kernel
theorem dL_works_464 : decode cL_works 464 = .ok (.aload_n 0, 1) := by decide +kernel
theorem dL_works_465 : decode cL_works 465 = .ok (.iload_n 1, 1) := by decide +kernel
theorem dL_works_466 : decode cL_works 466 = .ok (.lload_n 3, 1) := by decide +kernel
theorem dL_works_467 : decode cL_works 467 = .ok (.lload 9, 2) := by decide +kernel
theorem dL_works_469 : decode cL_works 469 = .ok (.lmul, 1) := by decide +kernel
theorem dL_works_470 : decode cL_works 470 = .ok (.lload 7, 2) := by decide +kernel
theorem dL_works_472 : decode cL_works 472 = .ok (.lload 5, 2) := by decide +kernel
theorem dL_works_474 : decode cL_works 474 = .ok (.lmul, 1) := by decide +kernel
theorem dL_works_475 : decode cL_works 475 = .ok (.ladd, 1) := by decide +kernel
theorem dL_works_476 : decode cL_works 476 = .ok (.lload 5, 2) := by decide +kernel
theorem dL_works_478 : decode cL_works 478 = .ok (.lload 9, 2) := by decide +kernel
theorem dL_works_480 : decode cL_works 480 = .ok (.lmul, 1) := by decide +kernel
theorem dL_works_481 : decode cL_works 481 = .ok (.invokevirtual 142, 3) := by decide +kernel
theorem dL_works_484 : decode cL_works 484 = .ok (.goto 442, 3) := by decide +kernel
theorem dL_works_487 : decode cL_works 487 = .ok (.aload_n 0, 1) := by decide +kernel
theorem dL_works_488 : decode cL_works 488 = .ok (.iload_n 1, 1) := by decide +kernel
theorem dL_works_489 : decode cL_works 489 = .ok (.lload_n 3, 1) := by decide +kernel
theorem dL_works_490 : decode cL_works 490 = .ok (.lload 9, 2) := by decide +kernel
theorem dL_works_492 : decode cL_works 492 = .ok (.lmul, 1) := by decide +kernel
theorem dL_works_493 : decode cL_works 493 = .ok (.lload 7, 2) := by decide +kernel
theorem dL_works_495 : decode cL_works 495 = .ok (.lload 5, 2) := by decide +kernel
theorem dL_works_497 : decode cL_works 497 = .ok (.lmul, 1) := by decide +kernel
theorem dL_works_498 : decode cL_works 498 = .ok (.lsub, 1) := by decide +kernel
theorem dL_works_499 : decode cL_works 499 = .ok (.lload 5, 2) := by decide +kernel
theorem dL_works_501 : decode cL_works 501 = .ok (.lload 9, 2) := by decide +kernel
theorem dL_works_503 : decode cL_works 503 = .ok (.lmul, 1) := by decide +kernel
theorem dL_works_504 : decode cL_works 504 = .ok (.invokevirtual 142, 3) := by decide +kernel
theorem dL_works_507 : decode cL_works 507 = .ok (.goto 419, 3) := by decide +kernel
theorem dL_works_510 : decode cL_works 510 = .ok (.aload_n 0, 1) := by decide +kernel
theorem dL_works_511 : decode cL_works 511 = .ok (.iload_n 1, 1) := by decide +kernel
theorem dL_works_512 : decode cL_works 512 = .ok (.lload_n 3, 1) := by decide +kernel
theorem dL_works_513 : decode cL_works 513 = .ok (.lload 7, 2) := by decide +kernel
theorem dL_works_515 : decode cL_works 515 = .ok (.lmul, 1) := by decide +kernel
theorem dL_works_516 : decode cL_works 516 = .ok (.lload 5, 2) := by decide +kernel
theorem dL_works_518 : decode cL_works 518 = .ok (.lload 9, 2) := by decide +kernel
theorem dL_works_520 : decode cL_works 520 = .ok (.lmul, 1) := by decide +kernel
theorem dL_works_521 : decode cL_works 521 = .ok (.invokevirtual 142, 3) := by decide +kernel
theorem dL_works_524 : decode cL_works 524 = .ok (.goto 402, 3) := by decide +kernel
theorem dL_works_527 : decode cL_works 527 = .ok (.aload_n 0, 1) := by decide +kernel
theorem dL_works_528 : decode cL_works 528 = .ok (.iload_n 1, 1) := by decide +kernel
theorem dL_works_529 : decode cL_works 529 = .ok (.lload 7, 2) := by decide +kernel
theorem dL_works_531 : decode cL_works 531 = .ok (.lconst 0, 1) := by decide +kernel
theorem dL_works_532 : decode cL_works 532 = .ok (.lcmp, 1) := by decide +kernel
theorem dL_works_533 : decode cL_works 533 = .ok (.ifCond .ge 11, 3) := by decide +kernel
theorem dL_works_536 : decode cL_works 536 = .ok (.lload_n 3, 1) := by decide +kernel
theorem dL_works_537 : decode cL_works 537 = .ok (.lneg, 1) := by decide +kernel
theorem dL_works_538 : decode cL_works 538 = .ok (.lload 9, 2) := by decide +kernel
theorem dL_works_540 : decode cL_works 540 = .ok (.lmul, 1) := by decide +kernel
theorem dL_works_541 : decode cL_works 541 = .ok (.goto 7, 3) := by decide +kernel
theorem dL_works_544 : decode cL_works 544 = .ok (.lload_n 3, 1) := by decide +kernel
theorem dL_works_545 : decode cL_works 545 = .ok (.lload 9, 2) := by decide +kernel
theorem dL_works_547 : decode cL_works 547 = .ok (.lmul, 1) := by decide +kernel
theorem dL_works_548 : decode cL_works 548 = .ok (.lload 7, 2) := by decide +kernel
theorem dL_works_550 : decode cL_works 550 = .ok (.lconst 0, 1) := by decide +kernel
theorem dL_works_551 : decode cL_works 551 = .ok (.lcmp, 1) := by decide +kernel
theorem dL_works_552 : decode cL_works 552 = .ok (.ifCond .ge 12, 3) := by decide +kernel
theorem dL_works_555 : decode cL_works 555 = .ok (.lload 5, 2) := by decide +kernel
theorem dL_works_557 : decode cL_works 557 = .ok (.lneg, 1) := by decide +kernel
theorem dL_works_558 : decode cL_works 558 = .ok (.lload 7, 2) := by decide +kernel
theorem dL_works_560 : decode cL_works 560 = .ok (.lmul, 1) := by decide +kernel
theorem dL_works_561 : decode cL_works 561 = .ok (.goto 8, 3) := by decide +kernel
theorem dL_works_564 : decode cL_works 564 = .ok (.lload 5, 2) := by decide +kernel
theorem dL_works_566 : decode cL_works 566 = .ok (.lload 7, 2) := by decide +kernel
theorem dL_works_568 : decode cL_works 568 = .ok (.lmul, 1) := by decide +kernel
theorem dL_works_569 : decode cL_works 569 = .ok (.invokevirtual 142, 3) := by decide +kernel
theorem dL_works_572 : decode cL_works 572 = .ok (.goto 354, 3) := by decide +kernel
theorem dL_works_575 : decode cL_works 575 = .ok (.aload_n 0, 1) := by decide +kernel
theorem dL_works_576 : decode cL_works 576 = .ok (.iload_n 1, 1) := by decide +kernel
theorem dL_works_577 : decode cL_works 577 = .ok (.lload_n 3, 1) := by decide +kernel
theorem dL_works_578 : decode cL_works 578 = .ok (.lload 9, 2) := by decide +kernel
theorem dL_works_580 : decode cL_works 580 = .ok (.lmul, 1) := by decide +kernel
theorem dL_works_581 : decode cL_works 581 = .ok (.lload 7, 2) := by decide +kernel
theorem dL_works_583 : decode cL_works 583 = .ok (.lload 5, 2) := by decide +kernel
theorem dL_works_585 : decode cL_works 585 = .ok (.lmul, 1) := by decide +kernel
theorem dL_works_586 : decode cL_works 586 = .ok (.lload 7, 2) := by decide +kernel
theorem dL_works_588 : decode cL_works 588 = .ok (.lconst 0, 1) := by decide +kernel
theorem dL_works_589 : decode cL_works 589 = .ok (.lcmp, 1) := by decide +kernel
theorem dL_works_590 : decode cL_works 590 = .ok (.ifCond .le 18, 3) := by decide +kernel
theorem dL_works_593 : decode cL_works 593 = .ok (.lload_n 3, 1) := by decide +kernel
theorem dL_works_594 : decode cL_works 594 = .ok (.lload 9, 2) := by decide +kernel
theorem dL_works_596 : decode cL_works 596 = .ok (.lmul, 1) := by decide +kernel
theorem dL_works_597 : decode cL_works 597 = .ok (.lload 5, 2) := by decide +kernel
theorem dL_works_599 : decode cL_works 599 = .ok (.lload 7, 2) := by decide +kernel
theorem dL_works_601 : decode cL_works 601 = .ok (.lmul, 1) := by decide +kernel
theorem dL_works_602 : decode cL_works 602 = .ok (.invokestatic 160, 3) := by decide +kernel
theorem dL_works_605 : decode cL_works 605 = .ok (.goto 17, 3) := by decide +kernel
theorem dL_works_608 : decode cL_works 608 = .ok (.lload_n 3, 1) := by decide +kernel
theorem dL_works_609 : decode cL_works 609 = .ok (.lneg, 1) := by decide +kernel
theorem dL_works_610 : decode cL_works 610 = .ok (.lload 9, 2) := by decide +kernel
theorem dL_works_612 : decode cL_works 612 = .ok (.lmul, 1) := by decide +kernel
theorem dL_works_613 : decode cL_works 613 = .ok (.lload 5, 2) := by decide +kernel
theorem dL_works_615 : decode cL_works 615 = .ok (.lneg, 1) := by decide +kernel
theorem dL_works_616 : decode cL_works 616 = .ok (.lload 7, 2) := by decide +kernel
theorem dL_works_618 : decode cL_works 618 = .ok (.lmul, 1) := by decide +kernel
theorem dL_works_619 : decode cL_works 619 = .ok (.invokestatic 160, 3) := by decide +kernel
theorem dL_works_622 : decode cL_works 622 = .ok (.lmul, 1) := by decide +kernel
theorem dL_works_623 : decode cL_works 623 = .ok (.lsub, 1) := by decide +kernel
theorem dL_works_624 : decode cL_works 624 = .ok (.lload 5, 2) := by decide +kernel
theorem dL_works_626 : decode cL_works 626 = .ok (.lload 9, 2) := by decide +kernel
theorem dL_works_628 : decode cL_works 628 = .ok (.lmul, 1) := by decide +kernel
theorem dL_works_629 : decode cL_works 629 = .ok (.invokevirtual 142, 3) := by decide +kernel
theorem dL_works_632 : decode cL_works 632 = .ok (.goto 294, 3) := by decide +kernel
theorem dL_works_635 : decode cL_works 635 = .ok (.aload_n 0, 1) := by decide +kernel
theorem dL_works_636 : decode cL_works 636 = .ok (.iload_n 1, 1) := by decide +kernel
theorem dL_works_637 : decode cL_works 637 = .ok (.lload_n 3, 1) := by decide +kernel
theorem dL_works_638 : decode cL_works 638 = .ok (.lload 5, 2) := by decide +kernel
theorem dL_works_640 : decode cL_works 640 = .ok (.lload 7, 2) := by decide +kernel
theorem dL_works_642 : decode cL_works 642 = .ok (.invokevirtual 162, 3) := by decide +kernel
theorem dL_works_645 : decode cL_works 645 = .ok (.goto 281, 3) := by decide +kernel
theorem dL_works_648 : decode cL_works 648 = .ok (.aload_n 0, 1) := by decide +kernel
theorem dL_works_649 : decode cL_works 649 = .ok (.iload_n 1, 1) := by decide +kernel
theorem dL_works_650 : decode cL_works 650 = .ok (.lload_n 3, 1) := by decide +kernel
theorem dL_works_651 : decode cL_works 651 = .ok (.lneg, 1) := by decide +kernel
theorem dL_works_652 : decode cL_works 652 = .ok (.lload 5, 2) := by decide +kernel
theorem dL_works_654 : decode cL_works 654 = .ok (.invokevirtual 142, 3) := by decide +kernel
theorem dL_works_657 : decode cL_works 657 = .ok (.goto 269, 3) := by decide +kernel
theorem dL_works_660 : decode cL_works 660 = .ok (.aload_n 0, 1) := by decide +kernel
theorem dL_works_661 : decode cL_works 661 = .ok (.iload_n 1, 1) := by decide +kernel
theorem dL_works_662 : decode cL_works 662 = .ok (.lload_n 3, 1) := by decide +kernel
theorem dL_works_663 : decode cL_works 663 = .ok (.lload 7, 2) := by decide +kernel
theorem dL_works_665 : decode cL_works 665 = .ok (.invokestatic 53, 3) := by decide +kernel
theorem dL_works_668 : decode cL_works 668 = .ok (.lconst 1, 1) := by decide +kernel
theorem dL_works_669 : decode cL_works 669 = .ok (.invokevirtual 142, 3) := by decide +kernel
theorem dL_works_672 : decode cL_works 672 = .ok (.goto 254, 3) := by decide +kernel
theorem dL_works_675 : decode cL_works 675 = .ok (.aload_n 0, 1) := by decide +kernel
theorem dL_works_676 : decode cL_works 676 = .ok (.iload_n 1, 1) := by decide +kernel
theorem dL_works_677 : decode cL_works 677 = .ok (.lload_n 3, 1) := by decide +kernel
theorem dL_works_678 : decode cL_works 678 = .ok (.lconst 0, 1) := by decide +kernel
theorem dL_works_679 : decode cL_works 679 = .ok (.lcmp, 1) := by decide +kernel
theorem dL_works_680 : decode cL_works 680 = .ok (.ifCond .eq 10, 3) := by decide +kernel
theorem dL_works_683 : decode cL_works 683 = .ok (.lload 7, 2) := by decide +kernel
theorem dL_works_685 : decode cL_works 685 = .ok (.lconst 0, 1) := by decide +kernel
theorem dL_works_686 : decode cL_works 686 = .ok (.lcmp, 1) := by decide +kernel
theorem dL_works_687 : decode cL_works 687 = .ok (.ifCond .ne 7, 3) := by decide +kernel
theorem dL_works_690 : decode cL_works 690 = .ok (.lconst 0, 1) := by decide +kernel
theorem dL_works_691 : decode cL_works 691 = .ok (.goto 17, 3) := by decide +kernel
theorem dL_works_694 : decode cL_works 694 = .ok (.lload_n 3, 1) := by decide +kernel
theorem dL_works_695 : decode cL_works 695 = .ok (.lload_n 3, 1) := by decide +kernel
theorem dL_works_696 : decode cL_works 696 = .ok (.lload 7, 2) := by decide +kernel
theorem dL_works_698 : decode cL_works 698 = .ok (.invokestatic 53, 3) := by decide +kernel
theorem dL_works_701 : decode cL_works 701 = .ok (.ldiv, 1) := by decide +kernel
theorem dL_works_702 : decode cL_works 702 = .ok (.lload 7, 2) := by decide +kernel
theorem dL_works_704 : decode cL_works 704 = .ok (.lmul, 1) := by decide +kernel
theorem dL_works_705 : decode cL_works 705 = .ok (.invokestatic 47, 3) := by decide +kernel
theorem dL_works_708 : decode cL_works 708 = .ok (.lconst 1, 1) := by decide +kernel
theorem dL_works_709 : decode cL_works 709 = .ok (.invokevirtual 142, 3) := by decide +kernel
theorem dL_works_712 : decode cL_works 712 = .ok (.goto 214, 3) := by decide +kernel
theorem dL_works_715 : decode cL_works 715 = .ok (.aload_n 0, 1) := by decide +kernel
theorem dL_works_716 : decode cL_works 716 = .ok (.iload_n 1, 1) := by decide +kernel
theorem dL_works_717 : decode cL_works 717 = .ok (.lload 11, 2) := by decide +kernel
theorem dL_works_719 : decode cL_works 719 = .ok (.lconst 1, 1) := by decide +kernel
theorem dL_works_720 : decode cL_works 720 = .ok (.invokevirtual 142, 3) := by decide +kernel
theorem dL_works_723 : decode cL_works 723 = .ok (.goto 203, 3) := by decide +kernel
theorem dL_works_726 : decode cL_works 726 = .ok (.aload_n 0, 1) := by decide +kernel
theorem dL_works_727 : decode cL_works 727 = .ok (.iload_n 1, 1) := by decide +kernel
theorem dL_works_728 : decode cL_works 728 = .ok (.lload 13, 2) := by decide +kernel
theorem dL_works_730 : decode cL_works 730 = .ok (.lconst 0, 1) := by decide +kernel
theorem dL_works_731 : decode cL_works 731 = .ok (.lcmp, 1) := by decide +kernel
theorem dL_works_732 : decode cL_works 732 = .ok (.ifCond .ne 8, 3) := by decide +kernel
theorem dL_works_735 : decode cL_works 735 = .ok (.lload 11, 2) := by decide +kernel
theorem dL_works_737 : decode cL_works 737 = .ok (.goto 7, 3) := by decide +kernel
theorem dL_works_740 : decode cL_works 740 = .ok (.lload 11, 2) := by decide +kernel
theorem dL_works_742 : decode cL_works 742 = .ok (.lconst 1, 1) := by decide +kernel
theorem dL_works_743 : decode cL_works 743 = .ok (.ladd, 1) := by decide +kernel
theorem dL_works_744 : decode cL_works 744 = .ok (.lconst 1, 1) := by decide +kernel
theorem dL_works_745 : decode cL_works 745 = .ok (.invokevirtual 142, 3) := by decide +kernel
theorem dL_works_748 : decode cL_works 748 = .ok (.goto 178, 3) := by decide +kernel
theorem dL_works_751 : decode cL_works 751 = .ok (.aload_n 0, 1) := by decide +kernel
theorem dL_works_752 : decode cL_works 752 = .ok (.iload_n 1, 1) := by decide +kernel
theorem dL_works_753 : decode cL_works 753 = .ok (.ldc2_w 166, 3) := by decide +kernel
theorem dL_works_756 : decode cL_works 756 = .ok (.lload 13, 2) := by decide +kernel
theorem dL_works_758 : decode cL_works 758 = .ok (.lmul, 1) := by decide +kernel
theorem dL_works_759 : decode cL_works 759 = .ok (.lload 5, 2) := by decide +kernel
theorem dL_works_761 : decode cL_works 761 = .ok (.lcmp, 1) := by decide +kernel
theorem dL_works_762 : decode cL_works 762 = .ok (.ifCond .gt 26, 3) := by decide +kernel
theorem dL_works_765 : decode cL_works 765 = .ok (.ldc2_w 166, 3) := by decide +kernel
theorem dL_works_768 : decode cL_works 768 = .ok (.lload 13, 2) := by decide +kernel
theorem dL_works_770 : decode cL_works 770 = .ok (.lmul, 1) := by decide +kernel
theorem dL_works_771 : decode cL_works 771 = .ok (.lload 5, 2) := by decide +kernel
theorem dL_works_773 : decode cL_works 773 = .ok (.lcmp, 1) := by decide +kernel
theorem dL_works_774 : decode cL_works 774 = .ok (.ifCond .ne 21, 3) := by decide +kernel
theorem dL_works_777 : decode cL_works 777 = .ok (.lload 11, 2) := by decide +kernel
theorem dL_works_779 : decode cL_works 779 = .ok (.ldc2_w 166, 3) := by decide +kernel
theorem dL_works_782 : decode cL_works 782 = .ok (.lrem, 1) := by decide +kernel
theorem dL_works_783 : decode cL_works 783 = .ok (.lconst 0, 1) := by decide +kernel
theorem dL_works_784 : decode cL_works 784 = .ok (.lcmp, 1) := by decide +kernel
theorem dL_works_785 : decode cL_works 785 = .ok (.ifCond .eq 10, 3) := by decide +kernel
theorem dL_works_788 : decode cL_works 788 = .ok (.lload 11, 2) := by decide +kernel
theorem dL_works_790 : decode cL_works 790 = .ok (.lconst 1, 1) := by decide +kernel
theorem dL_works_791 : decode cL_works 791 = .ok (.ladd, 1) := by decide +kernel
theorem dL_works_792 : decode cL_works 792 = .ok (.goto 5, 3) := by decide +kernel
theorem dL_works_795 : decode cL_works 795 = .ok (.lload 11, 2) := by decide +kernel
theorem dL_works_797 : decode cL_works 797 = .ok (.lconst 1, 1) := by decide +kernel
theorem dL_works_798 : decode cL_works 798 = .ok (.invokevirtual 142, 3) := by decide +kernel
theorem dL_works_801 : decode cL_works 801 = .ok (.goto 125, 3) := by decide +kernel
theorem dL_works_804 : decode cL_works 804 = .ok (.aload_n 0, 1) := by decide +kernel
theorem dL_works_805 : decode cL_works 805 = .ok (.iload_n 1, 1) := by decide +kernel
theorem dL_works_806 : decode cL_works 806 = .ok (.lload_n 3, 1) := by decide +kernel
theorem dL_works_807 : decode cL_works 807 = .ok (.invokestatic 47, 3) := by decide +kernel
theorem dL_works_810 : decode cL_works 810 = .ok (.lload 5, 2) := by decide +kernel
theorem dL_works_812 : decode cL_works 812 = .ok (.invokevirtual 142, 3) := by decide +kernel
theorem dL_works_815 : decode cL_works 815 = .ok (.goto 111, 3) := by decide +kernel
theorem dL_works_818 : decode cL_works 818 = .ok (.aload_n 0, 1) := by decide +kernel
theorem dL_works_819 : decode cL_works 819 = .ok (.iload_n 1, 1) := by decide +kernel
theorem dL_works_820 : decode cL_works 820 = .ok (.lload_n 3, 1) := by decide +kernel
theorem dL_works_821 : decode cL_works 821 = .ok (.lload 7, 2) := by decide +kernel
theorem dL_works_823 : decode cL_works 823 = .ok (.ladd, 1) := by decide +kernel
theorem dL_works_824 : decode cL_works 824 = .ok (.lload 5, 2) := by decide +kernel
theorem dL_works_826 : decode cL_works 826 = .ok (.lload 9, 2) := by decide +kernel
theorem dL_works_828 : decode cL_works 828 = .ok (.ladd, 1) := by decide +kernel
theorem dL_works_829 : decode cL_works 829 = .ok (.invokevirtual 142, 3) := by decide +kernel
theorem dL_works_832 : decode cL_works 832 = .ok (.goto 94, 3) := by decide +kernel
theorem dL_works_835 : decode cL_works 835 = .ok (.aload_n 0, 1) := by decide +kernel
theorem dL_works_836 : decode cL_works 836 = .ok (.iload_n 1, 1) := by decide +kernel
theorem dL_works_837 : decode cL_works 837 = .ok (.lload_n 3, 1) := by decide +kernel
theorem dL_works_838 : decode cL_works 838 = .ok (.lconst 1, 1) := by decide +kernel
theorem dL_works_839 : decode cL_works 839 = .ok (.invokevirtual 142, 3) := by decide +kernel
theorem dL_works_842 : decode cL_works 842 = .ok (.goto 84, 3) := by decide +kernel
theorem dL_works_845 : decode cL_works 845 = .ok (.aload_n 0, 1) := by decide +kernel
theorem dL_works_846 : decode cL_works 846 = .ok (.iload_n 1, 1) := by decide +kernel
theorem dL_works_847 : decode cL_works 847 = .ok (.lload 5, 2) := by decide +kernel
theorem dL_works_849 : decode cL_works 849 = .ok (.lconst 1, 1) := by decide +kernel
theorem dL_works_850 : decode cL_works 850 = .ok (.invokevirtual 142, 3) := by decide +kernel
theorem dL_works_853 : decode cL_works 853 = .ok (.goto 73, 3) := by decide +kernel
theorem dL_works_856 : decode cL_works 856 = .ok (.lload_n 3, 1) := by decide +kernel
theorem dL_works_857 : decode cL_works 857 = .ok (.lload 9, 2) := by decide +kernel
theorem dL_works_859 : decode cL_works 859 = .ok (.lmul, 1) := by decide +kernel
theorem dL_works_860 : decode cL_works 860 = .ok (.lload 7, 2) := by decide +kernel
theorem dL_works_862 : decode cL_works 862 = .ok (.lload 5, 2) := by decide +kernel
theorem dL_works_864 : decode cL_works 864 = .ok (.lmul, 1) := by decide +kernel
theorem dL_works_865 : decode cL_works 865 = .ok (.lcmp, 1) := by decide +kernel
theorem dL_works_866 : decode cL_works 866 = .ok (.ifCond .ge 7, 3) := by decide +kernel
theorem dL_works_869 : decode cL_works 869 = .ok (.iconst 1, 1) := by decide +kernel
theorem dL_works_870 : decode cL_works 870 = .ok (.goto 4, 3) := by decide +kernel
theorem dL_works_873 : decode cL_works 873 = .ok (.iconst 0, 1) := by decide +kernel
theorem dL_works_874 : decode cL_works 874 = .ok (.istore 15, 2) := by decide +kernel
theorem dL_works_876 : decode cL_works 876 = .ok (.aload_n 0, 1) := by decide +kernel
theorem dL_works_877 : decode cL_works 877 = .ok (.iload_n 1, 1) := by decide +kernel
theorem dL_works_878 : decode cL_works 878 = .ok (.iload 15, 2) := by decide +kernel
theorem dL_works_880 : decode cL_works 880 = .ok (.iload_n 2, 1) := by decide +kernel
theorem dL_works_881 : decode cL_works 881 = .ok (.bipush 19, 2) := by decide +kernel
theorem dL_works_883 : decode cL_works 883 = .ok (.if_icmp .ne 7, 3) := by decide +kernel
theorem dL_works_886 : decode cL_works 886 = .ok (.iconst 1, 1) := by decide +kernel
theorem dL_works_887 : decode cL_works 887 = .ok (.goto 4, 3) := by decide +kernel
theorem dL_works_890 : decode cL_works 890 = .ok (.iconst 0, 1) := by decide +kernel
theorem dL_works_891 : decode cL_works 891 = .ok (.if_icmp .ne 7, 3) := by decide +kernel
theorem dL_works_894 : decode cL_works 894 = .ok (.lload_n 3, 1) := by decide +kernel
theorem dL_works_895 : decode cL_works 895 = .ok (.goto 5, 3) := by decide +kernel
theorem dL_works_898 : decode cL_works 898 = .ok (.lload 7, 2) := by decide +kernel
theorem dL_works_900 : decode cL_works 900 = .ok (.iload 15, 2) := by decide +kernel
theorem dL_works_902 : decode cL_works 902 = .ok (.iload_n 2, 1) := by decide +kernel
theorem dL_works_903 : decode cL_works 903 = .ok (.bipush 19, 2) := by decide +kernel
theorem dL_works_905 : decode cL_works 905 = .ok (.if_icmp .ne 7, 3) := by decide +kernel
theorem dL_works_908 : decode cL_works 908 = .ok (.iconst 1, 1) := by decide +kernel
theorem dL_works_909 : decode cL_works 909 = .ok (.goto 4, 3) := by decide +kernel
theorem dL_works_912 : decode cL_works 912 = .ok (.iconst 0, 1) := by decide +kernel
theorem dL_works_913 : decode cL_works 913 = .ok (.if_icmp .ne 8, 3) := by decide +kernel
theorem dL_works_916 : decode cL_works 916 = .ok (.lload 5, 2) := by decide +kernel
theorem dL_works_918 : decode cL_works 918 = .ok (.goto 5, 3) := by decide +kernel
theorem dL_works_921 : decode cL_works 921 = .ok (.lload 9, 2) := by decide +kernel
theorem dL_works_923 : decode cL_works 923 = .ok (.invokevirtual 142, 3) := by decide +kernel
theorem dL_works_926 : decode cL_works 926 = .ok (.iconst 1, 1) := by decide +kernel
theorem dL_works_927 : decode cL_works 927 = .ok (.ireturn, 1) := by decide +kernel
theorem dL_powers_0 : decode cL_powers 0 = .ok (.lload 6, 2) := by decide +kernel
theorem dL_powers_2 : decode cL_powers 2 = .ok (.lconst 0, 1) := by decide +kernel
theorem dL_powers_3 : decode cL_powers 3 = .ok (.lcmp, 1) := by decide +kernel
theorem dL_powers_4 : decode cL_powers 4 = .ok (.ifCond .ge 20, 3) := by decide +kernel
theorem dL_powers_7 : decode cL_powers 7 = .ok (.lload_n 2, 1) := by decide +kernel
theorem dL_powers_8 : decode cL_powers 8 = .ok (.lconst 0, 1) := by decide +kernel
theorem dL_powers_9 : decode cL_powers 9 = .ok (.lcmp, 1) := by decide +kernel
theorem dL_powers_10 : decode cL_powers 10 = .ok (.ifCond .ge 9, 3) := by decide +kernel
theorem dL_powers_13 : decode cL_powers 13 = .ok (.lload 4, 2) := by decide +kernel
theorem dL_powers_15 : decode cL_powers 15 = .ok (.lneg, 1) := by decide +kernel
theorem dL_powers_16 : decode cL_powers 16 = .ok (.goto 9, 3) := by decide +kernel
theorem dL_powers_19 : decode cL_powers 19 = .ok (.lload 4, 2) := by decide +kernel
theorem dL_powers_21 : decode cL_powers 21 = .ok (.goto 4, 3) := by decide +kernel
theorem dL_powers_24 : decode cL_powers 24 = .ok (.lload_n 2, 1) := by decide +kernel
theorem dL_powers_25 : decode cL_powers 25 = .ok (.lstore 8, 2) := by decide +kernel
theorem dL_powers_27 : decode cL_powers 27 = .ok (.lload 6, 2) := by decide +kernel
theorem dL_powers_29 : decode cL_powers 29 = .ok (.lconst 0, 1) := by decide +kernel
theorem dL_powers_30 : decode cL_powers 30 = .ok (.lcmp, 1) := by decide +kernel
theorem dL_powers_31 : decode cL_powers 31 = .ok (.ifCond .ge 10, 3) := by decide +kernel
theorem dL_powers_34 : decode cL_powers 34 = .ok (.lload_n 2, 1) := by decide +kernel
theorem dL_powers_35 : decode cL_powers 35 = .ok (.invokestatic 47, 3) := by decide +kernel
theorem dL_powers_38 : decode cL_powers 38 = .ok (.goto 5, 3) := by decide +kernel
theorem dL_powers_41 : decode cL_powers 41 = .ok (.lload 4, 2) := by decide +kernel
theorem dL_powers_43 : decode cL_powers 43 = .ok (.lstore 10, 2) := by decide +kernel
theorem dL_powers_45 : decode cL_powers 45 = .ok (.aload_n 0, 1) := by decide +kernel
theorem dL_powers_46 : decode cL_powers 46 = .ok (.getfield 29, 3) := by decide +kernel
theorem dL_powers_49 : decode cL_powers 49 = .ok (.iload_n 1, 1) := by decide +kernel
theorem dL_powers_50 : decode cL_powers 50 = .ok (.lconst 1, 1) := by decide +kernel
theorem dL_powers_51 : decode cL_powers 51 = .ok (.lastore, 1) := by decide +kernel
theorem dL_powers_52 : decode cL_powers 52 = .ok (.aload_n 0, 1) := by decide +kernel
theorem dL_powers_53 : decode cL_powers 53 = .ok (.getfield 33, 3) := by decide +kernel
theorem dL_powers_56 : decode cL_powers 56 = .ok (.iload_n 1, 1) := by decide +kernel
theorem dL_powers_57 : decode cL_powers 57 = .ok (.lconst 1, 1) := by decide +kernel
theorem dL_powers_58 : decode cL_powers 58 = .ok (.lastore, 1) := by decide +kernel
theorem dL_powers_59 : decode cL_powers 59 = .ok (.lload 6, 2) := by decide +kernel
theorem dL_powers_61 : decode cL_powers 61 = .ok (.invokestatic 47, 3) := by decide +kernel
theorem dL_powers_64 : decode cL_powers 64 = .ok (.lstore 12, 2) := by decide +kernel
theorem dL_powers_66 : decode cL_powers 66 = .ok (.lload 12, 2) := by decide +kernel
theorem dL_powers_68 : decode cL_powers 68 = .ok (.lconst 0, 1) := by decide +kernel
theorem dL_powers_69 : decode cL_powers 69 = .ok (.lcmp, 1) := by decide +kernel
theorem dL_powers_70 : decode cL_powers 70 = .ok (.ifCond .le 42, 3) := by decide +kernel
theorem dL_powers_73 : decode cL_powers 73 = .ok (.aload_n 0, 1) := by decide +kernel
theorem dL_powers_74 : decode cL_powers 74 = .ok (.getfield 59, 3) := by decide +kernel
theorem dL_powers_77 : decode cL_powers 77 = .ok (.ifCond .ne 35, 3) := by decide +kernel
theorem dL_powers_80 : decode cL_powers 80 = .ok (.aload_n 0, 1) := by decide +kernel
theorem dL_powers_81 : decode cL_powers 81 = .ok (.iload_n 1, 1) := by decide +kernel
theorem dL_powers_82 : decode cL_powers 82 = .ok (.aload_n 0, 1) := by decide +kernel
theorem dL_powers_83 : decode cL_powers 83 = .ok (.getfield 29, 3) := by decide +kernel
theorem dL_powers_86 : decode cL_powers 86 = .ok (.iload_n 1, 1) := by decide +kernel
theorem dL_powers_87 : decode cL_powers 87 = .ok (.laload, 1) := by decide +kernel
theorem dL_powers_88 : decode cL_powers 88 = .ok (.lload 8, 2) := by decide +kernel
theorem dL_powers_90 : decode cL_powers 90 = .ok (.lmul, 1) := by decide +kernel
theorem dL_powers_91 : decode cL_powers 91 = .ok (.aload_n 0, 1) := by decide +kernel
theorem dL_powers_92 : decode cL_powers 92 = .ok (.getfield 33, 3) := by decide +kernel
theorem dL_powers_95 : decode cL_powers 95 = .ok (.iload_n 1, 1) := by decide +kernel
theorem dL_powers_96 : decode cL_powers 96 = .ok (.laload, 1) := by decide +kernel
theorem dL_powers_97 : decode cL_powers 97 = .ok (.lload 10, 2) := by decide +kernel
theorem dL_powers_99 : decode cL_powers 99 = .ok (.lmul, 1) := by decide +kernel
theorem dL_powers_100 : decode cL_powers 100 = .ok (.invokevirtual 142, 3) := by decide +kernel
theorem dL_powers_103 : decode cL_powers 103 = .ok (.lload 12, 2) := by decide +kernel
theorem dL_powers_105 : decode cL_powers 105 = .ok (.lconst 1, 1) := by decide +kernel
theorem dL_powers_106 : decode cL_powers 106 = .ok (.lsub, 1) := by decide +kernel
theorem dL_powers_107 : decode cL_powers 107 = .ok (.lstore 12, 2) := by decide +kernel
theorem dL_powers_109 : decode cL_powers 109 = .ok (.goto (-43), 3) := by decide +kernel
theorem dL_powers_112 : decode cL_powers 112 = .ok (.return_, 1) := by decide +kernel
theorem dL_says_0 : decode cL_says 0 = .ok (.iconst 0, 1) := by decide +kernel
theorem dL_says_1 : decode cL_says 1 = .ok (.istore_n 2, 1) := by decide +kernel
theorem dL_says_2 : decode cL_says 2 = .ok (.iconst 0, 1) := by decide +kernel
theorem dL_says_3 : decode cL_says 3 = .ok (.istore_n 3, 1) := by decide +kernel
theorem dL_says_4 : decode cL_says 4 = .ok (.iload_n 3, 1) := by decide +kernel
theorem dL_says_5 : decode cL_says 5 = .ok (.aload_n 1, 1) := by decide +kernel
theorem dL_says_6 : decode cL_says 6 = .ok (.invokevirtual 168, 3) := by decide +kernel
theorem dL_says_9 : decode cL_says 9 = .ok (.if_icmp .ge 66, 3) := by decide +kernel
theorem dL_says_12 : decode cL_says 12 = .ok (.iconst 0, 1) := by decide +kernel
theorem dL_says_13 : decode cL_says 13 = .ok (.istore 4, 2) := by decide +kernel
theorem dL_says_15 : decode cL_says 15 = .ok (.iload_n 3, 1) := by decide +kernel
theorem dL_says_16 : decode cL_says 16 = .ok (.istore 5, 2) := by decide +kernel
theorem dL_says_18 : decode cL_says 18 = .ok (.iload 5, 2) := by decide +kernel
theorem dL_says_20 : decode cL_says 20 = .ok (.iload_n 3, 1) := by decide +kernel
theorem dL_says_21 : decode cL_says 21 = .ok (.iconst 4, 1) := by decide +kernel
theorem dL_says_22 : decode cL_says 22 = .ok (.iadd, 1) := by decide +kernel
theorem dL_says_23 : decode cL_says 23 = .ok (.if_icmp .ge 32, 3) := by decide +kernel
theorem dL_says_26 : decode cL_says 26 = .ok (.iload 5, 2) := by decide +kernel
theorem dL_says_28 : decode cL_says 28 = .ok (.aload_n 1, 1) := by decide +kernel
theorem dL_says_29 : decode cL_says 29 = .ok (.invokevirtual 168, 3) := by decide +kernel
theorem dL_says_32 : decode cL_says 32 = .ok (.if_icmp .ge 23, 3) := by decide +kernel
theorem dL_says_35 : decode cL_says 35 = .ok (.iload 4, 2) := by decide +kernel
theorem dL_says_37 : decode cL_says 37 = .ok (.bipush 8, 2) := by decide +kernel
theorem dL_says_39 : decode cL_says 39 = .ok (.ishl, 1) := by decide +kernel
theorem dL_says_40 : decode cL_says 40 = .ok (.aload_n 1, 1) := by decide +kernel
theorem dL_says_41 : decode cL_says 41 = .ok (.iload 5, 2) := by decide +kernel
theorem dL_says_43 : decode cL_says 43 = .ok (.invokevirtual 128, 3) := by decide +kernel
theorem dL_says_46 : decode cL_says 46 = .ok (.ior, 1) := by decide +kernel
theorem dL_says_47 : decode cL_says 47 = .ok (.istore 4, 2) := by decide +kernel
theorem dL_says_49 : decode cL_says 49 = .ok (.iinc 5 1, 3) := by decide +kernel
theorem dL_says_52 : decode cL_says 52 = .ok (.goto (-34), 3) := by decide +kernel
theorem dL_says_55 : decode cL_says 55 = .ok (.aload_n 0, 1) := by decide +kernel
theorem dL_says_56 : decode cL_says 56 = .ok (.getfield 10, 3) := by decide +kernel
theorem dL_says_59 : decode cL_says 59 = .ok (.iload 4, 2) := by decide +kernel
theorem dL_says_61 : decode cL_says 61 = .ok (.iconst 0, 1) := by decide +kernel
theorem dL_says_62 : decode cL_says 62 = .ok (.iconst 0, 1) := by decide +kernel
theorem dL_says_63 : decode cL_says 63 = .ok (.iconst 0, 1) := by decide +kernel
theorem dL_says_64 : decode cL_says 64 = .ok (.iconst 0, 1) := by decide +kernel
theorem dL_says_65 : decode cL_says 65 = .ok (.invokevirtual 169, 3) := by decide +kernel
theorem dL_says_68 : decode cL_says 68 = .ok (.istore_n 2, 1) := by decide +kernel
theorem dL_says_69 : decode cL_says 69 = .ok (.iinc 3 4, 3) := by decide +kernel
theorem dL_says_72 : decode cL_says 72 = .ok (.goto (-68), 3) := by decide +kernel
theorem dL_says_75 : decode cL_says 75 = .ok (.iload_n 2, 1) := by decide +kernel
theorem dL_says_76 : decode cL_says 76 = .ok (.aload_n 1, 1) := by decide +kernel
theorem dL_says_77 : decode cL_says 77 = .ok (.invokevirtual 168, 3) := by decide +kernel
theorem dL_says_80 : decode cL_says 80 = .ok (.if_icmp .ne 7, 3) := by decide +kernel
theorem dL_says_83 : decode cL_says 83 = .ok (.iconst 1, 1) := by decide +kernel
theorem dL_says_84 : decode cL_says 84 = .ok (.goto 4, 3) := by decide +kernel
theorem dL_says_87 : decode cL_says 87 = .ok (.iconst 0, 1) := by decide +kernel
theorem dL_says_88 : decode cL_says 88 = .ok (.ireturn, 1) := by decide +kernel
theorem dL_runs_0 : decode cL_runs 0 = .ok (.aload_n 0, 1) := by decide +kernel
theorem dL_runs_1 : decode cL_runs 1 = .ok (.aload_n 1, 1) := by decide +kernel
theorem dL_runs_2 : decode cL_runs 2 = .ok (.invokevirtual 172, 3) := by decide +kernel
theorem dL_runs_5 : decode cL_runs 5 = .ok (.ifCond .ne 6, 3) := by decide +kernel
theorem dL_runs_8 : decode cL_runs 8 = .ok (.bipush (-100), 2) := by decide +kernel
theorem dL_runs_10 : decode cL_runs 10 = .ok (.ireturn, 1) := by decide +kernel
theorem dL_runs_11 : decode cL_runs 11 = .ok (.aload_n 0, 1) := by decide +kernel
theorem dL_runs_12 : decode cL_runs 12 = .ok (.getfield 10, 3) := by decide +kernel
theorem dL_runs_15 : decode cL_runs 15 = .ok (.invokevirtual 176, 3) := by decide +kernel
theorem dL_runs_18 : decode cL_runs 18 = .ok (.ireturn, 1) := by decide +kernel
theorem dL_runs_19 : decode cL_runs 19 = .ok (.astore_n 2, 1) := by decide +kernel
theorem dL_runs_20 : decode cL_runs 20 = .ok (.aload_n 0, 1) := by decide +kernel
theorem dL_runs_21 : decode cL_runs 21 = .ok (.getfield 10, 3) := by decide +kernel
theorem dL_runs_24 : decode cL_runs 24 = .ok (.iconst 0, 1) := by decide +kernel
theorem dL_runs_25 : decode cL_runs 25 = .ok (.invokevirtual 181, 3) := by decide +kernel
theorem dL_runs_28 : decode cL_runs 28 = .ok (.ineg, 1) := by decide +kernel
theorem dL_runs_29 : decode cL_runs 29 = .ok (.ireturn, 1) := by decide +kernel
theorem dL_read_0 : decode cL_read 0 = .ok (.lconst 0, 1) := by decide +kernel
theorem dL_read_1 : decode cL_read 1 = .ok (.lstore_n 2, 1) := by decide +kernel
theorem dL_read_2 : decode cL_read 2 = .ok (.iconst 0, 1) := by decide +kernel
theorem dL_read_3 : decode cL_read 3 = .ok (.istore 4, 2) := by decide +kernel
theorem dL_read_5 : decode cL_read 5 = .ok (.iload 4, 2) := by decide +kernel
theorem dL_read_7 : decode cL_read 7 = .ok (.aload_n 0, 1) := by decide +kernel
theorem dL_read_8 : decode cL_read 8 = .ok (.getfield 10, 3) := by decide +kernel
theorem dL_read_11 : decode cL_read 11 = .ok (.iload_n 1, 1) := by decide +kernel
theorem dL_read_12 : decode cL_read 12 = .ok (.invokevirtual 184, 3) := by decide +kernel
theorem dL_read_15 : decode cL_read 15 = .ok (.if_icmp .ge 27, 3) := by decide +kernel
theorem dL_read_18 : decode cL_read 18 = .ok (.ldc2_w 140, 3) := by decide +kernel
theorem dL_read_21 : decode cL_read 21 = .ok (.lload_n 2, 1) := by decide +kernel
theorem dL_read_22 : decode cL_read 22 = .ok (.lmul, 1) := by decide +kernel
theorem dL_read_23 : decode cL_read 23 = .ok (.aload_n 0, 1) := by decide +kernel
theorem dL_read_24 : decode cL_read 24 = .ok (.getfield 10, 3) := by decide +kernel
theorem dL_read_27 : decode cL_read 27 = .ok (.iload_n 1, 1) := by decide +kernel
theorem dL_read_28 : decode cL_read 28 = .ok (.iload 4, 2) := by decide +kernel
theorem dL_read_30 : decode cL_read 30 = .ok (.invokevirtual 188, 3) := by decide +kernel
theorem dL_read_33 : decode cL_read 33 = .ok (.i2l, 1) := by decide +kernel
theorem dL_read_34 : decode cL_read 34 = .ok (.ladd, 1) := by decide +kernel
theorem dL_read_35 : decode cL_read 35 = .ok (.lstore_n 2, 1) := by decide +kernel
theorem dL_read_36 : decode cL_read 36 = .ok (.iinc 4 1, 3) := by decide +kernel
theorem dL_read_39 : decode cL_read 39 = .ok (.goto (-34), 3) := by decide +kernel
theorem dL_read_42 : decode cL_read 42 = .ok (.lload_n 2, 1) := by decide +kernel
theorem dL_read_43 : decode cL_read 43 = .ok (.lreturn, 1) := by decide +kernel
theorem dL_isAnswer_0 : decode cL_isAnswer 0 = .ok (.aload_n 0, 1) := by decide +kernel
theorem dL_isAnswer_1 : decode cL_isAnswer 1 = .ok (.getfield 10, 3) := by decide +kernel
theorem dL_isAnswer_4 : decode cL_isAnswer 4 = .ok (.invokevirtual 192, 3) := by decide +kernel
theorem dL_isAnswer_7 : decode cL_isAnswer 7 = .ok (.lload_n 1, 1) := by decide +kernel
theorem dL_isAnswer_8 : decode cL_isAnswer 8 = .ok (.invokestatic 195, 3) := by decide +kernel
theorem dL_isAnswer_11 : decode cL_isAnswer 11 = .ok (.if_icmp .ne 30, 3) := by decide +kernel
theorem dL_isAnswer_14 : decode cL_isAnswer 14 = .ok (.aload_n 0, 1) := by decide +kernel
theorem dL_isAnswer_15 : decode cL_isAnswer 15 = .ok (.iconst 0, 1) := by decide +kernel
theorem dL_isAnswer_16 : decode cL_isAnswer 16 = .ok (.invokevirtual 201, 3) := by decide +kernel
theorem dL_isAnswer_19 : decode cL_isAnswer 19 = .ok (.lload_n 1, 1) := by decide +kernel
theorem dL_isAnswer_20 : decode cL_isAnswer 20 = .ok (.invokestatic 47, 3) := by decide +kernel
theorem dL_isAnswer_23 : decode cL_isAnswer 23 = .ok (.lcmp, 1) := by decide +kernel
theorem dL_isAnswer_24 : decode cL_isAnswer 24 = .ok (.ifCond .ne 17, 3) := by decide +kernel
theorem dL_isAnswer_27 : decode cL_isAnswer 27 = .ok (.aload_n 0, 1) := by decide +kernel
theorem dL_isAnswer_28 : decode cL_isAnswer 28 = .ok (.iconst 1, 1) := by decide +kernel
theorem dL_isAnswer_29 : decode cL_isAnswer 29 = .ok (.invokevirtual 201, 3) := by decide +kernel
theorem dL_isAnswer_32 : decode cL_isAnswer 32 = .ok (.lload_n 3, 1) := by decide +kernel
theorem dL_isAnswer_33 : decode cL_isAnswer 33 = .ok (.lcmp, 1) := by decide +kernel
theorem dL_isAnswer_34 : decode cL_isAnswer 34 = .ok (.ifCond .ne 7, 3) := by decide +kernel
theorem dL_isAnswer_37 : decode cL_isAnswer 37 = .ok (.iconst 1, 1) := by decide +kernel
theorem dL_isAnswer_38 : decode cL_isAnswer 38 = .ok (.goto 4, 3) := by decide +kernel
theorem dL_isAnswer_41 : decode cL_isAnswer 41 = .ok (.iconst 0, 1) := by decide +kernel
theorem dL_isAnswer_42 : decode cL_isAnswer 42 = .ok (.ireturn, 1) := by decide +kernel
theorem dL_isWorked_0 : decode cL_isWorked 0 = .ok (.aload_n 0, 1) := by decide +kernel
theorem dL_isWorked_1 : decode cL_isWorked 1 = .ok (.sipush 150, 3) := by decide +kernel
theorem dL_isWorked_4 : decode cL_isWorked 4 = .ok (.putfield 65, 3) := by decide +kernel
theorem dL_isWorked_7 : decode cL_isWorked 7 = .ok (.aload_n 0, 1) := by decide +kernel
theorem dL_isWorked_8 : decode cL_isWorked 8 = .ok (.iconst 4, 1) := by decide +kernel
theorem dL_isWorked_9 : decode cL_isWorked 9 = .ok (.invokevirtual 75, 3) := by decide +kernel
theorem dL_isWorked_12 : decode cL_isWorked 12 = .ok (.istore_n 1, 1) := by decide +kernel
theorem dL_isWorked_13 : decode cL_isWorked 13 = .ok (.new 103, 3) := by decide +kernel
theorem dL_isWorked_16 : decode cL_isWorked 16 = .ok (.dup, 1) := by decide +kernel
theorem dL_isWorked_17 : decode cL_isWorked 17 = .ok (.invokespecial 205, 3) := by decide +kernel
theorem dL_isWorked_20 : decode cL_isWorked 20 = .ok (.astore_n 2, 1) := by decide +kernel
theorem dL_isWorked_21 : decode cL_isWorked 21 = .ok (.aload_n 0, 1) := by decide +kernel
theorem dL_isWorked_22 : decode cL_isWorked 22 = .ok (.aload_n 2, 1) := by decide +kernel
theorem dL_isWorked_23 : decode cL_isWorked 23 = .ok (.iload_n 1, 1) := by decide +kernel
theorem dL_isWorked_24 : decode cL_isWorked 24 = .ok (.invokevirtual 122, 3) := by decide +kernel
theorem dL_isWorked_27 : decode cL_isWorked 27 = .ok (.aload_n 2, 1) := by decide +kernel
theorem dL_isWorked_28 : decode cL_isWorked 28 = .ok (.invokevirtual 102, 3) := by decide +kernel
theorem dL_isWorked_31 : decode cL_isWorked 31 = .ok (.sipush 200, 3) := by decide +kernel
theorem dL_isWorked_34 : decode cL_isWorked 34 = .ok (.if_icmp .le 5, 3) := by decide +kernel
theorem dL_isWorked_37 : decode cL_isWorked 37 = .ok (.iconst 1, 1) := by decide +kernel
theorem dL_isWorked_38 : decode cL_isWorked 38 = .ok (.ireturn, 1) := by decide +kernel
theorem dL_isWorked_39 : decode cL_isWorked 39 = .ok (.aload_n 0, 1) := by decide +kernel
theorem dL_isWorked_40 : decode cL_isWorked 40 = .ok (.iconst 0, 1) := by decide +kernel
theorem dL_isWorked_41 : decode cL_isWorked 41 = .ok (.putfield 59, 3) := by decide +kernel
theorem dL_isWorked_44 : decode cL_isWorked 44 = .ok (.aload_n 0, 1) := by decide +kernel
theorem dL_isWorked_45 : decode cL_isWorked 45 = .ok (.iconst 0, 1) := by decide +kernel
theorem dL_isWorked_46 : decode cL_isWorked 46 = .ok (.putfield 149, 3) := by decide +kernel
theorem dL_isWorked_49 : decode cL_isWorked 49 = .ok (.aload_n 0, 1) := by decide +kernel
theorem dL_isWorked_50 : decode cL_isWorked 50 = .ok (.iload_n 1, 1) := by decide +kernel
theorem dL_isWorked_51 : decode cL_isWorked 51 = .ok (.invokevirtual 146, 3) := by decide +kernel
theorem dL_isWorked_54 : decode cL_isWorked 54 = .ok (.istore_n 3, 1) := by decide +kernel
theorem dL_isWorked_55 : decode cL_isWorked 55 = .ok (.aload_n 0, 1) := by decide +kernel
theorem dL_isWorked_56 : decode cL_isWorked 56 = .ok (.getfield 59, 3) := by decide +kernel
theorem dL_isWorked_59 : decode cL_isWorked 59 = .ok (.ifCond .eq 5, 3) := by decide +kernel
theorem dL_isWorked_62 : decode cL_isWorked 62 = .ok (.iconst 1, 1) := by decide +kernel
theorem dL_isWorked_63 : decode cL_isWorked 63 = .ok (.ireturn, 1) := by decide +kernel
theorem dL_isWorked_64 : decode cL_isWorked 64 = .ok (.aload_n 0, 1) := by decide +kernel
theorem dL_isWorked_65 : decode cL_isWorked 65 = .ok (.aload_n 2, 1) := by decide +kernel
theorem dL_isWorked_66 : decode cL_isWorked 66 = .ok (.invokevirtual 206, 3) := by decide +kernel
theorem dL_isWorked_69 : decode cL_isWorked 69 = .ok (.invokevirtual 210, 3) := by decide +kernel
theorem dL_isWorked_72 : decode cL_isWorked 72 = .ok (.istore 4, 2) := by decide +kernel
theorem dL_isWorked_74 : decode cL_isWorked 74 = .ok (.iload_n 3, 1) := by decide +kernel
theorem dL_isWorked_75 : decode cL_isWorked 75 = .ok (.ifCond .ne 55, 3) := by decide +kernel
theorem dL_isWorked_78 : decode cL_isWorked 78 = .ok (.iload 4, 2) := by decide +kernel
theorem dL_isWorked_80 : decode cL_isWorked 80 = .ok (.aload_n 0, 1) := by decide +kernel
theorem dL_isWorked_81 : decode cL_isWorked 81 = .ok (.getfield 134, 3) := by decide +kernel
theorem dL_isWorked_84 : decode cL_isWorked 84 = .ok (.ineg, 1) := by decide +kernel
theorem dL_isWorked_85 : decode cL_isWorked 85 = .ok (.if_icmp .ne 43, 3) := by decide +kernel
theorem dL_isWorked_88 : decode cL_isWorked 88 = .ok (.aload_n 0, 1) := by decide +kernel
theorem dL_isWorked_89 : decode cL_isWorked 89 = .ok (.getfield 10, 3) := by decide +kernel
theorem dL_isWorked_92 : decode cL_isWorked 92 = .ok (.iconst 1, 1) := by decide +kernel
theorem dL_isWorked_93 : decode cL_isWorked 93 = .ok (.invokevirtual 181, 3) := by decide +kernel
theorem dL_isWorked_96 : decode cL_isWorked 96 = .ok (.aload_n 0, 1) := by decide +kernel
theorem dL_isWorked_97 : decode cL_isWorked 97 = .ok (.getfield 137, 3) := by decide +kernel
theorem dL_isWorked_100 : decode cL_isWorked 100 = .ok (.if_icmp .ne 28, 3) := by decide +kernel
theorem dL_isWorked_103 : decode cL_isWorked 103 = .ok (.aload_n 0, 1) := by decide +kernel
theorem dL_isWorked_104 : decode cL_isWorked 104 = .ok (.getfield 10, 3) := by decide +kernel
theorem dL_isWorked_107 : decode cL_isWorked 107 = .ok (.invokevirtual 214, 3) := by decide +kernel
theorem dL_isWorked_110 : decode cL_isWorked 110 = .ok (.iconst (-1), 1) := by decide +kernel
theorem dL_isWorked_111 : decode cL_isWorked 111 = .ok (.if_icmp .ne 17, 3) := by decide +kernel
theorem dL_isWorked_114 : decode cL_isWorked 114 = .ok (.aload_n 0, 1) := by decide +kernel
theorem dL_isWorked_115 : decode cL_isWorked 115 = .ok (.getfield 10, 3) := by decide +kernel
theorem dL_isWorked_118 : decode cL_isWorked 118 = .ok (.invokevirtual 217, 3) := by decide +kernel
theorem dL_isWorked_121 : decode cL_isWorked 121 = .ok (.ifCond .ne 7, 3) := by decide +kernel
theorem dL_isWorked_124 : decode cL_isWorked 124 = .ok (.iconst 1, 1) := by decide +kernel
theorem dL_isWorked_125 : decode cL_isWorked 125 = .ok (.goto 4, 3) := by decide +kernel
theorem dL_isWorked_128 : decode cL_isWorked 128 = .ok (.iconst 0, 1) := by decide +kernel
theorem dL_isWorked_129 : decode cL_isWorked 129 = .ok (.ireturn, 1) := by decide +kernel
theorem dL_isWorked_130 : decode cL_isWorked 130 = .ok (.iload 4, 2) := by decide +kernel
theorem dL_isWorked_132 : decode cL_isWorked 132 = .ok (.ifCond .ne 91, 3) := by decide +kernel
theorem dL_isWorked_135 : decode cL_isWorked 135 = .ok (.aload_n 0, 1) := by decide +kernel
theorem dL_isWorked_136 : decode cL_isWorked 136 = .ok (.getfield 10, 3) := by decide +kernel
theorem dL_isWorked_139 : decode cL_isWorked 139 = .ok (.invokevirtual 220, 3) := by decide +kernel
theorem dL_isWorked_142 : decode cL_isWorked 142 = .ok (.aload_n 0, 1) := by decide +kernel
theorem dL_isWorked_143 : decode cL_isWorked 143 = .ok (.getfield 149, 3) := by decide +kernel
theorem dL_isWorked_146 : decode cL_isWorked 146 = .ok (.if_icmp .ne 77, 3) := by decide +kernel
theorem dL_isWorked_149 : decode cL_isWorked 149 = .ok (.aload_n 0, 1) := by decide +kernel
theorem dL_isWorked_150 : decode cL_isWorked 150 = .ok (.aload_n 0, 1) := by decide +kernel
theorem dL_isWorked_151 : decode cL_isWorked 151 = .ok (.getfield 29, 3) := by decide +kernel
theorem dL_isWorked_154 : decode cL_isWorked 154 = .ok (.iload_n 1, 1) := by decide +kernel
theorem dL_isWorked_155 : decode cL_isWorked 155 = .ok (.laload, 1) := by decide +kernel
theorem dL_isWorked_156 : decode cL_isWorked 156 = .ok (.aload_n 0, 1) := by decide +kernel
theorem dL_isWorked_157 : decode cL_isWorked 157 = .ok (.getfield 33, 3) := by decide +kernel
theorem dL_isWorked_160 : decode cL_isWorked 160 = .ok (.iload_n 1, 1) := by decide +kernel
theorem dL_isWorked_161 : decode cL_isWorked 161 = .ok (.laload, 1) := by decide +kernel
theorem dL_isWorked_162 : decode cL_isWorked 162 = .ok (.invokevirtual 222, 3) := by decide +kernel
theorem dL_isWorked_165 : decode cL_isWorked 165 = .ok (.ifCond .eq 58, 3) := by decide +kernel
theorem dL_isWorked_168 : decode cL_isWorked 168 = .ok (.aload_n 0, 1) := by decide +kernel
theorem dL_isWorked_169 : decode cL_isWorked 169 = .ok (.getfield 149, 3) := by decide +kernel
theorem dL_isWorked_172 : decode cL_isWorked 172 = .ok (.ifCond .eq 47, 3) := by decide +kernel
theorem dL_isWorked_175 : decode cL_isWorked 175 = .ok (.aload_n 0, 1) := by decide +kernel
theorem dL_isWorked_176 : decode cL_isWorked 176 = .ok (.getfield 10, 3) := by decide +kernel
theorem dL_isWorked_179 : decode cL_isWorked 179 = .ok (.aload_n 0, 1) := by decide +kernel
theorem dL_isWorked_180 : decode cL_isWorked 180 = .ok (.getfield 149, 3) := by decide +kernel
theorem dL_isWorked_183 : decode cL_isWorked 183 = .ok (.iconst 1, 1) := by decide +kernel
theorem dL_isWorked_184 : decode cL_isWorked 184 = .ok (.isub, 1) := by decide +kernel
theorem dL_isWorked_185 : decode cL_isWorked 185 = .ok (.invokevirtual 226, 3) := by decide +kernel
theorem dL_isWorked_188 : decode cL_isWorked 188 = .ok (.aload_n 0, 1) := by decide +kernel
theorem dL_isWorked_189 : decode cL_isWorked 189 = .ok (.getfield 29, 3) := by decide +kernel
theorem dL_isWorked_192 : decode cL_isWorked 192 = .ok (.iload_n 1, 1) := by decide +kernel
theorem dL_isWorked_193 : decode cL_isWorked 193 = .ok (.laload, 1) := by decide +kernel
theorem dL_isWorked_194 : decode cL_isWorked 194 = .ok (.invokestatic 195, 3) := by decide +kernel
theorem dL_isWorked_197 : decode cL_isWorked 197 = .ok (.if_icmp .ne 26, 3) := by decide +kernel
theorem dL_isWorked_200 : decode cL_isWorked 200 = .ok (.aload_n 0, 1) := by decide +kernel
theorem dL_isWorked_201 : decode cL_isWorked 201 = .ok (.aload_n 0, 1) := by decide +kernel
theorem dL_isWorked_202 : decode cL_isWorked 202 = .ok (.getfield 29, 3) := by decide +kernel
theorem dL_isWorked_205 : decode cL_isWorked 205 = .ok (.iload_n 1, 1) := by decide +kernel
theorem dL_isWorked_206 : decode cL_isWorked 206 = .ok (.laload, 1) := by decide +kernel
theorem dL_isWorked_207 : decode cL_isWorked 207 = .ok (.aload_n 0, 1) := by decide +kernel
theorem dL_isWorked_208 : decode cL_isWorked 208 = .ok (.getfield 33, 3) := by decide +kernel
theorem dL_isWorked_211 : decode cL_isWorked 211 = .ok (.iload_n 1, 1) := by decide +kernel
theorem dL_isWorked_212 : decode cL_isWorked 212 = .ok (.laload, 1) := by decide +kernel
theorem dL_isWorked_213 : decode cL_isWorked 213 = .ok (.invokevirtual 222, 3) := by decide +kernel
theorem dL_isWorked_216 : decode cL_isWorked 216 = .ok (.ifCond .eq 7, 3) := by decide +kernel
theorem dL_isWorked_219 : decode cL_isWorked 219 = .ok (.iconst 1, 1) := by decide +kernel
theorem dL_isWorked_220 : decode cL_isWorked 220 = .ok (.goto 4, 3) := by decide +kernel
theorem dL_isWorked_223 : decode cL_isWorked 223 = .ok (.iconst 0, 1) := by decide +kernel
theorem dL_isWorked_224 : decode cL_isWorked 224 = .ok (.ireturn, 1) := by decide +kernel
theorem dL_isNamed_0 : decode cL_isNamed 0 = .ok (.iconst 0, 1) := by decide +kernel
theorem dL_isNamed_1 : decode cL_isNamed 1 = .ok (.istore_n 1, 1) := by decide +kernel
theorem dL_isNamed_2 : decode cL_isNamed 2 = .ok (.iload_n 1, 1) := by decide +kernel
theorem dL_isNamed_3 : decode cL_isNamed 3 = .ok (.iconst 4, 1) := by decide +kernel
theorem dL_isNamed_4 : decode cL_isNamed 4 = .ok (.if_icmp .ge 214, 3) := by decide +kernel
theorem dL_isNamed_7 : decode cL_isNamed 7 = .ok (.bipush 30, 2) := by decide +kernel
theorem dL_isNamed_9 : decode cL_isNamed 9 = .ok (.iload_n 1, 1) := by decide +kernel
theorem dL_isNamed_10 : decode cL_isNamed 10 = .ok (.imul, 1) := by decide +kernel
theorem dL_isNamed_11 : decode cL_isNamed 11 = .ok (.istore_n 2, 1) := by decide +kernel
theorem dL_isNamed_12 : decode cL_isNamed 12 = .ok (.new 103, 3) := by decide +kernel
theorem dL_isNamed_15 : decode cL_isNamed 15 = .ok (.dup, 1) := by decide +kernel
theorem dL_isNamed_16 : decode cL_isNamed 16 = .ok (.invokespecial 205, 3) := by decide +kernel
theorem dL_isNamed_19 : decode cL_isNamed 19 = .ok (.astore_n 3, 1) := by decide +kernel
theorem dL_isNamed_20 : decode cL_isNamed 20 = .ok (.aload_n 3, 1) := by decide +kernel
theorem dL_isNamed_21 : decode cL_isNamed 21 = .ok (.bipush 112, 2) := by decide +kernel
theorem dL_isNamed_23 : decode cL_isNamed 23 = .ok (.iload_n 1, 1) := by decide +kernel
theorem dL_isNamed_24 : decode cL_isNamed 24 = .ok (.iadd, 1) := by decide +kernel
theorem dL_isNamed_25 : decode cL_isNamed 25 = .ok (.i2c, 1) := by decide +kernel
theorem dL_isNamed_26 : decode cL_isNamed 26 = .ok (.invokevirtual 112, 3) := by decide +kernel
theorem dL_isNamed_29 : decode cL_isNamed 29 = .ok (.bipush 61, 2) := by decide +kernel
theorem dL_isNamed_31 : decode cL_isNamed 31 = .ok (.invokevirtual 112, 3) := by decide +kernel
theorem dL_isNamed_34 : decode cL_isNamed 34 = .ok (.pop, 1) := by decide +kernel
theorem dL_isNamed_35 : decode cL_isNamed 35 = .ok (.iconst 0, 1) := by decide +kernel
theorem dL_isNamed_36 : decode cL_isNamed 36 = .ok (.istore 4, 2) := by decide +kernel
theorem dL_isNamed_38 : decode cL_isNamed 38 = .ok (.iconst 0, 1) := by decide +kernel
theorem dL_isNamed_39 : decode cL_isNamed 39 = .ok (.istore 5, 2) := by decide +kernel
theorem dL_isNamed_41 : decode cL_isNamed 41 = .ok (.iload 5, 2) := by decide +kernel
theorem dL_isNamed_43 : decode cL_isNamed 43 = .ok (.bipush 20, 2) := by decide +kernel
theorem dL_isNamed_45 : decode cL_isNamed 45 = .ok (.if_icmp .ge 73, 3) := by decide +kernel
theorem dL_isNamed_48 : decode cL_isNamed 48 = .ok (.iload 4, 2) := by decide +kernel
theorem dL_isNamed_50 : decode cL_isNamed 50 = .ok (.ifCond .ne 68, 3) := by decide +kernel
theorem dL_isNamed_53 : decode cL_isNamed 53 = .ok (.aload_n 0, 1) := by decide +kernel
theorem dL_isNamed_54 : decode cL_isNamed 54 = .ok (.iload_n 2, 1) := by decide +kernel
theorem dL_isNamed_55 : decode cL_isNamed 55 = .ok (.putfield 65, 3) := by decide +kernel
theorem dL_isNamed_58 : decode cL_isNamed 58 = .ok (.aload_n 0, 1) := by decide +kernel
theorem dL_isNamed_59 : decode cL_isNamed 59 = .ok (.getfield 36, 3) := by decide +kernel
theorem dL_isNamed_62 : decode cL_isNamed 62 = .ok (.iload_n 1, 1) := by decide +kernel
theorem dL_isNamed_63 : decode cL_isNamed 63 = .ok (.aload_n 0, 1) := by decide +kernel
theorem dL_isNamed_64 : decode cL_isNamed 64 = .ok (.iload 5, 2) := by decide +kernel
theorem dL_isNamed_66 : decode cL_isNamed 66 = .ok (.bipush 15, 2) := by decide +kernel
theorem dL_isNamed_68 : decode cL_isNamed 68 = .ok (.if_icmp .ge 7, 3) := by decide +kernel
theorem dL_isNamed_71 : decode cL_isNamed 71 = .ok (.iconst 2, 1) := by decide +kernel
theorem dL_isNamed_72 : decode cL_isNamed 72 = .ok (.goto 4, 3) := by decide +kernel
theorem dL_isNamed_75 : decode cL_isNamed 75 = .ok (.iconst 0, 1) := by decide +kernel
theorem dL_isNamed_76 : decode cL_isNamed 76 = .ok (.invokevirtual 75, 3) := by decide +kernel
theorem dL_isNamed_79 : decode cL_isNamed 79 = .ok (.iastore, 1) := by decide +kernel
theorem dL_isNamed_80 : decode cL_isNamed 80 = .ok (.aload_n 0, 1) := by decide +kernel
theorem dL_isNamed_81 : decode cL_isNamed 81 = .ok (.iconst 0, 1) := by decide +kernel
theorem dL_isNamed_82 : decode cL_isNamed 82 = .ok (.putfield 59, 3) := by decide +kernel
theorem dL_isNamed_85 : decode cL_isNamed 85 = .ok (.aload_n 0, 1) := by decide +kernel
theorem dL_isNamed_86 : decode cL_isNamed 86 = .ok (.aload_n 0, 1) := by decide +kernel
theorem dL_isNamed_87 : decode cL_isNamed 87 = .ok (.getfield 36, 3) := by decide +kernel
theorem dL_isNamed_90 : decode cL_isNamed 90 = .ok (.iload_n 1, 1) := by decide +kernel
theorem dL_isNamed_91 : decode cL_isNamed 91 = .ok (.iaload, 1) := by decide +kernel
theorem dL_isNamed_92 : decode cL_isNamed 92 = .ok (.invokevirtual 146, 3) := by decide +kernel
theorem dL_isNamed_95 : decode cL_isNamed 95 = .ok (.ifCond .eq 14, 3) := by decide +kernel
theorem dL_isNamed_98 : decode cL_isNamed 98 = .ok (.aload_n 0, 1) := by decide +kernel
theorem dL_isNamed_99 : decode cL_isNamed 99 = .ok (.getfield 59, 3) := by decide +kernel
theorem dL_isNamed_102 : decode cL_isNamed 102 = .ok (.ifCond .ne 7, 3) := by decide +kernel
theorem dL_isNamed_105 : decode cL_isNamed 105 = .ok (.iconst 1, 1) := by decide +kernel
theorem dL_isNamed_106 : decode cL_isNamed 106 = .ok (.goto 4, 3) := by decide +kernel
theorem dL_isNamed_109 : decode cL_isNamed 109 = .ok (.iconst 0, 1) := by decide +kernel
theorem dL_isNamed_110 : decode cL_isNamed 110 = .ok (.istore 4, 2) := by decide +kernel
theorem dL_isNamed_112 : decode cL_isNamed 112 = .ok (.iinc 5 1, 3) := by decide +kernel
theorem dL_isNamed_115 : decode cL_isNamed 115 = .ok (.goto (-74), 3) := by decide +kernel
theorem dL_isNamed_118 : decode cL_isNamed 118 = .ok (.iload 4, 2) := by decide +kernel
theorem dL_isNamed_120 : decode cL_isNamed 120 = .ok (.ifCond .ne 5, 3) := by decide +kernel
theorem dL_isNamed_123 : decode cL_isNamed 123 = .ok (.iconst 1, 1) := by decide +kernel
theorem dL_isNamed_124 : decode cL_isNamed 124 = .ok (.ireturn, 1) := by decide +kernel
theorem dL_isNamed_125 : decode cL_isNamed 125 = .ok (.aload_n 0, 1) := by decide +kernel
theorem dL_isNamed_126 : decode cL_isNamed 126 = .ok (.aload_n 3, 1) := by decide +kernel
theorem dL_isNamed_127 : decode cL_isNamed 127 = .ok (.aload_n 0, 1) := by decide +kernel
theorem dL_isNamed_128 : decode cL_isNamed 128 = .ok (.getfield 36, 3) := by decide +kernel
theorem dL_isNamed_131 : decode cL_isNamed 131 = .ok (.iload_n 1, 1) := by decide +kernel
theorem dL_isNamed_132 : decode cL_isNamed 132 = .ok (.iaload, 1) := by decide +kernel
theorem dL_isNamed_133 : decode cL_isNamed 133 = .ok (.invokevirtual 122, 3) := by decide +kernel
theorem dL_isNamed_136 : decode cL_isNamed 136 = .ok (.aload_n 3, 1) := by decide +kernel
theorem dL_isNamed_137 : decode cL_isNamed 137 = .ok (.invokevirtual 102, 3) := by decide +kernel
theorem dL_isNamed_140 : decode cL_isNamed 140 = .ok (.sipush 200, 3) := by decide +kernel
theorem dL_isNamed_143 : decode cL_isNamed 143 = .ok (.if_icmp .le 5, 3) := by decide +kernel
theorem dL_isNamed_146 : decode cL_isNamed 146 = .ok (.iconst 1, 1) := by decide +kernel
theorem dL_isNamed_147 : decode cL_isNamed 147 = .ok (.ireturn, 1) := by decide +kernel
theorem dL_isNamed_148 : decode cL_isNamed 148 = .ok (.aload_n 0, 1) := by decide +kernel
theorem dL_isNamed_149 : decode cL_isNamed 149 = .ok (.iload_n 1, 1) := by decide +kernel
theorem dL_isNamed_150 : decode cL_isNamed 150 = .ok (.iconst 1, 1) := by decide +kernel
theorem dL_isNamed_151 : decode cL_isNamed 151 = .ok (.iadd, 1) := by decide +kernel
theorem dL_isNamed_152 : decode cL_isNamed 152 = .ok (.putfield 72, 3) := by decide +kernel
theorem dL_isNamed_155 : decode cL_isNamed 155 = .ok (.aload_n 0, 1) := by decide +kernel
theorem dL_isNamed_156 : decode cL_isNamed 156 = .ok (.aload_n 3, 1) := by decide +kernel
theorem dL_isNamed_157 : decode cL_isNamed 157 = .ok (.invokevirtual 206, 3) := by decide +kernel
theorem dL_isNamed_160 : decode cL_isNamed 160 = .ok (.invokevirtual 210, 3) := by decide +kernel
theorem dL_isNamed_163 : decode cL_isNamed 163 = .ok (.iconst 1, 1) := by decide +kernel
theorem dL_isNamed_164 : decode cL_isNamed 164 = .ok (.if_icmp .ne 46, 3) := by decide +kernel
theorem dL_isNamed_167 : decode cL_isNamed 167 = .ok (.aload_n 0, 1) := by decide +kernel
theorem dL_isNamed_168 : decode cL_isNamed 168 = .ok (.getfield 10, 3) := by decide +kernel
theorem dL_isNamed_171 : decode cL_isNamed 171 = .ok (.invokevirtual 229, 3) := by decide +kernel
theorem dL_isNamed_174 : decode cL_isNamed 174 = .ok (.aload_n 0, 1) := by decide +kernel
theorem dL_isNamed_175 : decode cL_isNamed 175 = .ok (.getfield 72, 3) := by decide +kernel
theorem dL_isNamed_178 : decode cL_isNamed 178 = .ok (.if_icmp .ne 32, 3) := by decide +kernel
theorem dL_isNamed_181 : decode cL_isNamed 181 = .ok (.aload_n 0, 1) := by decide +kernel
theorem dL_isNamed_182 : decode cL_isNamed 182 = .ok (.aload_n 0, 1) := by decide +kernel
theorem dL_isNamed_183 : decode cL_isNamed 183 = .ok (.getfield 29, 3) := by decide +kernel
theorem dL_isNamed_186 : decode cL_isNamed 186 = .ok (.aload_n 0, 1) := by decide +kernel
theorem dL_isNamed_187 : decode cL_isNamed 187 = .ok (.getfield 36, 3) := by decide +kernel
theorem dL_isNamed_190 : decode cL_isNamed 190 = .ok (.iload_n 1, 1) := by decide +kernel
theorem dL_isNamed_191 : decode cL_isNamed 191 = .ok (.iaload, 1) := by decide +kernel
theorem dL_isNamed_192 : decode cL_isNamed 192 = .ok (.laload, 1) := by decide +kernel
theorem dL_isNamed_193 : decode cL_isNamed 193 = .ok (.aload_n 0, 1) := by decide +kernel
theorem dL_isNamed_194 : decode cL_isNamed 194 = .ok (.getfield 33, 3) := by decide +kernel
theorem dL_isNamed_197 : decode cL_isNamed 197 = .ok (.aload_n 0, 1) := by decide +kernel
theorem dL_isNamed_198 : decode cL_isNamed 198 = .ok (.getfield 36, 3) := by decide +kernel
theorem dL_isNamed_201 : decode cL_isNamed 201 = .ok (.iload_n 1, 1) := by decide +kernel
theorem dL_isNamed_202 : decode cL_isNamed 202 = .ok (.iaload, 1) := by decide +kernel
theorem dL_isNamed_203 : decode cL_isNamed 203 = .ok (.laload, 1) := by decide +kernel
theorem dL_isNamed_204 : decode cL_isNamed 204 = .ok (.invokevirtual 222, 3) := by decide +kernel
theorem dL_isNamed_207 : decode cL_isNamed 207 = .ok (.ifCond .ne 5, 3) := by decide +kernel
theorem dL_isNamed_210 : decode cL_isNamed 210 = .ok (.iconst 0, 1) := by decide +kernel
theorem dL_isNamed_211 : decode cL_isNamed 211 = .ok (.ireturn, 1) := by decide +kernel
theorem dL_isNamed_212 : decode cL_isNamed 212 = .ok (.iinc 1 1, 3) := by decide +kernel
theorem dL_isNamed_215 : decode cL_isNamed 215 = .ok (.goto (-213), 3) := by decide +kernel
theorem dL_isNamed_218 : decode cL_isNamed 218 = .ok (.aload_n 0, 1) := by decide +kernel
theorem dL_isNamed_219 : decode cL_isNamed 219 = .ok (.aload_n 0, 1) := by decide +kernel
theorem dL_isNamed_220 : decode cL_isNamed 220 = .ok (.iconst 4, 1) := by decide +kernel
theorem dL_isNamed_221 : decode cL_isNamed 221 = .ok (.invokevirtual 68, 3) := by decide +kernel
theorem dL_isNamed_224 : decode cL_isNamed 224 = .ok (.aload_n 0, 1) := by decide +kernel
theorem dL_isNamed_225 : decode cL_isNamed 225 = .ok (.bipush 30, 2) := by decide +kernel
theorem dL_isNamed_227 : decode cL_isNamed 227 = .ok (.invokevirtual 68, 3) := by decide +kernel
theorem dL_isNamed_230 : decode cL_isNamed 230 = .ok (.bipush 9, 2) := by decide +kernel
theorem dL_isNamed_232 : decode cL_isNamed 232 = .ok (.isub, 1) := by decide +kernel
theorem dL_isNamed_233 : decode cL_isNamed 233 = .ok (.invokevirtual 231, 3) := by decide +kernel
theorem dL_isNamed_236 : decode cL_isNamed 236 = .ok (.ireturn, 1) := by decide +kernel
theorem dL_isRenewed_0 : decode cL_isRenewed 0 = .ok (.aload_n 0, 1) := by decide +kernel
theorem dL_isRenewed_1 : decode cL_isRenewed 1 = .ok (.getfield 36, 3) := by decide +kernel
theorem dL_isRenewed_4 : decode cL_isRenewed 4 = .ok (.iload_n 1, 1) := by decide +kernel
theorem dL_isRenewed_5 : decode cL_isRenewed 5 = .ok (.iaload, 1) := by decide +kernel
theorem dL_isRenewed_6 : decode cL_isRenewed 6 = .ok (.istore_n 3, 1) := by decide +kernel
theorem dL_isRenewed_7 : decode cL_isRenewed 7 = .ok (.aload_n 0, 1) := by decide +kernel
theorem dL_isRenewed_8 : decode cL_isRenewed 8 = .ok (.bipush 120, 2) := by decide +kernel
theorem dL_isRenewed_10 : decode cL_isRenewed 10 = .ok (.putfield 65, 3) := by decide +kernel
theorem dL_isRenewed_13 : decode cL_isRenewed 13 = .ok (.iload_n 2, 1) := by decide +kernel
theorem dL_isRenewed_14 : decode cL_isRenewed 14 = .ok (.ifCond .ge 21, 3) := by decide +kernel
theorem dL_isRenewed_17 : decode cL_isRenewed 17 = .ok (.aload_n 0, 1) := by decide +kernel
theorem dL_isRenewed_18 : decode cL_isRenewed 18 = .ok (.bipush 8, 2) := by decide +kernel
theorem dL_isRenewed_20 : decode cL_isRenewed 20 = .ok (.aload_n 0, 1) := by decide +kernel
theorem dL_isRenewed_21 : decode cL_isRenewed 21 = .ok (.iconst 0, 1) := by decide +kernel
theorem dL_isRenewed_22 : decode cL_isRenewed 22 = .ok (.iload_n 2, 1) := by decide +kernel
theorem dL_isRenewed_23 : decode cL_isRenewed 23 = .ok (.ineg, 1) := by decide +kernel
theorem dL_isRenewed_24 : decode cL_isRenewed 24 = .ok (.iconst 0, 1) := by decide +kernel
theorem dL_isRenewed_25 : decode cL_isRenewed 25 = .ok (.invokevirtual 234, 3) := by decide +kernel
theorem dL_isRenewed_28 : decode cL_isRenewed 28 = .ok (.iconst (-1), 1) := by decide +kernel
theorem dL_isRenewed_29 : decode cL_isRenewed 29 = .ok (.invokevirtual 234, 3) := by decide +kernel
theorem dL_isRenewed_32 : decode cL_isRenewed 32 = .ok (.goto 10, 3) := by decide +kernel
theorem dL_isRenewed_35 : decode cL_isRenewed 35 = .ok (.aload_n 0, 1) := by decide +kernel
theorem dL_isRenewed_36 : decode cL_isRenewed 36 = .ok (.iconst 0, 1) := by decide +kernel
theorem dL_isRenewed_37 : decode cL_isRenewed 37 = .ok (.iload_n 2, 1) := by decide +kernel
theorem dL_isRenewed_38 : decode cL_isRenewed 38 = .ok (.iconst 0, 1) := by decide +kernel
theorem dL_isRenewed_39 : decode cL_isRenewed 39 = .ok (.invokevirtual 234, 3) := by decide +kernel
theorem dL_isRenewed_42 : decode cL_isRenewed 42 = .ok (.istore 4, 2) := by decide +kernel
theorem dL_isRenewed_44 : decode cL_isRenewed 44 = .ok (.aload_n 0, 1) := by decide +kernel
theorem dL_isRenewed_45 : decode cL_isRenewed 45 = .ok (.getfield 36, 3) := by decide +kernel
theorem dL_isRenewed_48 : decode cL_isRenewed 48 = .ok (.iload_n 1, 1) := by decide +kernel
theorem dL_isRenewed_49 : decode cL_isRenewed 49 = .ok (.iload 4, 2) := by decide +kernel
theorem dL_isRenewed_51 : decode cL_isRenewed 51 = .ok (.iastore, 1) := by decide +kernel
theorem dL_isRenewed_52 : decode cL_isRenewed 52 = .ok (.aload_n 0, 1) := by decide +kernel
theorem dL_isRenewed_53 : decode cL_isRenewed 53 = .ok (.iconst 0, 1) := by decide +kernel
theorem dL_isRenewed_54 : decode cL_isRenewed 54 = .ok (.putfield 59, 3) := by decide +kernel
theorem dL_isRenewed_57 : decode cL_isRenewed 57 = .ok (.aload_n 0, 1) := by decide +kernel
theorem dL_isRenewed_58 : decode cL_isRenewed 58 = .ok (.iload 4, 2) := by decide +kernel
theorem dL_isRenewed_60 : decode cL_isRenewed 60 = .ok (.invokevirtual 146, 3) := by decide +kernel
theorem dL_isRenewed_63 : decode cL_isRenewed 63 = .ok (.istore 5, 2) := by decide +kernel
theorem dL_isRenewed_65 : decode cL_isRenewed 65 = .ok (.iconst (-1), 1) := by decide +kernel
theorem dL_isRenewed_66 : decode cL_isRenewed 66 = .ok (.istore 6, 2) := by decide +kernel
theorem dL_isRenewed_68 : decode cL_isRenewed 68 = .ok (.iload_n 1, 1) := by decide +kernel
theorem dL_isRenewed_69 : decode cL_isRenewed 69 = .ok (.iconst 1, 1) := by decide +kernel
theorem dL_isRenewed_70 : decode cL_isRenewed 70 = .ok (.iadd, 1) := by decide +kernel
theorem dL_isRenewed_71 : decode cL_isRenewed 71 = .ok (.istore 7, 2) := by decide +kernel
theorem dL_isRenewed_73 : decode cL_isRenewed 73 = .ok (.iload 7, 2) := by decide +kernel
theorem dL_isRenewed_75 : decode cL_isRenewed 75 = .ok (.iconst 4, 1) := by decide +kernel
theorem dL_isRenewed_76 : decode cL_isRenewed 76 = .ok (.if_icmp .ge 33, 3) := by decide +kernel
theorem dL_isRenewed_79 : decode cL_isRenewed 79 = .ok (.iload 6, 2) := by decide +kernel
theorem dL_isRenewed_81 : decode cL_isRenewed 81 = .ok (.iconst (-1), 1) := by decide +kernel
theorem dL_isRenewed_82 : decode cL_isRenewed 82 = .ok (.if_icmp .ne 21, 3) := by decide +kernel
theorem dL_isRenewed_85 : decode cL_isRenewed 85 = .ok (.aload_n 0, 1) := by decide +kernel
theorem dL_isRenewed_86 : decode cL_isRenewed 86 = .ok (.aload_n 0, 1) := by decide +kernel
theorem dL_isRenewed_87 : decode cL_isRenewed 87 = .ok (.getfield 36, 3) := by decide +kernel
theorem dL_isRenewed_90 : decode cL_isRenewed 90 = .ok (.iload 7, 2) := by decide +kernel
theorem dL_isRenewed_92 : decode cL_isRenewed 92 = .ok (.iaload, 1) := by decide +kernel
theorem dL_isRenewed_93 : decode cL_isRenewed 93 = .ok (.invokevirtual 146, 3) := by decide +kernel
theorem dL_isRenewed_96 : decode cL_isRenewed 96 = .ok (.ifCond .ne 7, 3) := by decide +kernel
theorem dL_isRenewed_99 : decode cL_isRenewed 99 = .ok (.iload 7, 2) := by decide +kernel
theorem dL_isRenewed_101 : decode cL_isRenewed 101 = .ok (.istore 6, 2) := by decide +kernel
theorem dL_isRenewed_103 : decode cL_isRenewed 103 = .ok (.iinc 7 1, 3) := by decide +kernel
theorem dL_isRenewed_106 : decode cL_isRenewed 106 = .ok (.goto (-33), 3) := by decide +kernel
theorem dL_isRenewed_109 : decode cL_isRenewed 109 = .ok (.iload 5, 2) := by decide +kernel
theorem dL_isRenewed_111 : decode cL_isRenewed 111 = .ok (.ifCond .eq 14, 3) := by decide +kernel
theorem dL_isRenewed_114 : decode cL_isRenewed 114 = .ok (.aload_n 0, 1) := by decide +kernel
theorem dL_isRenewed_115 : decode cL_isRenewed 115 = .ok (.getfield 59, 3) := by decide +kernel
theorem dL_isRenewed_118 : decode cL_isRenewed 118 = .ok (.ifCond .ne 7, 3) := by decide +kernel
theorem dL_isRenewed_121 : decode cL_isRenewed 121 = .ok (.iconst 1, 1) := by decide +kernel
theorem dL_isRenewed_122 : decode cL_isRenewed 122 = .ok (.goto 4, 3) := by decide +kernel
theorem dL_isRenewed_125 : decode cL_isRenewed 125 = .ok (.iconst 0, 1) := by decide +kernel
theorem dL_isRenewed_126 : decode cL_isRenewed 126 = .ok (.istore 7, 2) := by decide +kernel
theorem dL_isRenewed_128 : decode cL_isRenewed 128 = .ok (.iload 7, 2) := by decide +kernel
theorem dL_isRenewed_130 : decode cL_isRenewed 130 = .ok (.ifCond .eq 37, 3) := by decide +kernel
theorem dL_isRenewed_133 : decode cL_isRenewed 133 = .ok (.aload_n 0, 1) := by decide +kernel
theorem dL_isRenewed_134 : decode cL_isRenewed 134 = .ok (.new 103, 3) := by decide +kernel
theorem dL_isRenewed_137 : decode cL_isRenewed 137 = .ok (.dup, 1) := by decide +kernel
theorem dL_isRenewed_138 : decode cL_isRenewed 138 = .ok (.invokespecial 205, 3) := by decide +kernel
theorem dL_isRenewed_141 : decode cL_isRenewed 141 = .ok (.bipush 112, 2) := by decide +kernel
theorem dL_isRenewed_143 : decode cL_isRenewed 143 = .ok (.iload_n 1, 1) := by decide +kernel
theorem dL_isRenewed_144 : decode cL_isRenewed 144 = .ok (.iadd, 1) := by decide +kernel
theorem dL_isRenewed_145 : decode cL_isRenewed 145 = .ok (.i2c, 1) := by decide +kernel
theorem dL_isRenewed_146 : decode cL_isRenewed 146 = .ok (.invokevirtual 112, 3) := by decide +kernel
theorem dL_isRenewed_149 : decode cL_isRenewed 149 = .ok (.ldc 238, 2) := by decide +kernel
theorem dL_isRenewed_151 : decode cL_isRenewed 151 = .ok (.invokevirtual 119, 3) := by decide +kernel
theorem dL_isRenewed_154 : decode cL_isRenewed 154 = .ok (.iload_n 2, 1) := by decide +kernel
theorem dL_isRenewed_155 : decode cL_isRenewed 155 = .ok (.invokevirtual 108, 3) := by decide +kernel
theorem dL_isRenewed_158 : decode cL_isRenewed 158 = .ok (.invokevirtual 206, 3) := by decide +kernel
theorem dL_isRenewed_161 : decode cL_isRenewed 161 = .ok (.invokevirtual 210, 3) := by decide +kernel
theorem dL_isRenewed_164 : decode cL_isRenewed 164 = .ok (.goto 4, 3) := by decide +kernel
theorem dL_isRenewed_167 : decode cL_isRenewed 167 = .ok (.iconst 0, 1) := by decide +kernel
theorem dL_isRenewed_168 : decode cL_isRenewed 168 = .ok (.istore 8, 2) := by decide +kernel
theorem dL_isRenewed_170 : decode cL_isRenewed 170 = .ok (.iload 7, 2) := by decide +kernel
theorem dL_isRenewed_172 : decode cL_isRenewed 172 = .ok (.ifCond .eq 38, 3) := by decide +kernel
theorem dL_isRenewed_175 : decode cL_isRenewed 175 = .ok (.iload 6, 2) := by decide +kernel
theorem dL_isRenewed_177 : decode cL_isRenewed 177 = .ok (.iconst (-1), 1) := by decide +kernel
theorem dL_isRenewed_178 : decode cL_isRenewed 178 = .ok (.if_icmp .ne 32, 3) := by decide +kernel
theorem dL_isRenewed_181 : decode cL_isRenewed 181 = .ok (.iload 8, 2) := by decide +kernel
theorem dL_isRenewed_183 : decode cL_isRenewed 183 = .ok (.iconst 1, 1) := by decide +kernel
theorem dL_isRenewed_184 : decode cL_isRenewed 184 = .ok (.if_icmp .ne 24, 3) := by decide +kernel
theorem dL_isRenewed_187 : decode cL_isRenewed 187 = .ok (.aload_n 0, 1) := by decide +kernel
theorem dL_isRenewed_188 : decode cL_isRenewed 188 = .ok (.aload_n 0, 1) := by decide +kernel
theorem dL_isRenewed_189 : decode cL_isRenewed 189 = .ok (.getfield 29, 3) := by decide +kernel
theorem dL_isRenewed_192 : decode cL_isRenewed 192 = .ok (.iload 4, 2) := by decide +kernel
theorem dL_isRenewed_194 : decode cL_isRenewed 194 = .ok (.laload, 1) := by decide +kernel
theorem dL_isRenewed_195 : decode cL_isRenewed 195 = .ok (.aload_n 0, 1) := by decide +kernel
theorem dL_isRenewed_196 : decode cL_isRenewed 196 = .ok (.getfield 33, 3) := by decide +kernel
theorem dL_isRenewed_199 : decode cL_isRenewed 199 = .ok (.iload 4, 2) := by decide +kernel
theorem dL_isRenewed_201 : decode cL_isRenewed 201 = .ok (.laload, 1) := by decide +kernel
theorem dL_isRenewed_202 : decode cL_isRenewed 202 = .ok (.invokevirtual 222, 3) := by decide +kernel
theorem dL_isRenewed_205 : decode cL_isRenewed 205 = .ok (.ifCond .ne 5, 3) := by decide +kernel
theorem dL_isRenewed_208 : decode cL_isRenewed 208 = .ok (.iconst 0, 1) := by decide +kernel
theorem dL_isRenewed_209 : decode cL_isRenewed 209 = .ok (.ireturn, 1) := by decide +kernel
theorem dL_isRenewed_210 : decode cL_isRenewed 210 = .ok (.iload 7, 2) := by decide +kernel
theorem dL_isRenewed_212 : decode cL_isRenewed 212 = .ok (.ifCond .eq 9, 3) := by decide +kernel
theorem dL_isRenewed_215 : decode cL_isRenewed 215 = .ok (.iload 6, 2) := by decide +kernel
theorem dL_isRenewed_217 : decode cL_isRenewed 217 = .ok (.iconst (-1), 1) := by decide +kernel
theorem dL_isRenewed_218 : decode cL_isRenewed 218 = .ok (.if_icmp .eq 86, 3) := by decide +kernel
theorem dL_isRenewed_221 : decode cL_isRenewed 221 = .ok (.aload_n 0, 1) := by decide +kernel
theorem dL_isRenewed_222 : decode cL_isRenewed 222 = .ok (.getfield 36, 3) := by decide +kernel
theorem dL_isRenewed_225 : decode cL_isRenewed 225 = .ok (.iload_n 1, 1) := by decide +kernel
theorem dL_isRenewed_226 : decode cL_isRenewed 226 = .ok (.iload_n 3, 1) := by decide +kernel
theorem dL_isRenewed_227 : decode cL_isRenewed 227 = .ok (.iastore, 1) := by decide +kernel
theorem dL_isRenewed_228 : decode cL_isRenewed 228 = .ok (.aload_n 0, 1) := by decide +kernel
theorem dL_isRenewed_229 : decode cL_isRenewed 229 = .ok (.iconst 0, 1) := by decide +kernel
theorem dL_isRenewed_230 : decode cL_isRenewed 230 = .ok (.putfield 59, 3) := by decide +kernel
theorem dL_isRenewed_233 : decode cL_isRenewed 233 = .ok (.iload_n 1, 1) := by decide +kernel
theorem dL_isRenewed_234 : decode cL_isRenewed 234 = .ok (.istore 9, 2) := by decide +kernel
theorem dL_isRenewed_236 : decode cL_isRenewed 236 = .ok (.iload 9, 2) := by decide +kernel
theorem dL_isRenewed_238 : decode cL_isRenewed 238 = .ok (.iconst 4, 1) := by decide +kernel
theorem dL_isRenewed_239 : decode cL_isRenewed 239 = .ok (.if_icmp .ge 25, 3) := by decide +kernel
theorem dL_isRenewed_242 : decode cL_isRenewed 242 = .ok (.aload_n 0, 1) := by decide +kernel
theorem dL_isRenewed_243 : decode cL_isRenewed 243 = .ok (.aload_n 0, 1) := by decide +kernel
theorem dL_isRenewed_244 : decode cL_isRenewed 244 = .ok (.getfield 36, 3) := by decide +kernel
theorem dL_isRenewed_247 : decode cL_isRenewed 247 = .ok (.iload 9, 2) := by decide +kernel
theorem dL_isRenewed_249 : decode cL_isRenewed 249 = .ok (.iaload, 1) := by decide +kernel
theorem dL_isRenewed_250 : decode cL_isRenewed 250 = .ok (.invokevirtual 146, 3) := by decide +kernel
theorem dL_isRenewed_253 : decode cL_isRenewed 253 = .ok (.ifCond .ne 5, 3) := by decide +kernel
theorem dL_isRenewed_256 : decode cL_isRenewed 256 = .ok (.iconst 0, 1) := by decide +kernel
theorem dL_isRenewed_257 : decode cL_isRenewed 257 = .ok (.ireturn, 1) := by decide +kernel
theorem dL_isRenewed_258 : decode cL_isRenewed 258 = .ok (.iinc 9 1, 3) := by decide +kernel
theorem dL_isRenewed_261 : decode cL_isRenewed 261 = .ok (.goto (-25), 3) := by decide +kernel
theorem dL_isRenewed_264 : decode cL_isRenewed 264 = .ok (.iload 7, 2) := by decide +kernel
theorem dL_isRenewed_266 : decode cL_isRenewed 266 = .ok (.ifCond .eq 38, 3) := by decide +kernel
theorem dL_isRenewed_269 : decode cL_isRenewed 269 = .ok (.iload 8, 2) := by decide +kernel
theorem dL_isRenewed_271 : decode cL_isRenewed 271 = .ok (.bipush (-9), 2) := by decide +kernel
theorem dL_isRenewed_273 : decode cL_isRenewed 273 = .ok (.if_icmp .ne 29, 3) := by decide +kernel
theorem dL_isRenewed_276 : decode cL_isRenewed 276 = .ok (.aload_n 0, 1) := by decide +kernel
theorem dL_isRenewed_277 : decode cL_isRenewed 277 = .ok (.getfield 10, 3) := by decide +kernel
theorem dL_isRenewed_280 : decode cL_isRenewed 280 = .ok (.iconst 1, 1) := by decide +kernel
theorem dL_isRenewed_281 : decode cL_isRenewed 281 = .ok (.invokevirtual 181, 3) := by decide +kernel
theorem dL_isRenewed_284 : decode cL_isRenewed 284 = .ok (.ifCond .ne 18, 3) := by decide +kernel
theorem dL_isRenewed_287 : decode cL_isRenewed 287 = .ok (.aload_n 0, 1) := by decide +kernel
theorem dL_isRenewed_288 : decode cL_isRenewed 288 = .ok (.getfield 10, 3) := by decide +kernel
theorem dL_isRenewed_291 : decode cL_isRenewed 291 = .ok (.invokevirtual 214, 3) := by decide +kernel
theorem dL_isRenewed_294 : decode cL_isRenewed 294 = .ok (.bipush 16, 2) := by decide +kernel
theorem dL_isRenewed_296 : decode cL_isRenewed 296 = .ok (.iload 6, 2) := by decide +kernel
theorem dL_isRenewed_298 : decode cL_isRenewed 298 = .ok (.iadd, 1) := by decide +kernel
theorem dL_isRenewed_299 : decode cL_isRenewed 299 = .ok (.if_icmp .eq 5, 3) := by decide +kernel
theorem dL_isRenewed_302 : decode cL_isRenewed 302 = .ok (.iconst 0, 1) := by decide +kernel
theorem dL_isRenewed_303 : decode cL_isRenewed 303 = .ok (.ireturn, 1) := by decide +kernel
theorem dL_isRenewed_304 : decode cL_isRenewed 304 = .ok (.iconst 0, 1) := by decide +kernel
theorem dL_isRenewed_305 : decode cL_isRenewed 305 = .ok (.istore 9, 2) := by decide +kernel
theorem dL_isRenewed_307 : decode cL_isRenewed 307 = .ok (.iload 9, 2) := by decide +kernel
theorem dL_isRenewed_309 : decode cL_isRenewed 309 = .ok (.iconst 4, 1) := by decide +kernel
theorem dL_isRenewed_310 : decode cL_isRenewed 310 = .ok (.if_icmp .ge 72, 3) := by decide +kernel
theorem dL_isRenewed_313 : decode cL_isRenewed 313 = .ok (.aload_n 0, 1) := by decide +kernel
theorem dL_isRenewed_314 : decode cL_isRenewed 314 = .ok (.getfield 10, 3) := by decide +kernel
theorem dL_isRenewed_317 : decode cL_isRenewed 317 = .ok (.bipush 16, 2) := by decide +kernel
theorem dL_isRenewed_319 : decode cL_isRenewed 319 = .ok (.iload 9, 2) := by decide +kernel
theorem dL_isRenewed_321 : decode cL_isRenewed 321 = .ok (.iadd, 1) := by decide +kernel
theorem dL_isRenewed_322 : decode cL_isRenewed 322 = .ok (.invokevirtual 240, 3) := by decide +kernel
theorem dL_isRenewed_325 : decode cL_isRenewed 325 = .ok (.aload_n 0, 1) := by decide +kernel
theorem dL_isRenewed_326 : decode cL_isRenewed 326 = .ok (.getfield 29, 3) := by decide +kernel
theorem dL_isRenewed_329 : decode cL_isRenewed 329 = .ok (.aload_n 0, 1) := by decide +kernel
theorem dL_isRenewed_330 : decode cL_isRenewed 330 = .ok (.getfield 36, 3) := by decide +kernel
theorem dL_isRenewed_333 : decode cL_isRenewed 333 = .ok (.iload 9, 2) := by decide +kernel
theorem dL_isRenewed_335 : decode cL_isRenewed 335 = .ok (.iaload, 1) := by decide +kernel
theorem dL_isRenewed_336 : decode cL_isRenewed 336 = .ok (.laload, 1) := by decide +kernel
theorem dL_isRenewed_337 : decode cL_isRenewed 337 = .ok (.invokestatic 195, 3) := by decide +kernel
theorem dL_isRenewed_340 : decode cL_isRenewed 340 = .ok (.if_icmp .ne 34, 3) := by decide +kernel
theorem dL_isRenewed_343 : decode cL_isRenewed 343 = .ok (.aload_n 0, 1) := by decide +kernel
theorem dL_isRenewed_344 : decode cL_isRenewed 344 = .ok (.aload_n 0, 1) := by decide +kernel
theorem dL_isRenewed_345 : decode cL_isRenewed 345 = .ok (.getfield 29, 3) := by decide +kernel
theorem dL_isRenewed_348 : decode cL_isRenewed 348 = .ok (.aload_n 0, 1) := by decide +kernel
theorem dL_isRenewed_349 : decode cL_isRenewed 349 = .ok (.getfield 36, 3) := by decide +kernel
theorem dL_isRenewed_352 : decode cL_isRenewed 352 = .ok (.iload 9, 2) := by decide +kernel
theorem dL_isRenewed_354 : decode cL_isRenewed 354 = .ok (.iaload, 1) := by decide +kernel
theorem dL_isRenewed_355 : decode cL_isRenewed 355 = .ok (.laload, 1) := by decide +kernel
theorem dL_isRenewed_356 : decode cL_isRenewed 356 = .ok (.aload_n 0, 1) := by decide +kernel
theorem dL_isRenewed_357 : decode cL_isRenewed 357 = .ok (.getfield 33, 3) := by decide +kernel
theorem dL_isRenewed_360 : decode cL_isRenewed 360 = .ok (.aload_n 0, 1) := by decide +kernel
theorem dL_isRenewed_361 : decode cL_isRenewed 361 = .ok (.getfield 36, 3) := by decide +kernel
theorem dL_isRenewed_364 : decode cL_isRenewed 364 = .ok (.iload 9, 2) := by decide +kernel
theorem dL_isRenewed_366 : decode cL_isRenewed 366 = .ok (.iaload, 1) := by decide +kernel
theorem dL_isRenewed_367 : decode cL_isRenewed 367 = .ok (.laload, 1) := by decide +kernel
theorem dL_isRenewed_368 : decode cL_isRenewed 368 = .ok (.invokevirtual 222, 3) := by decide +kernel
theorem dL_isRenewed_371 : decode cL_isRenewed 371 = .ok (.ifCond .ne 5, 3) := by decide +kernel
theorem dL_isRenewed_374 : decode cL_isRenewed 374 = .ok (.iconst 0, 1) := by decide +kernel
theorem dL_isRenewed_375 : decode cL_isRenewed 375 = .ok (.ireturn, 1) := by decide +kernel
theorem dL_isRenewed_376 : decode cL_isRenewed 376 = .ok (.iinc 9 1, 3) := by decide +kernel
theorem dL_isRenewed_379 : decode cL_isRenewed 379 = .ok (.goto (-72), 3) := by decide +kernel
theorem dL_isRenewed_382 : decode cL_isRenewed 382 = .ok (.iconst 1, 1) := by decide +kernel
theorem dL_isRenewed_383 : decode cL_isRenewed 383 = .ok (.ireturn, 1) := by decide +kernel
theorem dL_makes_0 : decode cL_makes 0 = .ok (.aload_n 0, 1) := by decide +kernel
theorem dL_makes_1 : decode cL_makes 1 = .ok (.getfield 16, 3) := by decide +kernel
theorem dL_makes_4 : decode cL_makes 4 = .ok (.aload_n 0, 1) := by decide +kernel
theorem dL_makes_5 : decode cL_makes 5 = .ok (.getfield 65, 3) := by decide +kernel
theorem dL_makes_8 : decode cL_makes 8 = .ok (.iload_n 1, 1) := by decide +kernel
theorem dL_makes_9 : decode cL_makes 9 = .ok (.iastore, 1) := by decide +kernel
theorem dL_makes_10 : decode cL_makes 10 = .ok (.aload_n 0, 1) := by decide +kernel
theorem dL_makes_11 : decode cL_makes 11 = .ok (.getfield 20, 3) := by decide +kernel
theorem dL_makes_14 : decode cL_makes 14 = .ok (.aload_n 0, 1) := by decide +kernel
theorem dL_makes_15 : decode cL_makes 15 = .ok (.getfield 65, 3) := by decide +kernel
theorem dL_makes_18 : decode cL_makes 18 = .ok (.iload_n 2, 1) := by decide +kernel
theorem dL_makes_19 : decode cL_makes 19 = .ok (.iastore, 1) := by decide +kernel
theorem dL_makes_20 : decode cL_makes 20 = .ok (.aload_n 0, 1) := by decide +kernel
theorem dL_makes_21 : decode cL_makes 21 = .ok (.getfield 23, 3) := by decide +kernel
theorem dL_makes_24 : decode cL_makes 24 = .ok (.aload_n 0, 1) := by decide +kernel
theorem dL_makes_25 : decode cL_makes 25 = .ok (.getfield 65, 3) := by decide +kernel
theorem dL_makes_28 : decode cL_makes 28 = .ok (.iload_n 3, 1) := by decide +kernel
theorem dL_makes_29 : decode cL_makes 29 = .ok (.iastore, 1) := by decide +kernel
theorem dL_makes_30 : decode cL_makes 30 = .ok (.aload_n 0, 1) := by decide +kernel
theorem dL_makes_31 : decode cL_makes 31 = .ok (.dup, 1) := by decide +kernel
theorem dL_makes_32 : decode cL_makes 32 = .ok (.getfield 65, 3) := by decide +kernel
theorem dL_makes_35 : decode cL_makes 35 = .ok (.iconst 1, 1) := by decide +kernel
theorem dL_makes_36 : decode cL_makes 36 = .ok (.iadd, 1) := by decide +kernel
theorem dL_makes_37 : decode cL_makes 37 = .ok (.putfield 65, 3) := by decide +kernel
theorem dL_makes_40 : decode cL_makes 40 = .ok (.aload_n 0, 1) := by decide +kernel
theorem dL_makes_41 : decode cL_makes 41 = .ok (.getfield 65, 3) := by decide +kernel
theorem dL_makes_44 : decode cL_makes 44 = .ok (.iconst 1, 1) := by decide +kernel
theorem dL_makes_45 : decode cL_makes 45 = .ok (.isub, 1) := by decide +kernel
theorem dL_makes_46 : decode cL_makes 46 = .ok (.ireturn, 1) := by decide +kernel
theorem dL_isLaw_0 : decode cL_isLaw 0 = .ok (.aload_n 0, 1) := by decide +kernel
theorem dL_isLaw_1 : decode cL_isLaw 1 = .ok (.aload_n 1, 1) := by decide +kernel
theorem dL_isLaw_2 : decode cL_isLaw 2 = .ok (.invokevirtual 210, 3) := by decide +kernel
theorem dL_isLaw_5 : decode cL_isLaw 5 = .ok (.ifCond .ne 17, 3) := by decide +kernel
theorem dL_isLaw_8 : decode cL_isLaw 8 = .ok (.aload_n 0, 1) := by decide +kernel
theorem dL_isLaw_9 : decode cL_isLaw 9 = .ok (.getfield 10, 3) := by decide +kernel
theorem dL_isLaw_12 : decode cL_isLaw 12 = .ok (.invokevirtual 192, 3) := by decide +kernel
theorem dL_isLaw_15 : decode cL_isLaw 15 = .ok (.ifCond .ne 7, 3) := by decide +kernel
theorem dL_isLaw_18 : decode cL_isLaw 18 = .ok (.iconst 1, 1) := by decide +kernel
theorem dL_isLaw_19 : decode cL_isLaw 19 = .ok (.goto 4, 3) := by decide +kernel
theorem dL_isLaw_22 : decode cL_isLaw 22 = .ok (.iconst 0, 1) := by decide +kernel
theorem dL_isLaw_23 : decode cL_isLaw 23 = .ok (.ireturn, 1) := by decide +kernel
theorem dL_areLaws_0 : decode cL_areLaws 0 = .ok (.iconst 0, 1) := by decide +kernel
theorem dL_areLaws_1 : decode cL_areLaws 1 = .ok (.istore_n 1, 1) := by decide +kernel
theorem dL_areLaws_2 : decode cL_areLaws 2 = .ok (.iload_n 1, 1) := by decide +kernel
theorem dL_areLaws_3 : decode cL_areLaws 3 = .ok (.iconst 3, 1) := by decide +kernel
theorem dL_areLaws_4 : decode cL_areLaws 4 = .ok (.if_icmp .ge 178, 3) := by decide +kernel
theorem dL_areLaws_7 : decode cL_areLaws 7 = .ok (.aload_n 0, 1) := by decide +kernel
theorem dL_areLaws_8 : decode cL_areLaws 8 = .ok (.iconst 3, 1) := by decide +kernel
theorem dL_areLaws_9 : decode cL_areLaws 9 = .ok (.invokevirtual 68, 3) := by decide +kernel
theorem dL_areLaws_12 : decode cL_areLaws 12 = .ok (.ifCond .ne 18, 3) := by decide +kernel
theorem dL_areLaws_15 : decode cL_areLaws 15 = .ok (.aload_n 0, 1) := by decide +kernel
theorem dL_areLaws_16 : decode cL_areLaws 16 = .ok (.sipush 2001, 3) := by decide +kernel
theorem dL_areLaws_19 : decode cL_areLaws 19 = .ok (.invokevirtual 68, 3) := by decide +kernel
theorem dL_areLaws_22 : decode cL_areLaws 22 = .ok (.sipush 1000, 3) := by decide +kernel
theorem dL_areLaws_25 : decode cL_areLaws 25 = .ok (.isub, 1) := by decide +kernel
theorem dL_areLaws_26 : decode cL_areLaws 26 = .ok (.i2l, 1) := by decide +kernel
theorem dL_areLaws_27 : decode cL_areLaws 27 = .ok (.goto 13, 3) := by decide +kernel
theorem dL_areLaws_30 : decode cL_areLaws 30 = .ok (.aload_n 0, 1) := by decide +kernel
theorem dL_areLaws_31 : decode cL_areLaws 31 = .ok (.bipush 25, 2) := by decide +kernel
theorem dL_areLaws_33 : decode cL_areLaws 33 = .ok (.invokevirtual 68, 3) := by decide +kernel
theorem dL_areLaws_36 : decode cL_areLaws 36 = .ok (.bipush 12, 2) := by decide +kernel
theorem dL_areLaws_38 : decode cL_areLaws 38 = .ok (.isub, 1) := by decide +kernel
theorem dL_areLaws_39 : decode cL_areLaws 39 = .ok (.i2l, 1) := by decide +kernel
theorem dL_areLaws_40 : decode cL_areLaws 40 = .ok (.lstore_n 2, 1) := by decide +kernel
theorem dL_areLaws_41 : decode cL_areLaws 41 = .ok (.iconst 1, 1) := by decide +kernel
theorem dL_areLaws_42 : decode cL_areLaws 42 = .ok (.aload_n 0, 1) := by decide +kernel
theorem dL_areLaws_43 : decode cL_areLaws 43 = .ok (.aload_n 0, 1) := by decide +kernel
theorem dL_areLaws_44 : decode cL_areLaws 44 = .ok (.iconst 2, 1) := by decide +kernel
theorem dL_areLaws_45 : decode cL_areLaws 45 = .ok (.invokevirtual 68, 3) := by decide +kernel
theorem dL_areLaws_48 : decode cL_areLaws 48 = .ok (.ifCond .ne 9, 3) := by decide +kernel
theorem dL_areLaws_51 : decode cL_areLaws 51 = .ok (.sipush 1000, 3) := by decide +kernel
theorem dL_areLaws_54 : decode cL_areLaws 54 = .ok (.goto 5, 3) := by decide +kernel
theorem dL_areLaws_57 : decode cL_areLaws 57 = .ok (.bipush 12, 2) := by decide +kernel
theorem dL_areLaws_59 : decode cL_areLaws 59 = .ok (.invokevirtual 68, 3) := by decide +kernel
theorem dL_areLaws_62 : decode cL_areLaws 62 = .ok (.iadd, 1) := by decide +kernel
theorem dL_areLaws_63 : decode cL_areLaws 63 = .ok (.i2l, 1) := by decide +kernel
theorem dL_areLaws_64 : decode cL_areLaws 64 = .ok (.lstore 4, 2) := by decide +kernel
theorem dL_areLaws_66 : decode cL_areLaws 66 = .ok (.lload_n 2, 1) := by decide +kernel
theorem dL_areLaws_67 : decode cL_areLaws 67 = .ok (.lload 4, 2) := by decide +kernel
theorem dL_areLaws_69 : decode cL_areLaws 69 = .ok (.invokestatic 53, 3) := by decide +kernel
theorem dL_areLaws_72 : decode cL_areLaws 72 = .ok (.lstore 6, 2) := by decide +kernel
theorem dL_areLaws_74 : decode cL_areLaws 74 = .ok (.aload_n 0, 1) := by decide +kernel
theorem dL_areLaws_75 : decode cL_areLaws 75 = .ok (.getfield 39, 3) := by decide +kernel
theorem dL_areLaws_78 : decode cL_areLaws 78 = .ok (.iconst 2, 1) := by decide +kernel
theorem dL_areLaws_79 : decode cL_areLaws 79 = .ok (.iload_n 1, 1) := by decide +kernel
theorem dL_areLaws_80 : decode cL_areLaws 80 = .ok (.imul, 1) := by decide +kernel
theorem dL_areLaws_81 : decode cL_areLaws 81 = .ok (.lload_n 2, 1) := by decide +kernel
theorem dL_areLaws_82 : decode cL_areLaws 82 = .ok (.lload 6, 2) := by decide +kernel
theorem dL_areLaws_84 : decode cL_areLaws 84 = .ok (.ldiv, 1) := by decide +kernel
theorem dL_areLaws_85 : decode cL_areLaws 85 = .ok (.lastore, 1) := by decide +kernel
theorem dL_areLaws_86 : decode cL_areLaws 86 = .ok (.aload_n 0, 1) := by decide +kernel
theorem dL_areLaws_87 : decode cL_areLaws 87 = .ok (.getfield 39, 3) := by decide +kernel
theorem dL_areLaws_90 : decode cL_areLaws 90 = .ok (.iconst 2, 1) := by decide +kernel
theorem dL_areLaws_91 : decode cL_areLaws 91 = .ok (.iload_n 1, 1) := by decide +kernel
theorem dL_areLaws_92 : decode cL_areLaws 92 = .ok (.imul, 1) := by decide +kernel
theorem dL_areLaws_93 : decode cL_areLaws 93 = .ok (.iconst 1, 1) := by decide +kernel
theorem dL_areLaws_94 : decode cL_areLaws 94 = .ok (.iadd, 1) := by decide +kernel
theorem dL_areLaws_95 : decode cL_areLaws 95 = .ok (.lload 4, 2) := by decide +kernel
theorem dL_areLaws_97 : decode cL_areLaws 97 = .ok (.lload 6, 2) := by decide +kernel
theorem dL_areLaws_99 : decode cL_areLaws 99 = .ok (.ldiv, 1) := by decide +kernel
theorem dL_areLaws_100 : decode cL_areLaws 100 = .ok (.lastore, 1) := by decide +kernel
theorem dL_areLaws_101 : decode cL_areLaws 101 = .ok (.aload_n 0, 1) := by decide +kernel
theorem dL_areLaws_102 : decode cL_areLaws 102 = .ok (.new 103, 3) := by decide +kernel
theorem dL_areLaws_105 : decode cL_areLaws 105 = .ok (.dup, 1) := by decide +kernel
theorem dL_areLaws_106 : decode cL_areLaws 106 = .ok (.invokespecial 205, 3) := by decide +kernel
theorem dL_areLaws_109 : decode cL_areLaws 109 = .ok (.bipush 97, 2) := by decide +kernel
theorem dL_areLaws_111 : decode cL_areLaws 111 = .ok (.iload_n 1, 1) := by decide +kernel
theorem dL_areLaws_112 : decode cL_areLaws 112 = .ok (.iadd, 1) := by decide +kernel
theorem dL_areLaws_113 : decode cL_areLaws 113 = .ok (.i2c, 1) := by decide +kernel
theorem dL_areLaws_114 : decode cL_areLaws 114 = .ok (.invokevirtual 112, 3) := by decide +kernel
theorem dL_areLaws_117 : decode cL_areLaws 117 = .ok (.ldc 243, 2) := by decide +kernel
theorem dL_areLaws_119 : decode cL_areLaws 119 = .ok (.invokevirtual 119, 3) := by decide +kernel
theorem dL_areLaws_122 : decode cL_areLaws 122 = .ok (.lload_n 2, 1) := by decide +kernel
theorem dL_areLaws_123 : decode cL_areLaws 123 = .ok (.invokevirtual 245, 3) := by decide +kernel
theorem dL_areLaws_126 : decode cL_areLaws 126 = .ok (.ldc 248, 2) := by decide +kernel
theorem dL_areLaws_128 : decode cL_areLaws 128 = .ok (.invokevirtual 119, 3) := by decide +kernel
theorem dL_areLaws_131 : decode cL_areLaws 131 = .ok (.lload 4, 2) := by decide +kernel
theorem dL_areLaws_133 : decode cL_areLaws 133 = .ok (.invokevirtual 245, 3) := by decide +kernel
theorem dL_areLaws_136 : decode cL_areLaws 136 = .ok (.invokevirtual 206, 3) := by decide +kernel
theorem dL_areLaws_139 : decode cL_areLaws 139 = .ok (.invokevirtual 210, 3) := by decide +kernel
theorem dL_areLaws_142 : decode cL_areLaws 142 = .ok (.iconst 1, 1) := by decide +kernel
theorem dL_areLaws_143 : decode cL_areLaws 143 = .ok (.if_icmp .ne 31, 3) := by decide +kernel
theorem dL_areLaws_146 : decode cL_areLaws 146 = .ok (.aload_n 0, 1) := by decide +kernel
theorem dL_areLaws_147 : decode cL_areLaws 147 = .ok (.lload_n 2, 1) := by decide +kernel
theorem dL_areLaws_148 : decode cL_areLaws 148 = .ok (.lload 6, 2) := by decide +kernel
theorem dL_areLaws_150 : decode cL_areLaws 150 = .ok (.ldiv, 1) := by decide +kernel
theorem dL_areLaws_151 : decode cL_areLaws 151 = .ok (.lload 4, 2) := by decide +kernel
theorem dL_areLaws_153 : decode cL_areLaws 153 = .ok (.lload 6, 2) := by decide +kernel
theorem dL_areLaws_155 : decode cL_areLaws 155 = .ok (.ldiv, 1) := by decide +kernel
theorem dL_areLaws_156 : decode cL_areLaws 156 = .ok (.invokevirtual 222, 3) := by decide +kernel
theorem dL_areLaws_159 : decode cL_areLaws 159 = .ok (.ifCond .eq 15, 3) := by decide +kernel
theorem dL_areLaws_162 : decode cL_areLaws 162 = .ok (.aload_n 0, 1) := by decide +kernel
theorem dL_areLaws_163 : decode cL_areLaws 163 = .ok (.getfield 10, 3) := by decide +kernel
theorem dL_areLaws_166 : decode cL_areLaws 166 = .ok (.iload_n 1, 1) := by decide +kernel
theorem dL_areLaws_167 : decode cL_areLaws 167 = .ok (.invokevirtual 250, 3) := by decide +kernel
theorem dL_areLaws_170 : decode cL_areLaws 170 = .ok (.iconst (-1), 1) := by decide +kernel
theorem dL_areLaws_171 : decode cL_areLaws 171 = .ok (.if_icmp .ge 5, 3) := by decide +kernel
theorem dL_areLaws_174 : decode cL_areLaws 174 = .ok (.iconst 0, 1) := by decide +kernel
theorem dL_areLaws_175 : decode cL_areLaws 175 = .ok (.ireturn, 1) := by decide +kernel
theorem dL_areLaws_176 : decode cL_areLaws 176 = .ok (.iinc 1 1, 3) := by decide +kernel
theorem dL_areLaws_179 : decode cL_areLaws 179 = .ok (.goto (-177), 3) := by decide +kernel
theorem dL_areLaws_182 : decode cL_areLaws 182 = .ok (.aload_n 0, 1) := by decide +kernel
theorem dL_areLaws_183 : decode cL_areLaws 183 = .ok (.ldc 253, 2) := by decide +kernel
theorem dL_areLaws_185 : decode cL_areLaws 185 = .ok (.invokevirtual 255, 3) := by decide +kernel
theorem dL_areLaws_188 : decode cL_areLaws 188 = .ok (.ifCond .eq 53, 3) := by decide +kernel
theorem dL_areLaws_191 : decode cL_areLaws 191 = .ok (.aload_n 0, 1) := by decide +kernel
theorem dL_areLaws_192 : decode cL_areLaws 192 = .ok (.ldc_w 258, 3) := by decide +kernel
theorem dL_areLaws_195 : decode cL_areLaws 195 = .ok (.invokevirtual 255, 3) := by decide +kernel
theorem dL_areLaws_198 : decode cL_areLaws 198 = .ok (.ifCond .eq 43, 3) := by decide +kernel
theorem dL_areLaws_201 : decode cL_areLaws 201 = .ok (.aload_n 0, 1) := by decide +kernel
theorem dL_areLaws_202 : decode cL_areLaws 202 = .ok (.ldc_w 260, 3) := by decide +kernel
theorem dL_areLaws_205 : decode cL_areLaws 205 = .ok (.invokevirtual 255, 3) := by decide +kernel
theorem dL_areLaws_208 : decode cL_areLaws 208 = .ok (.ifCond .eq 33, 3) := by decide +kernel
theorem dL_areLaws_211 : decode cL_areLaws 211 = .ok (.aload_n 0, 1) := by decide +kernel
theorem dL_areLaws_212 : decode cL_areLaws 212 = .ok (.ldc_w 262, 3) := by decide +kernel
theorem dL_areLaws_215 : decode cL_areLaws 215 = .ok (.invokevirtual 255, 3) := by decide +kernel
theorem dL_areLaws_218 : decode cL_areLaws 218 = .ok (.ifCond .eq 23, 3) := by decide +kernel
theorem dL_areLaws_221 : decode cL_areLaws 221 = .ok (.aload_n 0, 1) := by decide +kernel
theorem dL_areLaws_222 : decode cL_areLaws 222 = .ok (.ldc_w 264, 3) := by decide +kernel
theorem dL_areLaws_225 : decode cL_areLaws 225 = .ok (.invokevirtual 255, 3) := by decide +kernel
theorem dL_areLaws_228 : decode cL_areLaws 228 = .ok (.ifCond .eq 13, 3) := by decide +kernel
theorem dL_areLaws_231 : decode cL_areLaws 231 = .ok (.aload_n 0, 1) := by decide +kernel
theorem dL_areLaws_232 : decode cL_areLaws 232 = .ok (.ldc_w 266, 3) := by decide +kernel
theorem dL_areLaws_235 : decode cL_areLaws 235 = .ok (.invokevirtual 255, 3) := by decide +kernel
theorem dL_areLaws_238 : decode cL_areLaws 238 = .ok (.ifCond .ne 5, 3) := by decide +kernel
theorem dL_areLaws_241 : decode cL_areLaws 241 = .ok (.iconst 0, 1) := by decide +kernel
theorem dL_areLaws_242 : decode cL_areLaws 242 = .ok (.ireturn, 1) := by decide +kernel
theorem dL_areLaws_243 : decode cL_areLaws 243 = .ok (.aload_n 0, 1) := by decide +kernel
theorem dL_areLaws_244 : decode cL_areLaws 244 = .ok (.getfield 39, 3) := by decide +kernel
theorem dL_areLaws_247 : decode cL_areLaws 247 = .ok (.iconst 2, 1) := by decide +kernel
theorem dL_areLaws_248 : decode cL_areLaws 248 = .ok (.laload, 1) := by decide +kernel
theorem dL_areLaws_249 : decode cL_areLaws 249 = .ok (.lconst 0, 1) := by decide +kernel
theorem dL_areLaws_250 : decode cL_areLaws 250 = .ok (.lcmp, 1) := by decide +kernel
theorem dL_areLaws_251 : decode cL_areLaws 251 = .ok (.ifCond .eq 35, 3) := by decide +kernel
theorem dL_areLaws_254 : decode cL_areLaws 254 = .ok (.aload_n 0, 1) := by decide +kernel
theorem dL_areLaws_255 : decode cL_areLaws 255 = .ok (.ldc_w 268, 3) := by decide +kernel
theorem dL_areLaws_258 : decode cL_areLaws 258 = .ok (.invokevirtual 255, 3) := by decide +kernel
theorem dL_areLaws_261 : decode cL_areLaws 261 = .ok (.ifCond .eq 23, 3) := by decide +kernel
theorem dL_areLaws_264 : decode cL_areLaws 264 = .ok (.aload_n 0, 1) := by decide +kernel
theorem dL_areLaws_265 : decode cL_areLaws 265 = .ok (.ldc_w 270, 3) := by decide +kernel
theorem dL_areLaws_268 : decode cL_areLaws 268 = .ok (.invokevirtual 255, 3) := by decide +kernel
theorem dL_areLaws_271 : decode cL_areLaws 271 = .ok (.ifCond .eq 13, 3) := by decide +kernel
theorem dL_areLaws_274 : decode cL_areLaws 274 = .ok (.aload_n 0, 1) := by decide +kernel
theorem dL_areLaws_275 : decode cL_areLaws 275 = .ok (.ldc_w 272, 3) := by decide +kernel
theorem dL_areLaws_278 : decode cL_areLaws 278 = .ok (.invokevirtual 255, 3) := by decide +kernel
theorem dL_areLaws_281 : decode cL_areLaws 281 = .ok (.ifCond .ne 5, 3) := by decide +kernel
theorem dL_areLaws_284 : decode cL_areLaws 284 = .ok (.iconst 0, 1) := by decide +kernel
theorem dL_areLaws_285 : decode cL_areLaws 285 = .ok (.ireturn, 1) := by decide +kernel
theorem dL_areLaws_286 : decode cL_areLaws 286 = .ok (.aload_n 0, 1) := by decide +kernel
theorem dL_areLaws_287 : decode cL_areLaws 287 = .ok (.ldc_w 274, 3) := by decide +kernel
theorem dL_areLaws_290 : decode cL_areLaws 290 = .ok (.invokevirtual 255, 3) := by decide +kernel
theorem dL_areLaws_293 : decode cL_areLaws 293 = .ok (.ifCond .eq 43, 3) := by decide +kernel
theorem dL_areLaws_296 : decode cL_areLaws 296 = .ok (.aload_n 0, 1) := by decide +kernel
theorem dL_areLaws_297 : decode cL_areLaws 297 = .ok (.ldc_w 276, 3) := by decide +kernel
theorem dL_areLaws_300 : decode cL_areLaws 300 = .ok (.invokevirtual 255, 3) := by decide +kernel
theorem dL_areLaws_303 : decode cL_areLaws 303 = .ok (.ifCond .eq 33, 3) := by decide +kernel
theorem dL_areLaws_306 : decode cL_areLaws 306 = .ok (.aload_n 0, 1) := by decide +kernel
theorem dL_areLaws_307 : decode cL_areLaws 307 = .ok (.ldc_w 278, 3) := by decide +kernel
theorem dL_areLaws_310 : decode cL_areLaws 310 = .ok (.invokevirtual 255, 3) := by decide +kernel
theorem dL_areLaws_313 : decode cL_areLaws 313 = .ok (.ifCond .eq 23, 3) := by decide +kernel
theorem dL_areLaws_316 : decode cL_areLaws 316 = .ok (.aload_n 0, 1) := by decide +kernel
theorem dL_areLaws_317 : decode cL_areLaws 317 = .ok (.ldc_w 280, 3) := by decide +kernel
theorem dL_areLaws_320 : decode cL_areLaws 320 = .ok (.invokevirtual 255, 3) := by decide +kernel
theorem dL_areLaws_323 : decode cL_areLaws 323 = .ok (.ifCond .eq 13, 3) := by decide +kernel
theorem dL_areLaws_326 : decode cL_areLaws 326 = .ok (.aload_n 0, 1) := by decide +kernel
theorem dL_areLaws_327 : decode cL_areLaws 327 = .ok (.ldc_w 282, 3) := by decide +kernel
theorem dL_areLaws_330 : decode cL_areLaws 330 = .ok (.invokevirtual 255, 3) := by decide +kernel
theorem dL_areLaws_333 : decode cL_areLaws 333 = .ok (.ifCond .ne 5, 3) := by decide +kernel
theorem dL_areLaws_336 : decode cL_areLaws 336 = .ok (.iconst 0, 1) := by decide +kernel
theorem dL_areLaws_337 : decode cL_areLaws 337 = .ok (.ireturn, 1) := by decide +kernel
theorem dL_areLaws_338 : decode cL_areLaws 338 = .ok (.aload_n 0, 1) := by decide +kernel
theorem dL_areLaws_339 : decode cL_areLaws 339 = .ok (.getfield 39, 3) := by decide +kernel
theorem dL_areLaws_342 : decode cL_areLaws 342 = .ok (.iconst 0, 1) := by decide +kernel
theorem dL_areLaws_343 : decode cL_areLaws 343 = .ok (.laload, 1) := by decide +kernel
theorem dL_areLaws_344 : decode cL_areLaws 344 = .ok (.aload_n 0, 1) := by decide +kernel
theorem dL_areLaws_345 : decode cL_areLaws 345 = .ok (.getfield 39, 3) := by decide +kernel
theorem dL_areLaws_348 : decode cL_areLaws 348 = .ok (.iconst 3, 1) := by decide +kernel
theorem dL_areLaws_349 : decode cL_areLaws 349 = .ok (.laload, 1) := by decide +kernel
theorem dL_areLaws_350 : decode cL_areLaws 350 = .ok (.lmul, 1) := by decide +kernel
theorem dL_areLaws_351 : decode cL_areLaws 351 = .ok (.lstore_n 1, 1) := by decide +kernel
theorem dL_areLaws_352 : decode cL_areLaws 352 = .ok (.aload_n 0, 1) := by decide +kernel
theorem dL_areLaws_353 : decode cL_areLaws 353 = .ok (.getfield 39, 3) := by decide +kernel
theorem dL_areLaws_356 : decode cL_areLaws 356 = .ok (.iconst 2, 1) := by decide +kernel
theorem dL_areLaws_357 : decode cL_areLaws 357 = .ok (.laload, 1) := by decide +kernel
theorem dL_areLaws_358 : decode cL_areLaws 358 = .ok (.aload_n 0, 1) := by decide +kernel
theorem dL_areLaws_359 : decode cL_areLaws 359 = .ok (.getfield 39, 3) := by decide +kernel
theorem dL_areLaws_362 : decode cL_areLaws 362 = .ok (.iconst 1, 1) := by decide +kernel
theorem dL_areLaws_363 : decode cL_areLaws 363 = .ok (.laload, 1) := by decide +kernel
theorem dL_areLaws_364 : decode cL_areLaws 364 = .ok (.lmul, 1) := by decide +kernel
theorem dL_areLaws_365 : decode cL_areLaws 365 = .ok (.lstore_n 3, 1) := by decide +kernel
theorem dL_areLaws_366 : decode cL_areLaws 366 = .ok (.aload_n 0, 1) := by decide +kernel
theorem dL_areLaws_367 : decode cL_areLaws 367 = .ok (.getfield 10, 3) := by decide +kernel
theorem dL_areLaws_370 : decode cL_areLaws 370 = .ok (.iconst 0, 1) := by decide +kernel
theorem dL_areLaws_371 : decode cL_areLaws 371 = .ok (.iconst 1, 1) := by decide +kernel
theorem dL_areLaws_372 : decode cL_areLaws 372 = .ok (.invokevirtual 284, 3) := by decide +kernel
theorem dL_areLaws_375 : decode cL_areLaws 375 = .ok (.lload_n 1, 1) := by decide +kernel
theorem dL_areLaws_376 : decode cL_areLaws 376 = .ok (.lload_n 3, 1) := by decide +kernel
theorem dL_areLaws_377 : decode cL_areLaws 377 = .ok (.invokestatic 288, 3) := by decide +kernel
theorem dL_areLaws_380 : decode cL_areLaws 380 = .ok (.if_icmp .ne 20, 3) := by decide +kernel
theorem dL_areLaws_383 : decode cL_areLaws 383 = .ok (.aload_n 0, 1) := by decide +kernel
theorem dL_areLaws_384 : decode cL_areLaws 384 = .ok (.getfield 10, 3) := by decide +kernel
theorem dL_areLaws_387 : decode cL_areLaws 387 = .ok (.iconst 1, 1) := by decide +kernel
theorem dL_areLaws_388 : decode cL_areLaws 388 = .ok (.iconst 0, 1) := by decide +kernel
theorem dL_areLaws_389 : decode cL_areLaws 389 = .ok (.invokevirtual 284, 3) := by decide +kernel
theorem dL_areLaws_392 : decode cL_areLaws 392 = .ok (.lload_n 3, 1) := by decide +kernel
theorem dL_areLaws_393 : decode cL_areLaws 393 = .ok (.lload_n 1, 1) := by decide +kernel
theorem dL_areLaws_394 : decode cL_areLaws 394 = .ok (.invokestatic 288, 3) := by decide +kernel
theorem dL_areLaws_397 : decode cL_areLaws 397 = .ok (.if_icmp .eq 5, 3) := by decide +kernel
theorem dL_areLaws_400 : decode cL_areLaws 400 = .ok (.iconst 0, 1) := by decide +kernel
theorem dL_areLaws_401 : decode cL_areLaws 401 = .ok (.ireturn, 1) := by decide +kernel
theorem dL_areLaws_402 : decode cL_areLaws 402 = .ok (.aload_n 0, 1) := by decide +kernel
theorem dL_areLaws_403 : decode cL_areLaws 403 = .ok (.invokevirtual 291, 3) := by decide +kernel
theorem dL_areLaws_406 : decode cL_areLaws 406 = .ok (.ifCond .eq 21, 3) := by decide +kernel
theorem dL_areLaws_409 : decode cL_areLaws 409 = .ok (.aload_n 0, 1) := by decide +kernel
theorem dL_areLaws_410 : decode cL_areLaws 410 = .ok (.invokevirtual 295, 3) := by decide +kernel
theorem dL_areLaws_413 : decode cL_areLaws 413 = .ok (.ifCond .eq 14, 3) := by decide +kernel
theorem dL_areLaws_416 : decode cL_areLaws 416 = .ok (.aload_n 0, 1) := by decide +kernel
theorem dL_areLaws_417 : decode cL_areLaws 417 = .ok (.invokevirtual 298, 3) := by decide +kernel
theorem dL_areLaws_420 : decode cL_areLaws 420 = .ok (.ifCond .eq 7, 3) := by decide +kernel
theorem dL_areLaws_423 : decode cL_areLaws 423 = .ok (.iconst 1, 1) := by decide +kernel
theorem dL_areLaws_424 : decode cL_areLaws 424 = .ok (.goto 4, 3) := by decide +kernel
theorem dL_areLaws_427 : decode cL_areLaws 427 = .ok (.iconst 0, 1) := by decide +kernel
theorem dL_areLaws_428 : decode cL_areLaws 428 = .ok (.ireturn, 1) := by decide +kernel
theorem dL_written_0 : decode cL_written 0 = .ok (.new 103, 3) := by decide +kernel
theorem dL_written_3 : decode cL_written 3 = .ok (.dup, 1) := by decide +kernel
theorem dL_written_4 : decode cL_written 4 = .ok (.invokespecial 205, 3) := by decide +kernel
theorem dL_written_7 : decode cL_written 7 = .ok (.astore_n 2, 1) := by decide +kernel
theorem dL_written_8 : decode cL_written 8 = .ok (.aload_n 0, 1) := by decide +kernel
theorem dL_written_9 : decode cL_written 9 = .ok (.getfield 10, 3) := by decide +kernel
theorem dL_written_12 : decode cL_written 12 = .ok (.iload_n 1, 1) := by decide +kernel
theorem dL_written_13 : decode cL_written 13 = .ok (.invokevirtual 301, 3) := by decide +kernel
theorem dL_written_16 : decode cL_written 16 = .ok (.istore_n 3, 1) := by decide +kernel
theorem dL_written_17 : decode cL_written 17 = .ok (.iconst 0, 1) := by decide +kernel
theorem dL_written_18 : decode cL_written 18 = .ok (.istore 4, 2) := by decide +kernel
theorem dL_written_20 : decode cL_written 20 = .ok (.iload 4, 2) := by decide +kernel
theorem dL_written_22 : decode cL_written 22 = .ok (.iload_n 3, 1) := by decide +kernel
theorem dL_written_23 : decode cL_written 23 = .ok (.if_icmp .ge 23, 3) := by decide +kernel
theorem dL_written_26 : decode cL_written 26 = .ok (.aload_n 2, 1) := by decide +kernel
theorem dL_written_27 : decode cL_written 27 = .ok (.aload_n 0, 1) := by decide +kernel
theorem dL_written_28 : decode cL_written 28 = .ok (.getfield 10, 3) := by decide +kernel
theorem dL_written_31 : decode cL_written 31 = .ok (.iload 4, 2) := by decide +kernel
theorem dL_written_33 : decode cL_written 33 = .ok (.invokevirtual 304, 3) := by decide +kernel
theorem dL_written_36 : decode cL_written 36 = .ok (.invokevirtual 112, 3) := by decide +kernel
theorem dL_written_39 : decode cL_written 39 = .ok (.pop, 1) := by decide +kernel
theorem dL_written_40 : decode cL_written 40 = .ok (.iinc 4 1, 3) := by decide +kernel
theorem dL_written_43 : decode cL_written 43 = .ok (.goto (-23), 3) := by decide +kernel
theorem dL_written_46 : decode cL_written 46 = .ok (.aload_n 2, 1) := by decide +kernel
theorem dL_written_47 : decode cL_written 47 = .ok (.invokevirtual 206, 3) := by decide +kernel
theorem dL_written_50 : decode cL_written 50 = .ok (.areturn, 1) := by decide +kernel
theorem dL_isWritten_0 : decode cL_isWritten 0 = .ok (.iconst 0, 1) := by decide +kernel
theorem dL_isWritten_1 : decode cL_isWritten 1 = .ok (.istore_n 1, 1) := by decide +kernel
theorem dL_isWritten_2 : decode cL_isWritten 2 = .ok (.iload_n 1, 1) := by decide +kernel
theorem dL_isWritten_3 : decode cL_isWritten 3 = .ok (.iconst 3, 1) := by decide +kernel
theorem dL_isWritten_4 : decode cL_isWritten 4 = .ok (.if_icmp .ge 245, 3) := by decide +kernel
theorem dL_isWritten_7 : decode cL_isWritten 7 = .ok (.aload_n 0, 1) := by decide +kernel
theorem dL_isWritten_8 : decode cL_isWritten 8 = .ok (.getfield 10, 3) := by decide +kernel
theorem dL_isWritten_11 : decode cL_isWritten 11 = .ok (.iload_n 1, 1) := by decide +kernel
theorem dL_isWritten_12 : decode cL_isWritten 12 = .ok (.invokevirtual 307, 3) := by decide +kernel
theorem dL_isWritten_15 : decode cL_isWritten 15 = .ok (.istore_n 2, 1) := by decide +kernel
theorem dL_isWritten_16 : decode cL_isWritten 16 = .ok (.aload_n 0, 1) := by decide +kernel
theorem dL_isWritten_17 : decode cL_isWritten 17 = .ok (.iconst 0, 1) := by decide +kernel
theorem dL_isWritten_18 : decode cL_isWritten 18 = .ok (.invokevirtual 310, 3) := by decide +kernel
theorem dL_isWritten_21 : decode cL_isWritten 21 = .ok (.astore_n 3, 1) := by decide +kernel
theorem dL_isWritten_22 : decode cL_isWritten 22 = .ok (.iload_n 2, 1) := by decide +kernel
theorem dL_isWritten_23 : decode cL_isWritten 23 = .ok (.aload_n 0, 1) := by decide +kernel
theorem dL_isWritten_24 : decode cL_isWritten 24 = .ok (.getfield 39, 3) := by decide +kernel
theorem dL_isWritten_27 : decode cL_isWritten 27 = .ok (.iconst 2, 1) := by decide +kernel
theorem dL_isWritten_28 : decode cL_isWritten 28 = .ok (.iload_n 1, 1) := by decide +kernel
theorem dL_isWritten_29 : decode cL_isWritten 29 = .ok (.imul, 1) := by decide +kernel
theorem dL_isWritten_30 : decode cL_isWritten 30 = .ok (.laload, 1) := by decide +kernel
theorem dL_isWritten_31 : decode cL_isWritten 31 = .ok (.invokestatic 195, 3) := by decide +kernel
theorem dL_isWritten_34 : decode cL_isWritten 34 = .ok (.if_icmp .ne 95, 3) := by decide +kernel
theorem dL_isWritten_37 : decode cL_isWritten 37 = .ok (.aload_n 3, 1) := by decide +kernel
theorem dL_isWritten_38 : decode cL_isWritten 38 = .ok (.aload_n 0, 1) := by decide +kernel
theorem dL_isWritten_39 : decode cL_isWritten 39 = .ok (.getfield 39, 3) := by decide +kernel
theorem dL_isWritten_42 : decode cL_isWritten 42 = .ok (.iconst 2, 1) := by decide +kernel
theorem dL_isWritten_43 : decode cL_isWritten 43 = .ok (.iload_n 1, 1) := by decide +kernel
theorem dL_isWritten_44 : decode cL_isWritten 44 = .ok (.imul, 1) := by decide +kernel
theorem dL_isWritten_45 : decode cL_isWritten 45 = .ok (.iconst 1, 1) := by decide +kernel
theorem dL_isWritten_46 : decode cL_isWritten 46 = .ok (.iadd, 1) := by decide +kernel
theorem dL_isWritten_47 : decode cL_isWritten 47 = .ok (.laload, 1) := by decide +kernel
theorem dL_isWritten_48 : decode cL_isWritten 48 = .ok (.lconst 1, 1) := by decide +kernel
theorem dL_isWritten_49 : decode cL_isWritten 49 = .ok (.lcmp, 1) := by decide +kernel
theorem dL_isWritten_50 : decode cL_isWritten 50 = .ok (.ifCond .ne 33, 3) := by decide +kernel
theorem dL_isWritten_53 : decode cL_isWritten 53 = .ok (.new 103, 3) := by decide +kernel
theorem dL_isWritten_56 : decode cL_isWritten 56 = .ok (.dup, 1) := by decide +kernel
theorem dL_isWritten_57 : decode cL_isWritten 57 = .ok (.invokespecial 205, 3) := by decide +kernel
theorem dL_isWritten_60 : decode cL_isWritten 60 = .ok (.ldc_w 314, 3) := by decide +kernel
theorem dL_isWritten_63 : decode cL_isWritten 63 = .ok (.invokevirtual 119, 3) := by decide +kernel
theorem dL_isWritten_66 : decode cL_isWritten 66 = .ok (.aload_n 0, 1) := by decide +kernel
theorem dL_isWritten_67 : decode cL_isWritten 67 = .ok (.getfield 39, 3) := by decide +kernel
theorem dL_isWritten_70 : decode cL_isWritten 70 = .ok (.iconst 2, 1) := by decide +kernel
theorem dL_isWritten_71 : decode cL_isWritten 71 = .ok (.iload_n 1, 1) := by decide +kernel
theorem dL_isWritten_72 : decode cL_isWritten 72 = .ok (.imul, 1) := by decide +kernel
theorem dL_isWritten_73 : decode cL_isWritten 73 = .ok (.laload, 1) := by decide +kernel
theorem dL_isWritten_74 : decode cL_isWritten 74 = .ok (.invokevirtual 245, 3) := by decide +kernel
theorem dL_isWritten_77 : decode cL_isWritten 77 = .ok (.invokevirtual 206, 3) := by decide +kernel
theorem dL_isWritten_80 : decode cL_isWritten 80 = .ok (.goto 43, 3) := by decide +kernel
theorem dL_isWritten_83 : decode cL_isWritten 83 = .ok (.new 103, 3) := by decide +kernel
theorem dL_isWritten_86 : decode cL_isWritten 86 = .ok (.dup, 1) := by decide +kernel
theorem dL_isWritten_87 : decode cL_isWritten 87 = .ok (.invokespecial 205, 3) := by decide +kernel
theorem dL_isWritten_90 : decode cL_isWritten 90 = .ok (.aload_n 0, 1) := by decide +kernel
theorem dL_isWritten_91 : decode cL_isWritten 91 = .ok (.getfield 39, 3) := by decide +kernel
theorem dL_isWritten_94 : decode cL_isWritten 94 = .ok (.iconst 2, 1) := by decide +kernel
theorem dL_isWritten_95 : decode cL_isWritten 95 = .ok (.iload_n 1, 1) := by decide +kernel
theorem dL_isWritten_96 : decode cL_isWritten 96 = .ok (.imul, 1) := by decide +kernel
theorem dL_isWritten_97 : decode cL_isWritten 97 = .ok (.laload, 1) := by decide +kernel
theorem dL_isWritten_98 : decode cL_isWritten 98 = .ok (.invokevirtual 245, 3) := by decide +kernel
theorem dL_isWritten_101 : decode cL_isWritten 101 = .ok (.ldc_w 316, 3) := by decide +kernel
theorem dL_isWritten_104 : decode cL_isWritten 104 = .ok (.invokevirtual 119, 3) := by decide +kernel
theorem dL_isWritten_107 : decode cL_isWritten 107 = .ok (.aload_n 0, 1) := by decide +kernel
theorem dL_isWritten_108 : decode cL_isWritten 108 = .ok (.getfield 39, 3) := by decide +kernel
theorem dL_isWritten_111 : decode cL_isWritten 111 = .ok (.iconst 2, 1) := by decide +kernel
theorem dL_isWritten_112 : decode cL_isWritten 112 = .ok (.iload_n 1, 1) := by decide +kernel
theorem dL_isWritten_113 : decode cL_isWritten 113 = .ok (.imul, 1) := by decide +kernel
theorem dL_isWritten_114 : decode cL_isWritten 114 = .ok (.iconst 1, 1) := by decide +kernel
theorem dL_isWritten_115 : decode cL_isWritten 115 = .ok (.iadd, 1) := by decide +kernel
theorem dL_isWritten_116 : decode cL_isWritten 116 = .ok (.laload, 1) := by decide +kernel
theorem dL_isWritten_117 : decode cL_isWritten 117 = .ok (.invokevirtual 245, 3) := by decide +kernel
theorem dL_isWritten_120 : decode cL_isWritten 120 = .ok (.invokevirtual 206, 3) := by decide +kernel
theorem dL_isWritten_123 : decode cL_isWritten 123 = .ok (.invokevirtual 318, 3) := by decide +kernel
theorem dL_isWritten_126 : decode cL_isWritten 126 = .ok (.ifCond .ne 5, 3) := by decide +kernel
theorem dL_isWritten_129 : decode cL_isWritten 129 = .ok (.iconst 0, 1) := by decide +kernel
theorem dL_isWritten_130 : decode cL_isWritten 130 = .ok (.ireturn, 1) := by decide +kernel
theorem dL_isWritten_131 : decode cL_isWritten 131 = .ok (.aload_n 0, 1) := by decide +kernel
theorem dL_isWritten_132 : decode cL_isWritten 132 = .ok (.aload_n 3, 1) := by decide +kernel
theorem dL_isWritten_133 : decode cL_isWritten 133 = .ok (.invokevirtual 210, 3) := by decide +kernel
theorem dL_isWritten_136 : decode cL_isWritten 136 = .ok (.ifCond .ne 28, 3) := by decide +kernel
theorem dL_isWritten_139 : decode cL_isWritten 139 = .ok (.aload_n 0, 1) := by decide +kernel
theorem dL_isWritten_140 : decode cL_isWritten 140 = .ok (.aload_n 0, 1) := by decide +kernel
theorem dL_isWritten_141 : decode cL_isWritten 141 = .ok (.getfield 39, 3) := by decide +kernel
theorem dL_isWritten_144 : decode cL_isWritten 144 = .ok (.iconst 2, 1) := by decide +kernel
theorem dL_isWritten_145 : decode cL_isWritten 145 = .ok (.iload_n 1, 1) := by decide +kernel
theorem dL_isWritten_146 : decode cL_isWritten 146 = .ok (.imul, 1) := by decide +kernel
theorem dL_isWritten_147 : decode cL_isWritten 147 = .ok (.laload, 1) := by decide +kernel
theorem dL_isWritten_148 : decode cL_isWritten 148 = .ok (.aload_n 0, 1) := by decide +kernel
theorem dL_isWritten_149 : decode cL_isWritten 149 = .ok (.getfield 39, 3) := by decide +kernel
theorem dL_isWritten_152 : decode cL_isWritten 152 = .ok (.iconst 2, 1) := by decide +kernel
theorem dL_isWritten_153 : decode cL_isWritten 153 = .ok (.iload_n 1, 1) := by decide +kernel
theorem dL_isWritten_154 : decode cL_isWritten 154 = .ok (.imul, 1) := by decide +kernel
theorem dL_isWritten_155 : decode cL_isWritten 155 = .ok (.iconst 1, 1) := by decide +kernel
theorem dL_isWritten_156 : decode cL_isWritten 156 = .ok (.iadd, 1) := by decide +kernel
theorem dL_isWritten_157 : decode cL_isWritten 157 = .ok (.laload, 1) := by decide +kernel
theorem dL_isWritten_158 : decode cL_isWritten 158 = .ok (.invokevirtual 222, 3) := by decide +kernel
theorem dL_isWritten_161 : decode cL_isWritten 161 = .ok (.ifCond .ne 5, 3) := by decide +kernel
theorem dL_isWritten_164 : decode cL_isWritten 164 = .ok (.iconst 0, 1) := by decide +kernel
theorem dL_isWritten_165 : decode cL_isWritten 165 = .ok (.ireturn, 1) := by decide +kernel
theorem dL_isWritten_166 : decode cL_isWritten 166 = .ok (.aload_n 0, 1) := by decide +kernel
theorem dL_isWritten_167 : decode cL_isWritten 167 = .ok (.getfield 10, 3) := by decide +kernel
theorem dL_isWritten_170 : decode cL_isWritten 170 = .ok (.invokevirtual 322, 3) := by decide +kernel
theorem dL_isWritten_173 : decode cL_isWritten 173 = .ok (.bipush 6, 2) := by decide +kernel
theorem dL_isWritten_175 : decode cL_isWritten 175 = .ok (.if_icmp .gt 68, 3) := by decide +kernel
theorem dL_isWritten_178 : decode cL_isWritten 178 = .ok (.aload_n 0, 1) := by decide +kernel
theorem dL_isWritten_179 : decode cL_isWritten 179 = .ok (.getfield 10, 3) := by decide +kernel
theorem dL_isWritten_182 : decode cL_isWritten 182 = .ok (.invokevirtual 325, 3) := by decide +kernel
theorem dL_isWritten_185 : decode cL_isWritten 185 = .ok (.bipush 6, 2) := by decide +kernel
theorem dL_isWritten_187 : decode cL_isWritten 187 = .ok (.if_icmp .gt 56, 3) := by decide +kernel
theorem dL_isWritten_190 : decode cL_isWritten 190 = .ok (.aload_n 0, 1) := by decide +kernel
theorem dL_isWritten_191 : decode cL_isWritten 191 = .ok (.getfield 10, 3) := by decide +kernel
theorem dL_isWritten_194 : decode cL_isWritten 194 = .ok (.invokevirtual 325, 3) := by decide +kernel
theorem dL_isWritten_197 : decode cL_isWritten 197 = .ok (.iconst (-1), 1) := by decide +kernel
theorem dL_isWritten_198 : decode cL_isWritten 198 = .ok (.if_icmp .ne 6, 3) := by decide +kernel
theorem dL_isWritten_201 : decode cL_isWritten 201 = .ok (.goto 42, 3) := by decide +kernel
theorem dL_isWritten_204 : decode cL_isWritten 204 = .ok (.aload_n 0, 1) := by decide +kernel
theorem dL_isWritten_205 : decode cL_isWritten 205 = .ok (.aload_n 0, 1) := by decide +kernel
theorem dL_isWritten_206 : decode cL_isWritten 206 = .ok (.iconst 1, 1) := by decide +kernel
theorem dL_isWritten_207 : decode cL_isWritten 207 = .ok (.invokevirtual 310, 3) := by decide +kernel
theorem dL_isWritten_210 : decode cL_isWritten 210 = .ok (.invokevirtual 210, 3) := by decide +kernel
theorem dL_isWritten_213 : decode cL_isWritten 213 = .ok (.ifCond .ne 28, 3) := by decide +kernel
theorem dL_isWritten_216 : decode cL_isWritten 216 = .ok (.aload_n 0, 1) := by decide +kernel
theorem dL_isWritten_217 : decode cL_isWritten 217 = .ok (.aload_n 0, 1) := by decide +kernel
theorem dL_isWritten_218 : decode cL_isWritten 218 = .ok (.getfield 39, 3) := by decide +kernel
theorem dL_isWritten_221 : decode cL_isWritten 221 = .ok (.iconst 2, 1) := by decide +kernel
theorem dL_isWritten_222 : decode cL_isWritten 222 = .ok (.iload_n 1, 1) := by decide +kernel
theorem dL_isWritten_223 : decode cL_isWritten 223 = .ok (.imul, 1) := by decide +kernel
theorem dL_isWritten_224 : decode cL_isWritten 224 = .ok (.laload, 1) := by decide +kernel
theorem dL_isWritten_225 : decode cL_isWritten 225 = .ok (.aload_n 0, 1) := by decide +kernel
theorem dL_isWritten_226 : decode cL_isWritten 226 = .ok (.getfield 39, 3) := by decide +kernel
theorem dL_isWritten_229 : decode cL_isWritten 229 = .ok (.iconst 2, 1) := by decide +kernel
theorem dL_isWritten_230 : decode cL_isWritten 230 = .ok (.iload_n 1, 1) := by decide +kernel
theorem dL_isWritten_231 : decode cL_isWritten 231 = .ok (.imul, 1) := by decide +kernel
theorem dL_isWritten_232 : decode cL_isWritten 232 = .ok (.iconst 1, 1) := by decide +kernel
theorem dL_isWritten_233 : decode cL_isWritten 233 = .ok (.iadd, 1) := by decide +kernel
theorem dL_isWritten_234 : decode cL_isWritten 234 = .ok (.laload, 1) := by decide +kernel
theorem dL_isWritten_235 : decode cL_isWritten 235 = .ok (.invokevirtual 222, 3) := by decide +kernel
theorem dL_isWritten_238 : decode cL_isWritten 238 = .ok (.ifCond .ne 5, 3) := by decide +kernel
theorem dL_isWritten_241 : decode cL_isWritten 241 = .ok (.iconst 0, 1) := by decide +kernel
theorem dL_isWritten_242 : decode cL_isWritten 242 = .ok (.ireturn, 1) := by decide +kernel
theorem dL_isWritten_243 : decode cL_isWritten 243 = .ok (.iinc 1 1, 3) := by decide +kernel
theorem dL_isWritten_246 : decode cL_isWritten 246 = .ok (.goto (-244), 3) := by decide +kernel
theorem dL_isWritten_249 : decode cL_isWritten 249 = .ok (.iconst 1, 1) := by decide +kernel
theorem dL_isWritten_250 : decode cL_isWritten 250 = .ok (.ireturn, 1) := by decide +kernel
theorem dL_isExpanded_0 : decode cL_isExpanded 0 = .ok (.aload_n 0, 1) := by decide +kernel
theorem dL_isExpanded_1 : decode cL_isExpanded 1 = .ok (.iconst 3, 1) := by decide +kernel
theorem dL_isExpanded_2 : decode cL_isExpanded 2 = .ok (.invokevirtual 68, 3) := by decide +kernel
theorem dL_isExpanded_5 : decode cL_isExpanded 5 = .ok (.istore_n 1, 1) := by decide +kernel
theorem dL_isExpanded_6 : decode cL_isExpanded 6 = .ok (.aload_n 0, 1) := by decide +kernel
theorem dL_isExpanded_7 : decode cL_isExpanded 7 = .ok (.getfield 39, 3) := by decide +kernel
theorem dL_isExpanded_10 : decode cL_isExpanded 10 = .ok (.iconst 2, 1) := by decide +kernel
theorem dL_isExpanded_11 : decode cL_isExpanded 11 = .ok (.iload_n 1, 1) := by decide +kernel
theorem dL_isExpanded_12 : decode cL_isExpanded 12 = .ok (.imul, 1) := by decide +kernel
theorem dL_isExpanded_13 : decode cL_isExpanded 13 = .ok (.laload, 1) := by decide +kernel
theorem dL_isExpanded_14 : decode cL_isExpanded 14 = .ok (.lstore_n 2, 1) := by decide +kernel
theorem dL_isExpanded_15 : decode cL_isExpanded 15 = .ok (.aload_n 0, 1) := by decide +kernel
theorem dL_isExpanded_16 : decode cL_isExpanded 16 = .ok (.getfield 39, 3) := by decide +kernel
theorem dL_isExpanded_19 : decode cL_isExpanded 19 = .ok (.iconst 2, 1) := by decide +kernel
theorem dL_isExpanded_20 : decode cL_isExpanded 20 = .ok (.iload_n 1, 1) := by decide +kernel
theorem dL_isExpanded_21 : decode cL_isExpanded 21 = .ok (.imul, 1) := by decide +kernel
theorem dL_isExpanded_22 : decode cL_isExpanded 22 = .ok (.iconst 1, 1) := by decide +kernel
theorem dL_isExpanded_23 : decode cL_isExpanded 23 = .ok (.iadd, 1) := by decide +kernel
theorem dL_isExpanded_24 : decode cL_isExpanded 24 = .ok (.laload, 1) := by decide +kernel
theorem dL_isExpanded_25 : decode cL_isExpanded 25 = .ok (.lstore 4, 2) := by decide +kernel
theorem dL_isExpanded_27 : decode cL_isExpanded 27 = .ok (.aload_n 0, 1) := by decide +kernel
theorem dL_isExpanded_28 : decode cL_isExpanded 28 = .ok (.getfield 10, 3) := by decide +kernel
theorem dL_isExpanded_31 : decode cL_isExpanded 31 = .ok (.iload_n 1, 1) := by decide +kernel
theorem dL_isExpanded_32 : decode cL_isExpanded 32 = .ok (.invokevirtual 307, 3) := by decide +kernel
theorem dL_isExpanded_35 : decode cL_isExpanded 35 = .ok (.istore 6, 2) := by decide +kernel
theorem dL_isExpanded_37 : decode cL_isExpanded 37 = .ok (.lload 4, 2) := by decide +kernel
theorem dL_isExpanded_39 : decode cL_isExpanded 39 = .ok (.lstore 7, 2) := by decide +kernel
theorem dL_isExpanded_41 : decode cL_isExpanded 41 = .ok (.iconst 0, 1) := by decide +kernel
theorem dL_isExpanded_42 : decode cL_isExpanded 42 = .ok (.istore 9, 2) := by decide +kernel
theorem dL_isExpanded_44 : decode cL_isExpanded 44 = .ok (.lload 7, 2) := by decide +kernel
theorem dL_isExpanded_46 : decode cL_isExpanded 46 = .ok (.ldc2_w 140, 3) := by decide +kernel
theorem dL_isExpanded_49 : decode cL_isExpanded 49 = .ok (.invokestatic 53, 3) := by decide +kernel
theorem dL_isExpanded_52 : decode cL_isExpanded 52 = .ok (.lconst 1, 1) := by decide +kernel
theorem dL_isExpanded_53 : decode cL_isExpanded 53 = .ok (.lcmp, 1) := by decide +kernel
theorem dL_isExpanded_54 : decode cL_isExpanded 54 = .ok (.ifCond .le 22, 3) := by decide +kernel
theorem dL_isExpanded_57 : decode cL_isExpanded 57 = .ok (.lload 7, 2) := by decide +kernel
theorem dL_isExpanded_59 : decode cL_isExpanded 59 = .ok (.lload 7, 2) := by decide +kernel
theorem dL_isExpanded_61 : decode cL_isExpanded 61 = .ok (.ldc2_w 140, 3) := by decide +kernel
theorem dL_isExpanded_64 : decode cL_isExpanded 64 = .ok (.invokestatic 53, 3) := by decide +kernel
theorem dL_isExpanded_67 : decode cL_isExpanded 67 = .ok (.ldiv, 1) := by decide +kernel
theorem dL_isExpanded_68 : decode cL_isExpanded 68 = .ok (.lstore 7, 2) := by decide +kernel
theorem dL_isExpanded_70 : decode cL_isExpanded 70 = .ok (.iinc 9 1, 3) := by decide +kernel
theorem dL_isExpanded_73 : decode cL_isExpanded 73 = .ok (.goto (-29), 3) := by decide +kernel
theorem dL_isExpanded_76 : decode cL_isExpanded 76 = .ok (.lload 7, 2) := by decide +kernel
theorem dL_isExpanded_78 : decode cL_isExpanded 78 = .ok (.lconst 1, 1) := by decide +kernel
theorem dL_isExpanded_79 : decode cL_isExpanded 79 = .ok (.lcmp, 1) := by decide +kernel
theorem dL_isExpanded_80 : decode cL_isExpanded 80 = .ok (.ifCond .ne 7, 3) := by decide +kernel
theorem dL_isExpanded_83 : decode cL_isExpanded 83 = .ok (.iconst 0, 1) := by decide +kernel
theorem dL_isExpanded_84 : decode cL_isExpanded 84 = .ok (.goto 4, 3) := by decide +kernel
theorem dL_isExpanded_87 : decode cL_isExpanded 87 = .ok (.iconst 1, 1) := by decide +kernel
theorem dL_isExpanded_88 : decode cL_isExpanded 88 = .ok (.istore 10, 2) := by decide +kernel
theorem dL_isExpanded_90 : decode cL_isExpanded 90 = .ok (.ldc2_w 140, 3) := by decide +kernel
theorem dL_isExpanded_93 : decode cL_isExpanded 93 = .ok (.lload 7, 2) := by decide +kernel
theorem dL_isExpanded_95 : decode cL_isExpanded 95 = .ok (.lrem, 1) := by decide +kernel
theorem dL_isExpanded_96 : decode cL_isExpanded 96 = .ok (.lstore 11, 2) := by decide +kernel
theorem dL_isExpanded_98 : decode cL_isExpanded 98 = .ok (.lload 7, 2) := by decide +kernel
theorem dL_isExpanded_100 : decode cL_isExpanded 100 = .ok (.lconst 1, 1) := by decide +kernel
theorem dL_isExpanded_101 : decode cL_isExpanded 101 = .ok (.lcmp, 1) := by decide +kernel
theorem dL_isExpanded_102 : decode cL_isExpanded 102 = .ok (.ifCond .le 27, 3) := by decide +kernel
theorem dL_isExpanded_105 : decode cL_isExpanded 105 = .ok (.lload 11, 2) := by decide +kernel
theorem dL_isExpanded_107 : decode cL_isExpanded 107 = .ok (.lconst 1, 1) := by decide +kernel
theorem dL_isExpanded_108 : decode cL_isExpanded 108 = .ok (.lcmp, 1) := by decide +kernel
theorem dL_isExpanded_109 : decode cL_isExpanded 109 = .ok (.ifCond .eq 20, 3) := by decide +kernel
theorem dL_isExpanded_112 : decode cL_isExpanded 112 = .ok (.iinc 10 1, 3) := by decide +kernel
theorem dL_isExpanded_115 : decode cL_isExpanded 115 = .ok (.ldc2_w 140, 3) := by decide +kernel
theorem dL_isExpanded_118 : decode cL_isExpanded 118 = .ok (.lload 11, 2) := by decide +kernel
theorem dL_isExpanded_120 : decode cL_isExpanded 120 = .ok (.lmul, 1) := by decide +kernel
theorem dL_isExpanded_121 : decode cL_isExpanded 121 = .ok (.lload 7, 2) := by decide +kernel
theorem dL_isExpanded_123 : decode cL_isExpanded 123 = .ok (.lrem, 1) := by decide +kernel
theorem dL_isExpanded_124 : decode cL_isExpanded 124 = .ok (.lstore 11, 2) := by decide +kernel
theorem dL_isExpanded_126 : decode cL_isExpanded 126 = .ok (.goto (-28), 3) := by decide +kernel
theorem dL_isExpanded_129 : decode cL_isExpanded 129 = .ok (.aload_n 0, 1) := by decide +kernel
theorem dL_isExpanded_130 : decode cL_isExpanded 130 = .ok (.getfield 10, 3) := by decide +kernel
theorem dL_isExpanded_133 : decode cL_isExpanded 133 = .ok (.invokevirtual 328, 3) := by decide +kernel
theorem dL_isExpanded_136 : decode cL_isExpanded 136 = .ok (.lload 7, 2) := by decide +kernel
theorem dL_isExpanded_138 : decode cL_isExpanded 138 = .ok (.lconst 1, 1) := by decide +kernel
theorem dL_isExpanded_139 : decode cL_isExpanded 139 = .ok (.lcmp, 1) := by decide +kernel
theorem dL_isExpanded_140 : decode cL_isExpanded 140 = .ok (.ifCond .ne 7, 3) := by decide +kernel
theorem dL_isExpanded_143 : decode cL_isExpanded 143 = .ok (.iconst 1, 1) := by decide +kernel
theorem dL_isExpanded_144 : decode cL_isExpanded 144 = .ok (.goto 4, 3) := by decide +kernel
theorem dL_isExpanded_147 : decode cL_isExpanded 147 = .ok (.iconst 0, 1) := by decide +kernel
theorem dL_isExpanded_148 : decode cL_isExpanded 148 = .ok (.if_icmp .ne 27, 3) := by decide +kernel
theorem dL_isExpanded_151 : decode cL_isExpanded 151 = .ok (.aload_n 0, 1) := by decide +kernel
theorem dL_isExpanded_152 : decode cL_isExpanded 152 = .ok (.getfield 10, 3) := by decide +kernel
theorem dL_isExpanded_155 : decode cL_isExpanded 155 = .ok (.invokevirtual 322, 3) := by decide +kernel
theorem dL_isExpanded_158 : decode cL_isExpanded 158 = .ok (.iload 9, 2) := by decide +kernel
theorem dL_isExpanded_160 : decode cL_isExpanded 160 = .ok (.if_icmp .ne 15, 3) := by decide +kernel
theorem dL_isExpanded_163 : decode cL_isExpanded 163 = .ok (.aload_n 0, 1) := by decide +kernel
theorem dL_isExpanded_164 : decode cL_isExpanded 164 = .ok (.getfield 10, 3) := by decide +kernel
theorem dL_isExpanded_167 : decode cL_isExpanded 167 = .ok (.invokevirtual 325, 3) := by decide +kernel
theorem dL_isExpanded_170 : decode cL_isExpanded 170 = .ok (.iload 10, 2) := by decide +kernel
theorem dL_isExpanded_172 : decode cL_isExpanded 172 = .ok (.if_icmp .eq 5, 3) := by decide +kernel
theorem dL_isExpanded_175 : decode cL_isExpanded 175 = .ok (.iconst 0, 1) := by decide +kernel
theorem dL_isExpanded_176 : decode cL_isExpanded 176 = .ok (.ireturn, 1) := by decide +kernel
theorem dL_isExpanded_177 : decode cL_isExpanded 177 = .ok (.lload_n 2, 1) := by decide +kernel
theorem dL_isExpanded_178 : decode cL_isExpanded 178 = .ok (.invokestatic 47, 3) := by decide +kernel
theorem dL_isExpanded_181 : decode cL_isExpanded 181 = .ok (.lload 4, 2) := by decide +kernel
theorem dL_isExpanded_183 : decode cL_isExpanded 183 = .ok (.lrem, 1) := by decide +kernel
theorem dL_isExpanded_184 : decode cL_isExpanded 184 = .ok (.lstore 11, 2) := by decide +kernel
theorem dL_isExpanded_186 : decode cL_isExpanded 186 = .ok (.iconst 1, 1) := by decide +kernel
theorem dL_isExpanded_187 : decode cL_isExpanded 187 = .ok (.istore 13, 2) := by decide +kernel
theorem dL_isExpanded_189 : decode cL_isExpanded 189 = .ok (.iload 13, 2) := by decide +kernel
theorem dL_isExpanded_191 : decode cL_isExpanded 191 = .ok (.bipush 12, 2) := by decide +kernel
theorem dL_isExpanded_193 : decode cL_isExpanded 193 = .ok (.if_icmp .ge 44, 3) := by decide +kernel
theorem dL_isExpanded_196 : decode cL_isExpanded 196 = .ok (.aload_n 0, 1) := by decide +kernel
theorem dL_isExpanded_197 : decode cL_isExpanded 197 = .ok (.getfield 10, 3) := by decide +kernel
theorem dL_isExpanded_200 : decode cL_isExpanded 200 = .ok (.iload 13, 2) := by decide +kernel
theorem dL_isExpanded_202 : decode cL_isExpanded 202 = .ok (.invokevirtual 331, 3) := by decide +kernel
theorem dL_isExpanded_205 : decode cL_isExpanded 205 = .ok (.ldc2_w 140, 3) := by decide +kernel
theorem dL_isExpanded_208 : decode cL_isExpanded 208 = .ok (.lload 11, 2) := by decide +kernel
theorem dL_isExpanded_210 : decode cL_isExpanded 210 = .ok (.lmul, 1) := by decide +kernel
theorem dL_isExpanded_211 : decode cL_isExpanded 211 = .ok (.lload 4, 2) := by decide +kernel
theorem dL_isExpanded_213 : decode cL_isExpanded 213 = .ok (.ldiv, 1) := by decide +kernel
theorem dL_isExpanded_214 : decode cL_isExpanded 214 = .ok (.l2i, 1) := by decide +kernel
theorem dL_isExpanded_215 : decode cL_isExpanded 215 = .ok (.if_icmp .eq 5, 3) := by decide +kernel
theorem dL_isExpanded_218 : decode cL_isExpanded 218 = .ok (.iconst 0, 1) := by decide +kernel
theorem dL_isExpanded_219 : decode cL_isExpanded 219 = .ok (.ireturn, 1) := by decide +kernel
theorem dL_isExpanded_220 : decode cL_isExpanded 220 = .ok (.ldc2_w 140, 3) := by decide +kernel
theorem dL_isExpanded_223 : decode cL_isExpanded 223 = .ok (.lload 11, 2) := by decide +kernel
theorem dL_isExpanded_225 : decode cL_isExpanded 225 = .ok (.lmul, 1) := by decide +kernel
theorem dL_isExpanded_226 : decode cL_isExpanded 226 = .ok (.lload 4, 2) := by decide +kernel
theorem dL_isExpanded_228 : decode cL_isExpanded 228 = .ok (.lrem, 1) := by decide +kernel
theorem dL_isExpanded_229 : decode cL_isExpanded 229 = .ok (.lstore 11, 2) := by decide +kernel
theorem dL_isExpanded_231 : decode cL_isExpanded 231 = .ok (.iinc 13 1, 3) := by decide +kernel
theorem dL_isExpanded_234 : decode cL_isExpanded 234 = .ok (.goto (-45), 3) := by decide +kernel
theorem dL_isExpanded_237 : decode cL_isExpanded 237 = .ok (.aload_n 0, 1) := by decide +kernel
theorem dL_isExpanded_238 : decode cL_isExpanded 238 = .ok (.getfield 10, 3) := by decide +kernel
theorem dL_isExpanded_241 : decode cL_isExpanded 241 = .ok (.invokevirtual 334, 3) := by decide +kernel
theorem dL_isExpanded_244 : decode cL_isExpanded 244 = .ok (.istore 13, 2) := by decide +kernel
theorem dL_isExpanded_246 : decode cL_isExpanded 246 = .ok (.lconst 1, 1) := by decide +kernel
theorem dL_isExpanded_247 : decode cL_isExpanded 247 = .ok (.lstore 14, 2) := by decide +kernel
theorem dL_isExpanded_249 : decode cL_isExpanded 249 = .ok (.lconst 0, 1) := by decide +kernel
theorem dL_isExpanded_250 : decode cL_isExpanded 250 = .ok (.lstore 16, 2) := by decide +kernel
theorem dL_isExpanded_252 : decode cL_isExpanded 252 = .ok (.iload 13, 2) := by decide +kernel
theorem dL_isExpanded_254 : decode cL_isExpanded 254 = .ok (.iconst 1, 1) := by decide +kernel
theorem dL_isExpanded_255 : decode cL_isExpanded 255 = .ok (.isub, 1) := by decide +kernel
theorem dL_isExpanded_256 : decode cL_isExpanded 256 = .ok (.istore 18, 2) := by decide +kernel
theorem dL_isExpanded_258 : decode cL_isExpanded 258 = .ok (.iload 18, 2) := by decide +kernel
theorem dL_isExpanded_260 : decode cL_isExpanded 260 = .ok (.ifCond .lt 111, 3) := by decide +kernel
theorem dL_isExpanded_263 : decode cL_isExpanded 263 = .ok (.aload_n 0, 1) := by decide +kernel
theorem dL_isExpanded_264 : decode cL_isExpanded 264 = .ok (.getfield 10, 3) := by decide +kernel
theorem dL_isExpanded_267 : decode cL_isExpanded 267 = .ok (.iload 18, 2) := by decide +kernel
theorem dL_isExpanded_269 : decode cL_isExpanded 269 = .ok (.invokevirtual 337, 3) := by decide +kernel
theorem dL_isExpanded_272 : decode cL_isExpanded 272 = .ok (.istore 19, 2) := by decide +kernel
theorem dL_isExpanded_274 : decode cL_isExpanded 274 = .ok (.aload_n 0, 1) := by decide +kernel
theorem dL_isExpanded_275 : decode cL_isExpanded 275 = .ok (.iconst 0, 1) := by decide +kernel
theorem dL_isExpanded_276 : decode cL_isExpanded 276 = .ok (.invokevirtual 201, 3) := by decide +kernel
theorem dL_isExpanded_279 : decode cL_isExpanded 279 = .ok (.iload 19, 2) := by decide +kernel
theorem dL_isExpanded_281 : decode cL_isExpanded 281 = .ok (.i2l, 1) := by decide +kernel
theorem dL_isExpanded_282 : decode cL_isExpanded 282 = .ok (.lmul, 1) := by decide +kernel
theorem dL_isExpanded_283 : decode cL_isExpanded 283 = .ok (.lstore 20, 2) := by decide +kernel
theorem dL_isExpanded_285 : decode cL_isExpanded 285 = .ok (.aload_n 0, 1) := by decide +kernel
theorem dL_isExpanded_286 : decode cL_isExpanded 286 = .ok (.iconst 1, 1) := by decide +kernel
theorem dL_isExpanded_287 : decode cL_isExpanded 287 = .ok (.invokevirtual 201, 3) := by decide +kernel
theorem dL_isExpanded_290 : decode cL_isExpanded 290 = .ok (.lconst 1, 1) := by decide +kernel
theorem dL_isExpanded_291 : decode cL_isExpanded 291 = .ok (.lcmp, 1) := by decide +kernel
theorem dL_isExpanded_292 : decode cL_isExpanded 292 = .ok (.ifCond .ne 38, 3) := by decide +kernel
theorem dL_isExpanded_295 : decode cL_isExpanded 295 = .ok (.iload 18, 2) := by decide +kernel
theorem dL_isExpanded_297 : decode cL_isExpanded 297 = .ok (.ifCond .le 10, 3) := by decide +kernel
theorem dL_isExpanded_300 : decode cL_isExpanded 300 = .ok (.lload 20, 2) := by decide +kernel
theorem dL_isExpanded_302 : decode cL_isExpanded 302 = .ok (.lconst 1, 1) := by decide +kernel
theorem dL_isExpanded_303 : decode cL_isExpanded 303 = .ok (.lcmp, 1) := by decide +kernel
theorem dL_isExpanded_304 : decode cL_isExpanded 304 = .ok (.ifCond .lt 26, 3) := by decide +kernel
theorem dL_isExpanded_307 : decode cL_isExpanded 307 = .ok (.iload 18, 2) := by decide +kernel
theorem dL_isExpanded_309 : decode cL_isExpanded 309 = .ok (.iload 13, 2) := by decide +kernel
theorem dL_isExpanded_311 : decode cL_isExpanded 311 = .ok (.iconst 1, 1) := by decide +kernel
theorem dL_isExpanded_312 : decode cL_isExpanded 312 = .ok (.isub, 1) := by decide +kernel
theorem dL_isExpanded_313 : decode cL_isExpanded 313 = .ok (.if_icmp .ne 19, 3) := by decide +kernel
theorem dL_isExpanded_316 : decode cL_isExpanded 316 = .ok (.iload 18, 2) := by decide +kernel
theorem dL_isExpanded_318 : decode cL_isExpanded 318 = .ok (.ifCond .le 14, 3) := by decide +kernel
theorem dL_isExpanded_321 : decode cL_isExpanded 321 = .ok (.lload 20, 2) := by decide +kernel
theorem dL_isExpanded_323 : decode cL_isExpanded 323 = .ok (.ldc2_w 166, 3) := by decide +kernel
theorem dL_isExpanded_326 : decode cL_isExpanded 326 = .ok (.lcmp, 1) := by decide +kernel
theorem dL_isExpanded_327 : decode cL_isExpanded 327 = .ok (.ifCond .ge 5, 3) := by decide +kernel
theorem dL_isExpanded_330 : decode cL_isExpanded 330 = .ok (.iconst 0, 1) := by decide +kernel
theorem dL_isExpanded_331 : decode cL_isExpanded 331 = .ok (.ireturn, 1) := by decide +kernel
theorem dL_isExpanded_332 : decode cL_isExpanded 332 = .ok (.lload 20, 2) := by decide +kernel
theorem dL_isExpanded_334 : decode cL_isExpanded 334 = .ok (.lload 14, 2) := by decide +kernel
theorem dL_isExpanded_336 : decode cL_isExpanded 336 = .ok (.lmul, 1) := by decide +kernel
theorem dL_isExpanded_337 : decode cL_isExpanded 337 = .ok (.lload 16, 2) := by decide +kernel
theorem dL_isExpanded_339 : decode cL_isExpanded 339 = .ok (.ladd, 1) := by decide +kernel
theorem dL_isExpanded_340 : decode cL_isExpanded 340 = .ok (.lstore 22, 2) := by decide +kernel
theorem dL_isExpanded_342 : decode cL_isExpanded 342 = .ok (.lload 14, 2) := by decide +kernel
theorem dL_isExpanded_344 : decode cL_isExpanded 344 = .ok (.lstore 16, 2) := by decide +kernel
theorem dL_isExpanded_346 : decode cL_isExpanded 346 = .ok (.lload 22, 2) := by decide +kernel
theorem dL_isExpanded_348 : decode cL_isExpanded 348 = .ok (.lstore 14, 2) := by decide +kernel
theorem dL_isExpanded_350 : decode cL_isExpanded 350 = .ok (.aload_n 0, 1) := by decide +kernel
theorem dL_isExpanded_351 : decode cL_isExpanded 351 = .ok (.getfield 10, 3) := by decide +kernel
theorem dL_isExpanded_354 : decode cL_isExpanded 354 = .ok (.iload_n 1, 1) := by decide +kernel
theorem dL_isExpanded_355 : decode cL_isExpanded 355 = .ok (.invokevirtual 307, 3) := by decide +kernel
theorem dL_isExpanded_358 : decode cL_isExpanded 358 = .ok (.iload 6, 2) := by decide +kernel
theorem dL_isExpanded_360 : decode cL_isExpanded 360 = .ok (.if_icmp .eq 5, 3) := by decide +kernel
theorem dL_isExpanded_363 : decode cL_isExpanded 363 = .ok (.iconst 0, 1) := by decide +kernel
theorem dL_isExpanded_364 : decode cL_isExpanded 364 = .ok (.ireturn, 1) := by decide +kernel
theorem dL_isExpanded_365 : decode cL_isExpanded 365 = .ok (.iinc 18 (-1), 3) := by decide +kernel
theorem dL_isExpanded_368 : decode cL_isExpanded 368 = .ok (.goto (-110), 3) := by decide +kernel
theorem dL_isExpanded_371 : decode cL_isExpanded 371 = .ok (.lload 14, 2) := by decide +kernel
theorem dL_isExpanded_373 : decode cL_isExpanded 373 = .ok (.lload_n 2, 1) := by decide +kernel
theorem dL_isExpanded_374 : decode cL_isExpanded 374 = .ok (.lcmp, 1) := by decide +kernel
theorem dL_isExpanded_375 : decode cL_isExpanded 375 = .ok (.ifCond .ne 37, 3) := by decide +kernel
theorem dL_isExpanded_378 : decode cL_isExpanded 378 = .ok (.lload 16, 2) := by decide +kernel
theorem dL_isExpanded_380 : decode cL_isExpanded 380 = .ok (.lload 4, 2) := by decide +kernel
theorem dL_isExpanded_382 : decode cL_isExpanded 382 = .ok (.lcmp, 1) := by decide +kernel
theorem dL_isExpanded_383 : decode cL_isExpanded 383 = .ok (.ifCond .ne 29, 3) := by decide +kernel
theorem dL_isExpanded_386 : decode cL_isExpanded 386 = .ok (.aload_n 0, 1) := by decide +kernel
theorem dL_isExpanded_387 : decode cL_isExpanded 387 = .ok (.iload_n 1, 1) := by decide +kernel
theorem dL_isExpanded_388 : decode cL_isExpanded 388 = .ok (.lload_n 2, 1) := by decide +kernel
theorem dL_isExpanded_389 : decode cL_isExpanded 389 = .ok (.lload 4, 2) := by decide +kernel
theorem dL_isExpanded_391 : decode cL_isExpanded 391 = .ok (.invokevirtual 340, 3) := by decide +kernel
theorem dL_isExpanded_394 : decode cL_isExpanded 394 = .ok (.ifCond .eq 18, 3) := by decide +kernel
theorem dL_isExpanded_397 : decode cL_isExpanded 397 = .ok (.aload_n 0, 1) := by decide +kernel
theorem dL_isExpanded_398 : decode cL_isExpanded 398 = .ok (.iload_n 1, 1) := by decide +kernel
theorem dL_isExpanded_399 : decode cL_isExpanded 399 = .ok (.lload_n 2, 1) := by decide +kernel
theorem dL_isExpanded_400 : decode cL_isExpanded 400 = .ok (.lload 4, 2) := by decide +kernel
theorem dL_isExpanded_402 : decode cL_isExpanded 402 = .ok (.invokevirtual 344, 3) := by decide +kernel
theorem dL_isExpanded_405 : decode cL_isExpanded 405 = .ok (.ifCond .eq 7, 3) := by decide +kernel
theorem dL_isExpanded_408 : decode cL_isExpanded 408 = .ok (.iconst 1, 1) := by decide +kernel
theorem dL_isExpanded_409 : decode cL_isExpanded 409 = .ok (.goto 4, 3) := by decide +kernel
theorem dL_isExpanded_412 : decode cL_isExpanded 412 = .ok (.iconst 0, 1) := by decide +kernel
theorem dL_isExpanded_413 : decode cL_isExpanded 413 = .ok (.ireturn, 1) := by decide +kernel
theorem dL_isNearest_0 : decode cL_isNearest 0 = .ok (.iconst 1, 1) := by decide +kernel
theorem dL_isNearest_1 : decode cL_isNearest 1 = .ok (.aload_n 0, 1) := by decide +kernel
theorem dL_isNearest_2 : decode cL_isNearest 2 = .ok (.aload_n 0, 1) := by decide +kernel
theorem dL_isNearest_3 : decode cL_isNearest 3 = .ok (.iconst 2, 1) := by decide +kernel
theorem dL_isNearest_4 : decode cL_isNearest 4 = .ok (.invokevirtual 68, 3) := by decide +kernel
theorem dL_isNearest_7 : decode cL_isNearest 7 = .ok (.ifCond .ne 8, 3) := by decide +kernel
theorem dL_isNearest_10 : decode cL_isNearest 10 = .ok (.bipush 12, 2) := by decide +kernel
theorem dL_isNearest_12 : decode cL_isNearest 12 = .ok (.goto 5, 3) := by decide +kernel
theorem dL_isNearest_15 : decode cL_isNearest 15 = .ok (.bipush 60, 2) := by decide +kernel
theorem dL_isNearest_17 : decode cL_isNearest 17 = .ok (.invokevirtual 68, 3) := by decide +kernel
theorem dL_isNearest_20 : decode cL_isNearest 20 = .ok (.iadd, 1) := by decide +kernel
theorem dL_isNearest_21 : decode cL_isNearest 21 = .ok (.istore 6, 2) := by decide +kernel
theorem dL_isNearest_23 : decode cL_isNearest 23 = .ok (.lconst 0, 1) := by decide +kernel
theorem dL_isNearest_24 : decode cL_isNearest 24 = .ok (.lstore 7, 2) := by decide +kernel
theorem dL_isNearest_26 : decode cL_isNearest 26 = .ok (.lconst 0, 1) := by decide +kernel
theorem dL_isNearest_27 : decode cL_isNearest 27 = .ok (.lstore 9, 2) := by decide +kernel
theorem dL_isNearest_29 : decode cL_isNearest 29 = .ok (.lconst 1, 1) := by decide +kernel
theorem dL_isNearest_30 : decode cL_isNearest 30 = .ok (.lstore 11, 2) := by decide +kernel
theorem dL_isNearest_32 : decode cL_isNearest 32 = .ok (.lload 11, 2) := by decide +kernel
theorem dL_isNearest_34 : decode cL_isNearest 34 = .ok (.iload 6, 2) := by decide +kernel
theorem dL_isNearest_36 : decode cL_isNearest 36 = .ok (.i2l, 1) := by decide +kernel
theorem dL_isNearest_37 : decode cL_isNearest 37 = .ok (.lcmp, 1) := by decide +kernel
theorem dL_isNearest_38 : decode cL_isNearest 38 = .ok (.ifCond .gt 115, 3) := by decide +kernel
theorem dL_isNearest_41 : decode cL_isNearest 41 = .ok (.lload_n 2, 1) := by decide +kernel
theorem dL_isNearest_42 : decode cL_isNearest 42 = .ok (.lload 11, 2) := by decide +kernel
theorem dL_isNearest_44 : decode cL_isNearest 44 = .ok (.lmul, 1) := by decide +kernel
theorem dL_isNearest_45 : decode cL_isNearest 45 = .ok (.lload 4, 2) := by decide +kernel
theorem dL_isNearest_47 : decode cL_isNearest 47 = .ok (.invokestatic 160, 3) := by decide +kernel
theorem dL_isNearest_50 : decode cL_isNearest 50 = .ok (.lstore 13, 2) := by decide +kernel
theorem dL_isNearest_52 : decode cL_isNearest 52 = .ok (.lload 13, 2) := by decide +kernel
theorem dL_isNearest_54 : decode cL_isNearest 54 = .ok (.lload_n 2, 1) := by decide +kernel
theorem dL_isNearest_55 : decode cL_isNearest 55 = .ok (.lload 11, 2) := by decide +kernel
theorem dL_isNearest_57 : decode cL_isNearest 57 = .ok (.lmul, 1) := by decide +kernel
theorem dL_isNearest_58 : decode cL_isNearest 58 = .ok (.lload 4, 2) := by decide +kernel
theorem dL_isNearest_60 : decode cL_isNearest 60 = .ok (.invokestatic 160, 3) := by decide +kernel
theorem dL_isNearest_63 : decode cL_isNearest 63 = .ok (.lconst 1, 1) := by decide +kernel
theorem dL_isNearest_64 : decode cL_isNearest 64 = .ok (.ladd, 1) := by decide +kernel
theorem dL_isNearest_65 : decode cL_isNearest 65 = .ok (.lcmp, 1) := by decide +kernel
theorem dL_isNearest_66 : decode cL_isNearest 66 = .ok (.ifCond .gt 78, 3) := by decide +kernel
theorem dL_isNearest_69 : decode cL_isNearest 69 = .ok (.lload 9, 2) := by decide +kernel
theorem dL_isNearest_71 : decode cL_isNearest 71 = .ok (.lconst 0, 1) := by decide +kernel
theorem dL_isNearest_72 : decode cL_isNearest 72 = .ok (.lcmp, 1) := by decide +kernel
theorem dL_isNearest_73 : decode cL_isNearest 73 = .ok (.ifCond .eq 39, 3) := by decide +kernel
theorem dL_isNearest_76 : decode cL_isNearest 76 = .ok (.lload 13, 2) := by decide +kernel
theorem dL_isNearest_78 : decode cL_isNearest 78 = .ok (.lload 4, 2) := by decide +kernel
theorem dL_isNearest_80 : decode cL_isNearest 80 = .ok (.lmul, 1) := by decide +kernel
theorem dL_isNearest_81 : decode cL_isNearest 81 = .ok (.lload_n 2, 1) := by decide +kernel
theorem dL_isNearest_82 : decode cL_isNearest 82 = .ok (.lload 11, 2) := by decide +kernel
theorem dL_isNearest_84 : decode cL_isNearest 84 = .ok (.lmul, 1) := by decide +kernel
theorem dL_isNearest_85 : decode cL_isNearest 85 = .ok (.lsub, 1) := by decide +kernel
theorem dL_isNearest_86 : decode cL_isNearest 86 = .ok (.invokestatic 47, 3) := by decide +kernel
theorem dL_isNearest_89 : decode cL_isNearest 89 = .ok (.lload 9, 2) := by decide +kernel
theorem dL_isNearest_91 : decode cL_isNearest 91 = .ok (.lmul, 1) := by decide +kernel
theorem dL_isNearest_92 : decode cL_isNearest 92 = .ok (.lload 7, 2) := by decide +kernel
theorem dL_isNearest_94 : decode cL_isNearest 94 = .ok (.lload 4, 2) := by decide +kernel
theorem dL_isNearest_96 : decode cL_isNearest 96 = .ok (.lmul, 1) := by decide +kernel
theorem dL_isNearest_97 : decode cL_isNearest 97 = .ok (.lload_n 2, 1) := by decide +kernel
theorem dL_isNearest_98 : decode cL_isNearest 98 = .ok (.lload 9, 2) := by decide +kernel
theorem dL_isNearest_100 : decode cL_isNearest 100 = .ok (.lmul, 1) := by decide +kernel
theorem dL_isNearest_101 : decode cL_isNearest 101 = .ok (.lsub, 1) := by decide +kernel
theorem dL_isNearest_102 : decode cL_isNearest 102 = .ok (.invokestatic 47, 3) := by decide +kernel
theorem dL_isNearest_105 : decode cL_isNearest 105 = .ok (.lload 11, 2) := by decide +kernel
theorem dL_isNearest_107 : decode cL_isNearest 107 = .ok (.lmul, 1) := by decide +kernel
theorem dL_isNearest_108 : decode cL_isNearest 108 = .ok (.lcmp, 1) := by decide +kernel
theorem dL_isNearest_109 : decode cL_isNearest 109 = .ok (.ifCond .ge 7, 3) := by decide +kernel
theorem dL_isNearest_112 : decode cL_isNearest 112 = .ok (.iconst 1, 1) := by decide +kernel
theorem dL_isNearest_113 : decode cL_isNearest 113 = .ok (.goto 4, 3) := by decide +kernel
theorem dL_isNearest_116 : decode cL_isNearest 116 = .ok (.iconst 0, 1) := by decide +kernel
theorem dL_isNearest_117 : decode cL_isNearest 117 = .ok (.istore 15, 2) := by decide +kernel
theorem dL_isNearest_119 : decode cL_isNearest 119 = .ok (.iload 15, 2) := by decide +kernel
theorem dL_isNearest_121 : decode cL_isNearest 121 = .ok (.ifCond .ne 6, 3) := by decide +kernel
theorem dL_isNearest_124 : decode cL_isNearest 124 = .ok (.goto 11, 3) := by decide +kernel
theorem dL_isNearest_127 : decode cL_isNearest 127 = .ok (.lload 13, 2) := by decide +kernel
theorem dL_isNearest_129 : decode cL_isNearest 129 = .ok (.lstore 7, 2) := by decide +kernel
theorem dL_isNearest_131 : decode cL_isNearest 131 = .ok (.lload 11, 2) := by decide +kernel
theorem dL_isNearest_133 : decode cL_isNearest 133 = .ok (.lstore 9, 2) := by decide +kernel
theorem dL_isNearest_135 : decode cL_isNearest 135 = .ok (.lload 13, 2) := by decide +kernel
theorem dL_isNearest_137 : decode cL_isNearest 137 = .ok (.lconst 1, 1) := by decide +kernel
theorem dL_isNearest_138 : decode cL_isNearest 138 = .ok (.ladd, 1) := by decide +kernel
theorem dL_isNearest_139 : decode cL_isNearest 139 = .ok (.lstore 13, 2) := by decide +kernel
theorem dL_isNearest_141 : decode cL_isNearest 141 = .ok (.goto (-89), 3) := by decide +kernel
theorem dL_isNearest_144 : decode cL_isNearest 144 = .ok (.lload 11, 2) := by decide +kernel
theorem dL_isNearest_146 : decode cL_isNearest 146 = .ok (.lconst 1, 1) := by decide +kernel
theorem dL_isNearest_147 : decode cL_isNearest 147 = .ok (.ladd, 1) := by decide +kernel
theorem dL_isNearest_148 : decode cL_isNearest 148 = .ok (.lstore 11, 2) := by decide +kernel
theorem dL_isNearest_150 : decode cL_isNearest 150 = .ok (.goto (-118), 3) := by decide +kernel
theorem dL_isNearest_153 : decode cL_isNearest 153 = .ok (.aload_n 0, 1) := by decide +kernel
theorem dL_isNearest_154 : decode cL_isNearest 154 = .ok (.getfield 10, 3) := by decide +kernel
theorem dL_isNearest_157 : decode cL_isNearest 157 = .ok (.iload 6, 2) := by decide +kernel
theorem dL_isNearest_159 : decode cL_isNearest 159 = .ok (.invokevirtual 347, 3) := by decide +kernel
theorem dL_isNearest_162 : decode cL_isNearest 162 = .ok (.istore 11, 2) := by decide +kernel
theorem dL_isNearest_164 : decode cL_isNearest 164 = .ok (.iload 11, 2) := by decide +kernel
theorem dL_isNearest_166 : decode cL_isNearest 166 = .ok (.lload 7, 2) := by decide +kernel
theorem dL_isNearest_168 : decode cL_isNearest 168 = .ok (.lload 4, 2) := by decide +kernel
theorem dL_isNearest_170 : decode cL_isNearest 170 = .ok (.lmul, 1) := by decide +kernel
theorem dL_isNearest_171 : decode cL_isNearest 171 = .ok (.lload_n 2, 1) := by decide +kernel
theorem dL_isNearest_172 : decode cL_isNearest 172 = .ok (.lload 9, 2) := by decide +kernel
theorem dL_isNearest_174 : decode cL_isNearest 174 = .ok (.lmul, 1) := by decide +kernel
theorem dL_isNearest_175 : decode cL_isNearest 175 = .ok (.lsub, 1) := by decide +kernel
theorem dL_isNearest_176 : decode cL_isNearest 176 = .ok (.invokestatic 195, 3) := by decide +kernel
theorem dL_isNearest_179 : decode cL_isNearest 179 = .ok (.if_icmp .ne 33, 3) := by decide +kernel
theorem dL_isNearest_182 : decode cL_isNearest 182 = .ok (.aload_n 0, 1) := by decide +kernel
theorem dL_isNearest_183 : decode cL_isNearest 183 = .ok (.lload 7, 2) := by decide +kernel
theorem dL_isNearest_185 : decode cL_isNearest 185 = .ok (.lload 9, 2) := by decide +kernel
theorem dL_isNearest_187 : decode cL_isNearest 187 = .ok (.invokevirtual 222, 3) := by decide +kernel
theorem dL_isNearest_190 : decode cL_isNearest 190 = .ok (.ifCond .eq 22, 3) := by decide +kernel
theorem dL_isNearest_193 : decode cL_isNearest 193 = .ok (.aload_n 0, 1) := by decide +kernel
theorem dL_isNearest_194 : decode cL_isNearest 194 = .ok (.getfield 10, 3) := by decide +kernel
theorem dL_isNearest_197 : decode cL_isNearest 197 = .ok (.iload_n 1, 1) := by decide +kernel
theorem dL_isNearest_198 : decode cL_isNearest 198 = .ok (.invokevirtual 307, 3) := by decide +kernel
theorem dL_isNearest_201 : decode cL_isNearest 201 = .ok (.lload_n 2, 1) := by decide +kernel
theorem dL_isNearest_202 : decode cL_isNearest 202 = .ok (.invokestatic 195, 3) := by decide +kernel
theorem dL_isNearest_205 : decode cL_isNearest 205 = .ok (.if_icmp .ne 7, 3) := by decide +kernel
theorem dL_isNearest_208 : decode cL_isNearest 208 = .ok (.iconst 1, 1) := by decide +kernel
theorem dL_isNearest_209 : decode cL_isNearest 209 = .ok (.goto 4, 3) := by decide +kernel
theorem dL_isNearest_212 : decode cL_isNearest 212 = .ok (.iconst 0, 1) := by decide +kernel
theorem dL_isNearest_213 : decode cL_isNearest 213 = .ok (.ireturn, 1) := by decide +kernel
theorem dL_isOfUnits_0 : decode cL_isOfUnits 0 = .ok (.aload_n 0, 1) := by decide +kernel
theorem dL_isOfUnits_1 : decode cL_isOfUnits 1 = .ok (.getfield 10, 3) := by decide +kernel
theorem dL_isOfUnits_4 : decode cL_isOfUnits 4 = .ok (.invokevirtual 350, 3) := by decide +kernel
theorem dL_isOfUnits_7 : decode cL_isOfUnits 7 = .ok (.istore 6, 2) := by decide +kernel
theorem dL_isOfUnits_9 : decode cL_isOfUnits 9 = .ok (.lload_n 2, 1) := by decide +kernel
theorem dL_isOfUnits_10 : decode cL_isOfUnits 10 = .ok (.lconst 0, 1) := by decide +kernel
theorem dL_isOfUnits_11 : decode cL_isOfUnits 11 = .ok (.lcmp, 1) := by decide +kernel
theorem dL_isOfUnits_12 : decode cL_isOfUnits 12 = .ok (.ifCond .le 10, 3) := by decide +kernel
theorem dL_isOfUnits_15 : decode cL_isOfUnits 15 = .ok (.lload_n 2, 1) := by decide +kernel
theorem dL_isOfUnits_16 : decode cL_isOfUnits 16 = .ok (.lload 4, 2) := by decide +kernel
theorem dL_isOfUnits_18 : decode cL_isOfUnits 18 = .ok (.lcmp, 1) := by decide +kernel
theorem dL_isOfUnits_19 : decode cL_isOfUnits 19 = .ok (.ifCond .lt 15, 3) := by decide +kernel
theorem dL_isOfUnits_22 : decode cL_isOfUnits 22 = .ok (.iload 6, 2) := by decide +kernel
theorem dL_isOfUnits_24 : decode cL_isOfUnits 24 = .ok (.iconst (-1), 1) := by decide +kernel
theorem dL_isOfUnits_25 : decode cL_isOfUnits 25 = .ok (.if_icmp .ne 7, 3) := by decide +kernel
theorem dL_isOfUnits_28 : decode cL_isOfUnits 28 = .ok (.iconst 1, 1) := by decide +kernel
theorem dL_isOfUnits_29 : decode cL_isOfUnits 29 = .ok (.goto 4, 3) := by decide +kernel
theorem dL_isOfUnits_32 : decode cL_isOfUnits 32 = .ok (.iconst 0, 1) := by decide +kernel
theorem dL_isOfUnits_33 : decode cL_isOfUnits 33 = .ok (.ireturn, 1) := by decide +kernel
theorem dL_isOfUnits_34 : decode cL_isOfUnits 34 = .ok (.iload 6, 2) := by decide +kernel
theorem dL_isOfUnits_36 : decode cL_isOfUnits 36 = .ok (.iconst (-1), 1) := by decide +kernel
theorem dL_isOfUnits_37 : decode cL_isOfUnits 37 = .ok (.if_icmp .ne 5, 3) := by decide +kernel
theorem dL_isOfUnits_40 : decode cL_isOfUnits 40 = .ok (.iconst 1, 1) := by decide +kernel
theorem dL_isOfUnits_41 : decode cL_isOfUnits 41 = .ok (.ireturn, 1) := by decide +kernel
theorem dL_isOfUnits_42 : decode cL_isOfUnits 42 = .ok (.new 103, 3) := by decide +kernel
theorem dL_isOfUnits_45 : decode cL_isOfUnits 45 = .ok (.dup, 1) := by decide +kernel
theorem dL_isOfUnits_46 : decode cL_isOfUnits 46 = .ok (.ldc_w 353, 3) := by decide +kernel
theorem dL_isOfUnits_49 : decode cL_isOfUnits 49 = .ok (.invokespecial 355, 3) := by decide +kernel
theorem dL_isOfUnits_52 : decode cL_isOfUnits 52 = .ok (.bipush 97, 2) := by decide +kernel
theorem dL_isOfUnits_54 : decode cL_isOfUnits 54 = .ok (.iload_n 1, 1) := by decide +kernel
theorem dL_isOfUnits_55 : decode cL_isOfUnits 55 = .ok (.iadd, 1) := by decide +kernel
theorem dL_isOfUnits_56 : decode cL_isOfUnits 56 = .ok (.i2c, 1) := by decide +kernel
theorem dL_isOfUnits_57 : decode cL_isOfUnits 57 = .ok (.invokevirtual 112, 3) := by decide +kernel
theorem dL_isOfUnits_60 : decode cL_isOfUnits 60 = .ok (.astore 7, 2) := by decide +kernel
theorem dL_isOfUnits_62 : decode cL_isOfUnits 62 = .ok (.iconst 1, 1) := by decide +kernel
theorem dL_isOfUnits_63 : decode cL_isOfUnits 63 = .ok (.istore 8, 2) := by decide +kernel
theorem dL_isOfUnits_65 : decode cL_isOfUnits 65 = .ok (.iconst 0, 1) := by decide +kernel
theorem dL_isOfUnits_66 : decode cL_isOfUnits 66 = .ok (.istore 9, 2) := by decide +kernel
theorem dL_isOfUnits_68 : decode cL_isOfUnits 68 = .ok (.iload 9, 2) := by decide +kernel
theorem dL_isOfUnits_70 : decode cL_isOfUnits 70 = .ok (.iload 6, 2) := by decide +kernel
theorem dL_isOfUnits_72 : decode cL_isOfUnits 72 = .ok (.if_icmp .ge 133, 3) := by decide +kernel
theorem dL_isOfUnits_75 : decode cL_isOfUnits 75 = .ok (.aload_n 0, 1) := by decide +kernel
theorem dL_isOfUnits_76 : decode cL_isOfUnits 76 = .ok (.getfield 10, 3) := by decide +kernel
theorem dL_isOfUnits_79 : decode cL_isOfUnits 79 = .ok (.iload 9, 2) := by decide +kernel
theorem dL_isOfUnits_81 : decode cL_isOfUnits 81 = .ok (.invokevirtual 358, 3) := by decide +kernel
theorem dL_isOfUnits_84 : decode cL_isOfUnits 84 = .ok (.istore 10, 2) := by decide +kernel
theorem dL_isOfUnits_86 : decode cL_isOfUnits 86 = .ok (.iload 10, 2) := by decide +kernel
theorem dL_isOfUnits_88 : decode cL_isOfUnits 88 = .ok (.aload_n 0, 1) := by decide +kernel
theorem dL_isOfUnits_89 : decode cL_isOfUnits 89 = .ok (.getfield 10, 3) := by decide +kernel
theorem dL_isOfUnits_92 : decode cL_isOfUnits 92 = .ok (.iconst 1, 1) := by decide +kernel
theorem dL_isOfUnits_93 : decode cL_isOfUnits 93 = .ok (.invokevirtual 184, 3) := by decide +kernel
theorem dL_isOfUnits_96 : decode cL_isOfUnits 96 = .ok (.if_icmp .ne 26, 3) := by decide +kernel
theorem dL_isOfUnits_99 : decode cL_isOfUnits 99 = .ok (.aload_n 0, 1) := by decide +kernel
theorem dL_isOfUnits_100 : decode cL_isOfUnits 100 = .ok (.getfield 10, 3) := by decide +kernel
theorem dL_isOfUnits_103 : decode cL_isOfUnits 103 = .ok (.invokevirtual 192, 3) := by decide +kernel
theorem dL_isOfUnits_106 : decode cL_isOfUnits 106 = .ok (.iconst 1, 1) := by decide +kernel
theorem dL_isOfUnits_107 : decode cL_isOfUnits 107 = .ok (.if_icmp .ne 15, 3) := by decide +kernel
theorem dL_isOfUnits_110 : decode cL_isOfUnits 110 = .ok (.aload_n 0, 1) := by decide +kernel
theorem dL_isOfUnits_111 : decode cL_isOfUnits 111 = .ok (.getfield 10, 3) := by decide +kernel
theorem dL_isOfUnits_114 : decode cL_isOfUnits 114 = .ok (.iconst 0, 1) := by decide +kernel
theorem dL_isOfUnits_115 : decode cL_isOfUnits 115 = .ok (.invokevirtual 184, 3) := by decide +kernel
theorem dL_isOfUnits_118 : decode cL_isOfUnits 118 = .ok (.iconst 1, 1) := by decide +kernel
theorem dL_isOfUnits_119 : decode cL_isOfUnits 119 = .ok (.if_icmp .eq 5, 3) := by decide +kernel
theorem dL_isOfUnits_122 : decode cL_isOfUnits 122 = .ok (.iconst 0, 1) := by decide +kernel
theorem dL_isOfUnits_123 : decode cL_isOfUnits 123 = .ok (.ireturn, 1) := by decide +kernel
theorem dL_isOfUnits_124 : decode cL_isOfUnits 124 = .ok (.iload 8, 2) := by decide +kernel
theorem dL_isOfUnits_126 : decode cL_isOfUnits 126 = .ok (.iload 10, 2) := by decide +kernel
theorem dL_isOfUnits_128 : decode cL_isOfUnits 128 = .ok (.bipush 13, 2) := by decide +kernel
theorem dL_isOfUnits_130 : decode cL_isOfUnits 130 = .ok (.if_icmp .ge 7, 3) := by decide +kernel
theorem dL_isOfUnits_133 : decode cL_isOfUnits 133 = .ok (.iconst 1, 1) := by decide +kernel
theorem dL_isOfUnits_134 : decode cL_isOfUnits 134 = .ok (.goto 4, 3) := by decide +kernel
theorem dL_isOfUnits_137 : decode cL_isOfUnits 137 = .ok (.iconst 0, 1) := by decide +kernel
theorem dL_isOfUnits_138 : decode cL_isOfUnits 138 = .ok (.iand, 1) := by decide +kernel
theorem dL_isOfUnits_139 : decode cL_isOfUnits 139 = .ok (.istore 8, 2) := by decide +kernel
theorem dL_isOfUnits_141 : decode cL_isOfUnits 141 = .ok (.iload 8, 2) := by decide +kernel
theorem dL_isOfUnits_143 : decode cL_isOfUnits 143 = .ok (.ifCond .eq 20, 3) := by decide +kernel
theorem dL_isOfUnits_146 : decode cL_isOfUnits 146 = .ok (.aload 7, 2) := by decide +kernel
theorem dL_isOfUnits_148 : decode cL_isOfUnits 148 = .ok (.ldc_w 361, 3) := by decide +kernel
theorem dL_isOfUnits_151 : decode cL_isOfUnits 151 = .ok (.invokevirtual 119, 3) := by decide +kernel
theorem dL_isOfUnits_154 : decode cL_isOfUnits 154 = .ok (.aload_n 0, 1) := by decide +kernel
theorem dL_isOfUnits_155 : decode cL_isOfUnits 155 = .ok (.iconst 1, 1) := by decide +kernel
theorem dL_isOfUnits_156 : decode cL_isOfUnits 156 = .ok (.invokevirtual 201, 3) := by decide +kernel
theorem dL_isOfUnits_159 : decode cL_isOfUnits 159 = .ok (.invokevirtual 245, 3) := by decide +kernel
theorem dL_isOfUnits_162 : decode cL_isOfUnits 162 = .ok (.pop, 1) := by decide +kernel
theorem dL_isOfUnits_163 : decode cL_isOfUnits 163 = .ok (.iload 9, 2) := by decide +kernel
theorem dL_isOfUnits_165 : decode cL_isOfUnits 165 = .ok (.ifCond .ne 20, 3) := by decide +kernel
theorem dL_isOfUnits_168 : decode cL_isOfUnits 168 = .ok (.aload_n 0, 1) := by decide +kernel
theorem dL_isOfUnits_169 : decode cL_isOfUnits 169 = .ok (.iconst 1, 1) := by decide +kernel
theorem dL_isOfUnits_170 : decode cL_isOfUnits 170 = .ok (.invokevirtual 201, 3) := by decide +kernel
theorem dL_isOfUnits_173 : decode cL_isOfUnits 173 = .ok (.lload 4, 2) := by decide +kernel
theorem dL_isOfUnits_175 : decode cL_isOfUnits 175 = .ok (.lload_n 2, 1) := by decide +kernel
theorem dL_isOfUnits_176 : decode cL_isOfUnits 176 = .ok (.ladd, 1) := by decide +kernel
theorem dL_isOfUnits_177 : decode cL_isOfUnits 177 = .ok (.lconst 1, 1) := by decide +kernel
theorem dL_isOfUnits_178 : decode cL_isOfUnits 178 = .ok (.lsub, 1) := by decide +kernel
theorem dL_isOfUnits_179 : decode cL_isOfUnits 179 = .ok (.lload_n 2, 1) := by decide +kernel
theorem dL_isOfUnits_180 : decode cL_isOfUnits 180 = .ok (.ldiv, 1) := by decide +kernel
theorem dL_isOfUnits_181 : decode cL_isOfUnits 181 = .ok (.lcmp, 1) := by decide +kernel
theorem dL_isOfUnits_182 : decode cL_isOfUnits 182 = .ok (.ifCond .ne 15, 3) := by decide +kernel
theorem dL_isOfUnits_185 : decode cL_isOfUnits 185 = .ok (.aload_n 0, 1) := by decide +kernel
theorem dL_isOfUnits_186 : decode cL_isOfUnits 186 = .ok (.getfield 10, 3) := by decide +kernel
theorem dL_isOfUnits_189 : decode cL_isOfUnits 189 = .ok (.iload_n 1, 1) := by decide +kernel
theorem dL_isOfUnits_190 : decode cL_isOfUnits 190 = .ok (.invokevirtual 307, 3) := by decide +kernel
theorem dL_isOfUnits_193 : decode cL_isOfUnits 193 = .ok (.iconst 1, 1) := by decide +kernel
theorem dL_isOfUnits_194 : decode cL_isOfUnits 194 = .ok (.if_icmp .eq 5, 3) := by decide +kernel
theorem dL_isOfUnits_197 : decode cL_isOfUnits 197 = .ok (.iconst 0, 1) := by decide +kernel
theorem dL_isOfUnits_198 : decode cL_isOfUnits 198 = .ok (.ireturn, 1) := by decide +kernel
theorem dL_isOfUnits_199 : decode cL_isOfUnits 199 = .ok (.iinc 9 1, 3) := by decide +kernel
theorem dL_isOfUnits_202 : decode cL_isOfUnits 202 = .ok (.goto (-134), 3) := by decide +kernel
theorem dL_isOfUnits_205 : decode cL_isOfUnits 205 = .ok (.iload 8, 2) := by decide +kernel
theorem dL_isOfUnits_207 : decode cL_isOfUnits 207 = .ok (.ifCond .eq 27, 3) := by decide +kernel
theorem dL_isOfUnits_210 : decode cL_isOfUnits 210 = .ok (.aload_n 0, 1) := by decide +kernel
theorem dL_isOfUnits_211 : decode cL_isOfUnits 211 = .ok (.aload 7, 2) := by decide +kernel
theorem dL_isOfUnits_213 : decode cL_isOfUnits 213 = .ok (.invokevirtual 206, 3) := by decide +kernel
theorem dL_isOfUnits_216 : decode cL_isOfUnits 216 = .ok (.invokevirtual 255, 3) := by decide +kernel
theorem dL_isOfUnits_219 : decode cL_isOfUnits 219 = .ok (.ifCond .eq 19, 3) := by decide +kernel
theorem dL_isOfUnits_222 : decode cL_isOfUnits 222 = .ok (.aload_n 0, 1) := by decide +kernel
theorem dL_isOfUnits_223 : decode cL_isOfUnits 223 = .ok (.getfield 10, 3) := by decide +kernel
theorem dL_isOfUnits_226 : decode cL_isOfUnits 226 = .ok (.iload_n 1, 1) := by decide +kernel
theorem dL_isOfUnits_227 : decode cL_isOfUnits 227 = .ok (.invokevirtual 307, 3) := by decide +kernel
theorem dL_isOfUnits_230 : decode cL_isOfUnits 230 = .ok (.iconst 1, 1) := by decide +kernel
theorem dL_isOfUnits_231 : decode cL_isOfUnits 231 = .ok (.if_icmp .ne 7, 3) := by decide +kernel
theorem dL_isOfUnits_234 : decode cL_isOfUnits 234 = .ok (.iconst 1, 1) := by decide +kernel
theorem dL_isOfUnits_235 : decode cL_isOfUnits 235 = .ok (.goto 4, 3) := by decide +kernel
theorem dL_isOfUnits_238 : decode cL_isOfUnits 238 = .ok (.iconst 0, 1) := by decide +kernel
theorem dL_isOfUnits_239 : decode cL_isOfUnits 239 = .ok (.ireturn, 1) := by decide +kernel
theorem dL_isRow_0 : decode cL_isRow 0 = .ok (.aload_n 0, 1) := by decide +kernel
theorem dL_isRow_1 : decode cL_isRow 1 = .ok (.bipush 12, 2) := by decide +kernel
theorem dL_isRow_3 : decode cL_isRow 3 = .ok (.invokevirtual 68, 3) := by decide +kernel
theorem dL_isRow_6 : decode cL_isRow 6 = .ok (.istore_n 1, 1) := by decide +kernel
theorem dL_isRow_7 : decode cL_isRow 7 = .ok (.aload_n 0, 1) := by decide +kernel
theorem dL_isRow_8 : decode cL_isRow 8 = .ok (.getfield 10, 3) := by decide +kernel
theorem dL_isRow_11 : decode cL_isRow 11 = .ok (.iconst 1, 1) := by decide +kernel
theorem dL_isRow_12 : decode cL_isRow 12 = .ok (.invokevirtual 363, 3) := by decide +kernel
theorem dL_isRow_15 : decode cL_isRow 15 = .ok (.ifCond .eq 5, 3) := by decide +kernel
theorem dL_isRow_18 : decode cL_isRow 18 = .ok (.iconst 0, 1) := by decide +kernel
theorem dL_isRow_19 : decode cL_isRow 19 = .ok (.ireturn, 1) := by decide +kernel
theorem dL_isRow_20 : decode cL_isRow 20 = .ok (.iconst 0, 1) := by decide +kernel
theorem dL_isRow_21 : decode cL_isRow 21 = .ok (.istore_n 2, 1) := by decide +kernel
theorem dL_isRow_22 : decode cL_isRow 22 = .ok (.iload_n 2, 1) := by decide +kernel
theorem dL_isRow_23 : decode cL_isRow 23 = .ok (.iload_n 1, 1) := by decide +kernel
theorem dL_isRow_24 : decode cL_isRow 24 = .ok (.if_icmp .ge 43, 3) := by decide +kernel
theorem dL_isRow_27 : decode cL_isRow 27 = .ok (.aload_n 0, 1) := by decide +kernel
theorem dL_isRow_28 : decode cL_isRow 28 = .ok (.getfield 10, 3) := by decide +kernel
theorem dL_isRow_31 : decode cL_isRow 31 = .ok (.aload_n 0, 1) := by decide +kernel
theorem dL_isRow_32 : decode cL_isRow 32 = .ok (.iconst 3, 1) := by decide +kernel
theorem dL_isRow_33 : decode cL_isRow 33 = .ok (.invokevirtual 68, 3) := by decide +kernel
theorem dL_isRow_36 : decode cL_isRow 36 = .ok (.invokevirtual 307, 3) := by decide +kernel
theorem dL_isRow_39 : decode cL_isRow 39 = .ok (.istore_n 3, 1) := by decide +kernel
theorem dL_isRow_40 : decode cL_isRow 40 = .ok (.iload_n 3, 1) := by decide +kernel
theorem dL_isRow_41 : decode cL_isRow 41 = .ok (.iconst (-1), 1) := by decide +kernel
theorem dL_isRow_42 : decode cL_isRow 42 = .ok (.if_icmp .lt 17, 3) := by decide +kernel
theorem dL_isRow_45 : decode cL_isRow 45 = .ok (.aload_n 0, 1) := by decide +kernel
theorem dL_isRow_46 : decode cL_isRow 46 = .ok (.getfield 10, 3) := by decide +kernel
theorem dL_isRow_49 : decode cL_isRow 49 = .ok (.iconst 1, 1) := by decide +kernel
theorem dL_isRow_50 : decode cL_isRow 50 = .ok (.invokevirtual 366, 3) := by decide +kernel
theorem dL_isRow_53 : decode cL_isRow 53 = .ok (.iload_n 2, 1) := by decide +kernel
theorem dL_isRow_54 : decode cL_isRow 54 = .ok (.iconst 1, 1) := by decide +kernel
theorem dL_isRow_55 : decode cL_isRow 55 = .ok (.iadd, 1) := by decide +kernel
theorem dL_isRow_56 : decode cL_isRow 56 = .ok (.if_icmp .eq 5, 3) := by decide +kernel
theorem dL_isRow_59 : decode cL_isRow 59 = .ok (.iconst 0, 1) := by decide +kernel
theorem dL_isRow_60 : decode cL_isRow 60 = .ok (.ireturn, 1) := by decide +kernel
theorem dL_isRow_61 : decode cL_isRow 61 = .ok (.iinc 2 1, 3) := by decide +kernel
theorem dL_isRow_64 : decode cL_isRow 64 = .ok (.goto (-42), 3) := by decide +kernel
theorem dL_isRow_67 : decode cL_isRow 67 = .ok (.iconst 0, 1) := by decide +kernel
theorem dL_isRow_68 : decode cL_isRow 68 = .ok (.istore_n 2, 1) := by decide +kernel
theorem dL_isRow_69 : decode cL_isRow 69 = .ok (.iconst 0, 1) := by decide +kernel
theorem dL_isRow_70 : decode cL_isRow 70 = .ok (.istore_n 3, 1) := by decide +kernel
theorem dL_isRow_71 : decode cL_isRow 71 = .ok (.iload_n 3, 1) := by decide +kernel
theorem dL_isRow_72 : decode cL_isRow 72 = .ok (.iload_n 1, 1) := by decide +kernel
theorem dL_isRow_73 : decode cL_isRow 73 = .ok (.if_icmp .ge 81, 3) := by decide +kernel
theorem dL_isRow_76 : decode cL_isRow 76 = .ok (.aload_n 0, 1) := by decide +kernel
theorem dL_isRow_77 : decode cL_isRow 77 = .ok (.getfield 10, 3) := by decide +kernel
theorem dL_isRow_80 : decode cL_isRow 80 = .ok (.iconst 1, 1) := by decide +kernel
theorem dL_isRow_81 : decode cL_isRow 81 = .ok (.iload_n 3, 1) := by decide +kernel
theorem dL_isRow_82 : decode cL_isRow 82 = .ok (.invokevirtual 369, 3) := by decide +kernel
theorem dL_isRow_85 : decode cL_isRow 85 = .ok (.istore 4, 2) := by decide +kernel
theorem dL_isRow_87 : decode cL_isRow 87 = .ok (.aload_n 0, 1) := by decide +kernel
theorem dL_isRow_88 : decode cL_isRow 88 = .ok (.getfield 10, 3) := by decide +kernel
theorem dL_isRow_91 : decode cL_isRow 91 = .ok (.iconst 1, 1) := by decide +kernel
theorem dL_isRow_92 : decode cL_isRow 92 = .ok (.iconst 0, 1) := by decide +kernel
theorem dL_isRow_93 : decode cL_isRow 93 = .ok (.invokevirtual 372, 3) := by decide +kernel
theorem dL_isRow_96 : decode cL_isRow 96 = .ok (.iload_n 3, 1) := by decide +kernel
theorem dL_isRow_97 : decode cL_isRow 97 = .ok (.if_icmp .gt 39, 3) := by decide +kernel
theorem dL_isRow_100 : decode cL_isRow 100 = .ok (.aload_n 0, 1) := by decide +kernel
theorem dL_isRow_101 : decode cL_isRow 101 = .ok (.getfield 10, 3) := by decide +kernel
theorem dL_isRow_104 : decode cL_isRow 104 = .ok (.iconst 1, 1) := by decide +kernel
theorem dL_isRow_105 : decode cL_isRow 105 = .ok (.iconst 0, 1) := by decide +kernel
theorem dL_isRow_106 : decode cL_isRow 106 = .ok (.invokevirtual 372, 3) := by decide +kernel
theorem dL_isRow_109 : decode cL_isRow 109 = .ok (.aload_n 0, 1) := by decide +kernel
theorem dL_isRow_110 : decode cL_isRow 110 = .ok (.getfield 10, 3) := by decide +kernel
theorem dL_isRow_113 : decode cL_isRow 113 = .ok (.iconst 1, 1) := by decide +kernel
theorem dL_isRow_114 : decode cL_isRow 114 = .ok (.iconst 1, 1) := by decide +kernel
theorem dL_isRow_115 : decode cL_isRow 115 = .ok (.invokevirtual 372, 3) := by decide +kernel
theorem dL_isRow_118 : decode cL_isRow 118 = .ok (.iadd, 1) := by decide +kernel
theorem dL_isRow_119 : decode cL_isRow 119 = .ok (.iload_n 3, 1) := by decide +kernel
theorem dL_isRow_120 : decode cL_isRow 120 = .ok (.if_icmp .le 16, 3) := by decide +kernel
theorem dL_isRow_123 : decode cL_isRow 123 = .ok (.aload_n 0, 1) := by decide +kernel
theorem dL_isRow_124 : decode cL_isRow 124 = .ok (.getfield 10, 3) := by decide +kernel
theorem dL_isRow_127 : decode cL_isRow 127 = .ok (.iconst 1, 1) := by decide +kernel
theorem dL_isRow_128 : decode cL_isRow 128 = .ok (.iconst 0, 1) := by decide +kernel
theorem dL_isRow_129 : decode cL_isRow 129 = .ok (.invokevirtual 372, 3) := by decide +kernel
theorem dL_isRow_132 : decode cL_isRow 132 = .ok (.iload_n 2, 1) := by decide +kernel
theorem dL_isRow_133 : decode cL_isRow 133 = .ok (.if_icmp .ge 5, 3) := by decide +kernel
theorem dL_isRow_136 : decode cL_isRow 136 = .ok (.iconst 0, 1) := by decide +kernel
theorem dL_isRow_137 : decode cL_isRow 137 = .ok (.ireturn, 1) := by decide +kernel
theorem dL_isRow_138 : decode cL_isRow 138 = .ok (.aload_n 0, 1) := by decide +kernel
theorem dL_isRow_139 : decode cL_isRow 139 = .ok (.getfield 10, 3) := by decide +kernel
theorem dL_isRow_142 : decode cL_isRow 142 = .ok (.iconst 1, 1) := by decide +kernel
theorem dL_isRow_143 : decode cL_isRow 143 = .ok (.iconst 0, 1) := by decide +kernel
theorem dL_isRow_144 : decode cL_isRow 144 = .ok (.invokevirtual 372, 3) := by decide +kernel
theorem dL_isRow_147 : decode cL_isRow 147 = .ok (.istore_n 2, 1) := by decide +kernel
theorem dL_isRow_148 : decode cL_isRow 148 = .ok (.iinc 3 1, 3) := by decide +kernel
theorem dL_isRow_151 : decode cL_isRow 151 = .ok (.goto (-80), 3) := by decide +kernel
theorem dL_isRow_154 : decode cL_isRow 154 = .ok (.iload_n 1, 1) := by decide +kernel
theorem dL_isRow_155 : decode cL_isRow 155 = .ok (.ifCond .ne 34, 3) := by decide +kernel
theorem dL_isRow_158 : decode cL_isRow 158 = .ok (.aload_n 0, 1) := by decide +kernel
theorem dL_isRow_159 : decode cL_isRow 159 = .ok (.getfield 10, 3) := by decide +kernel
theorem dL_isRow_162 : decode cL_isRow 162 = .ok (.iconst 1, 1) := by decide +kernel
theorem dL_isRow_163 : decode cL_isRow 163 = .ok (.iconst 0, 1) := by decide +kernel
theorem dL_isRow_164 : decode cL_isRow 164 = .ok (.invokevirtual 376, 3) := by decide +kernel
theorem dL_isRow_167 : decode cL_isRow 167 = .ok (.ifCond .ne 20, 3) := by decide +kernel
theorem dL_isRow_170 : decode cL_isRow 170 = .ok (.aload_n 0, 1) := by decide +kernel
theorem dL_isRow_171 : decode cL_isRow 171 = .ok (.getfield 10, 3) := by decide +kernel
theorem dL_isRow_174 : decode cL_isRow 174 = .ok (.iconst 1, 1) := by decide +kernel
theorem dL_isRow_175 : decode cL_isRow 175 = .ok (.iconst 1, 1) := by decide +kernel
theorem dL_isRow_176 : decode cL_isRow 176 = .ok (.invokevirtual 376, 3) := by decide +kernel
theorem dL_isRow_179 : decode cL_isRow 179 = .ok (.iconst 1, 1) := by decide +kernel
theorem dL_isRow_180 : decode cL_isRow 180 = .ok (.if_icmp .ne 7, 3) := by decide +kernel
theorem dL_isRow_183 : decode cL_isRow 183 = .ok (.iconst 1, 1) := by decide +kernel
theorem dL_isRow_184 : decode cL_isRow 184 = .ok (.goto 4, 3) := by decide +kernel
theorem dL_isRow_187 : decode cL_isRow 187 = .ok (.iconst 0, 1) := by decide +kernel
theorem dL_isRow_188 : decode cL_isRow 188 = .ok (.ireturn, 1) := by decide +kernel
theorem dL_isRow_189 : decode cL_isRow 189 = .ok (.aload_n 0, 1) := by decide +kernel
theorem dL_isRow_190 : decode cL_isRow 190 = .ok (.getfield 10, 3) := by decide +kernel
theorem dL_isRow_193 : decode cL_isRow 193 = .ok (.iconst 1, 1) := by decide +kernel
theorem dL_isRow_194 : decode cL_isRow 194 = .ok (.iconst 2, 1) := by decide +kernel
theorem dL_isRow_195 : decode cL_isRow 195 = .ok (.invokevirtual 376, 3) := by decide +kernel
theorem dL_isRow_198 : decode cL_isRow 198 = .ok (.istore_n 3, 1) := by decide +kernel
theorem dL_isRow_199 : decode cL_isRow 199 = .ok (.aload_n 0, 1) := by decide +kernel
theorem dL_isRow_200 : decode cL_isRow 200 = .ok (.getfield 10, 3) := by decide +kernel
theorem dL_isRow_203 : decode cL_isRow 203 = .ok (.iconst 1, 1) := by decide +kernel
theorem dL_isRow_204 : decode cL_isRow 204 = .ok (.iconst 0, 1) := by decide +kernel
theorem dL_isRow_205 : decode cL_isRow 205 = .ok (.invokevirtual 372, 3) := by decide +kernel
theorem dL_isRow_208 : decode cL_isRow 208 = .ok (.aload_n 0, 1) := by decide +kernel
theorem dL_isRow_209 : decode cL_isRow 209 = .ok (.getfield 10, 3) := by decide +kernel
theorem dL_isRow_212 : decode cL_isRow 212 = .ok (.iconst 1, 1) := by decide +kernel
theorem dL_isRow_213 : decode cL_isRow 213 = .ok (.iconst 1, 1) := by decide +kernel
theorem dL_isRow_214 : decode cL_isRow 214 = .ok (.invokevirtual 372, 3) := by decide +kernel
theorem dL_isRow_217 : decode cL_isRow 217 = .ok (.iadd, 1) := by decide +kernel
theorem dL_isRow_218 : decode cL_isRow 218 = .ok (.istore 4, 2) := by decide +kernel
theorem dL_isRow_220 : decode cL_isRow 220 = .ok (.iload_n 3, 1) := by decide +kernel
theorem dL_isRow_221 : decode cL_isRow 221 = .ok (.iconst (-1), 1) := by decide +kernel
theorem dL_isRow_222 : decode cL_isRow 222 = .ok (.if_icmp .lt 22, 3) := by decide +kernel
theorem dL_isRow_225 : decode cL_isRow 225 = .ok (.iload 4, 2) := by decide +kernel
theorem dL_isRow_227 : decode cL_isRow 227 = .ok (.iconst 1, 1) := by decide +kernel
theorem dL_isRow_228 : decode cL_isRow 228 = .ok (.if_icmp .lt 16, 3) := by decide +kernel
theorem dL_isRow_231 : decode cL_isRow 231 = .ok (.aload_n 0, 1) := by decide +kernel
theorem dL_isRow_232 : decode cL_isRow 232 = .ok (.getfield 10, 3) := by decide +kernel
theorem dL_isRow_235 : decode cL_isRow 235 = .ok (.iconst 1, 1) := by decide +kernel
theorem dL_isRow_236 : decode cL_isRow 236 = .ok (.iconst 0, 1) := by decide +kernel
theorem dL_isRow_237 : decode cL_isRow 237 = .ok (.invokevirtual 372, 3) := by decide +kernel
theorem dL_isRow_240 : decode cL_isRow 240 = .ok (.iload_n 1, 1) := by decide +kernel
theorem dL_isRow_241 : decode cL_isRow 241 = .ok (.if_icmp .lt 5, 3) := by decide +kernel
theorem dL_isRow_244 : decode cL_isRow 244 = .ok (.iconst 0, 1) := by decide +kernel
theorem dL_isRow_245 : decode cL_isRow 245 = .ok (.ireturn, 1) := by decide +kernel
theorem dL_isRow_246 : decode cL_isRow 246 = .ok (.aload_n 0, 1) := by decide +kernel
theorem dL_isRow_247 : decode cL_isRow 247 = .ok (.getfield 10, 3) := by decide +kernel
theorem dL_isRow_250 : decode cL_isRow 250 = .ok (.iconst 1, 1) := by decide +kernel
theorem dL_isRow_251 : decode cL_isRow 251 = .ok (.iload_n 1, 1) := by decide +kernel
theorem dL_isRow_252 : decode cL_isRow 252 = .ok (.iconst 1, 1) := by decide +kernel
theorem dL_isRow_253 : decode cL_isRow 253 = .ok (.isub, 1) := by decide +kernel
theorem dL_isRow_254 : decode cL_isRow 254 = .ok (.invokevirtual 369, 3) := by decide +kernel
theorem dL_isRow_257 : decode cL_isRow 257 = .ok (.istore_n 3, 1) := by decide +kernel
theorem dL_isRow_258 : decode cL_isRow 258 = .ok (.aload_n 0, 1) := by decide +kernel
theorem dL_isRow_259 : decode cL_isRow 259 = .ok (.getfield 10, 3) := by decide +kernel
theorem dL_isRow_262 : decode cL_isRow 262 = .ok (.iconst 1, 1) := by decide +kernel
theorem dL_isRow_263 : decode cL_isRow 263 = .ok (.iconst 1, 1) := by decide +kernel
theorem dL_isRow_264 : decode cL_isRow 264 = .ok (.invokevirtual 372, 3) := by decide +kernel
theorem dL_isRow_267 : decode cL_isRow 267 = .ok (.istore 5, 2) := by decide +kernel
theorem dL_isRow_269 : decode cL_isRow 269 = .ok (.iload_n 3, 1) := by decide +kernel
theorem dL_isRow_270 : decode cL_isRow 270 = .ok (.iconst (-1), 1) := by decide +kernel
theorem dL_isRow_271 : decode cL_isRow 271 = .ok (.if_icmp .lt 37, 3) := by decide +kernel
theorem dL_isRow_274 : decode cL_isRow 274 = .ok (.aload_n 0, 1) := by decide +kernel
theorem dL_isRow_275 : decode cL_isRow 275 = .ok (.getfield 10, 3) := by decide +kernel
theorem dL_isRow_278 : decode cL_isRow 278 = .ok (.iconst 1, 1) := by decide +kernel
theorem dL_isRow_279 : decode cL_isRow 279 = .ok (.invokevirtual 379, 3) := by decide +kernel
theorem dL_isRow_282 : decode cL_isRow 282 = .ok (.iload_n 1, 1) := by decide +kernel
theorem dL_isRow_283 : decode cL_isRow 283 = .ok (.iconst 1, 1) := by decide +kernel
theorem dL_isRow_284 : decode cL_isRow 284 = .ok (.isub, 1) := by decide +kernel
theorem dL_isRow_285 : decode cL_isRow 285 = .ok (.if_icmp .ne 23, 3) := by decide +kernel
theorem dL_isRow_288 : decode cL_isRow 288 = .ok (.aload_n 0, 1) := by decide +kernel
theorem dL_isRow_289 : decode cL_isRow 289 = .ok (.getfield 10, 3) := by decide +kernel
theorem dL_isRow_292 : decode cL_isRow 292 = .ok (.iconst 1, 1) := by decide +kernel
theorem dL_isRow_293 : decode cL_isRow 293 = .ok (.iconst 1, 1) := by decide +kernel
theorem dL_isRow_294 : decode cL_isRow 294 = .ok (.invokevirtual 372, 3) := by decide +kernel
theorem dL_isRow_297 : decode cL_isRow 297 = .ok (.iload 5, 2) := by decide +kernel
theorem dL_isRow_299 : decode cL_isRow 299 = .ok (.iconst 1, 1) := by decide +kernel
theorem dL_isRow_300 : decode cL_isRow 300 = .ok (.isub, 1) := by decide +kernel
theorem dL_isRow_301 : decode cL_isRow 301 = .ok (.if_icmp .ne 7, 3) := by decide +kernel
theorem dL_isRow_304 : decode cL_isRow 304 = .ok (.iconst 1, 1) := by decide +kernel
theorem dL_isRow_305 : decode cL_isRow 305 = .ok (.goto 4, 3) := by decide +kernel
theorem dL_isRow_308 : decode cL_isRow 308 = .ok (.iconst 0, 1) := by decide +kernel
theorem dL_isRow_309 : decode cL_isRow 309 = .ok (.ireturn, 1) := by decide +kernel
theorem dL_isUndone_0 : decode cL_isUndone 0 = .ok (.aload_n 0, 1) := by decide +kernel
theorem dL_isUndone_1 : decode cL_isUndone 1 = .ok (.getfield 10, 3) := by decide +kernel
theorem dL_isUndone_4 : decode cL_isUndone 4 = .ok (.invokevirtual 229, 3) := by decide +kernel
theorem dL_isUndone_7 : decode cL_isUndone 7 = .ok (.istore_n 1, 1) := by decide +kernel
theorem dL_isUndone_8 : decode cL_isUndone 8 = .ok (.lconst 0, 1) := by decide +kernel
theorem dL_isUndone_9 : decode cL_isUndone 9 = .ok (.lstore_n 2, 1) := by decide +kernel
theorem dL_isUndone_10 : decode cL_isUndone 10 = .ok (.iconst 0, 1) := by decide +kernel
theorem dL_isUndone_11 : decode cL_isUndone 11 = .ok (.istore 4, 2) := by decide +kernel
theorem dL_isUndone_13 : decode cL_isUndone 13 = .ok (.iload 4, 2) := by decide +kernel
theorem dL_isUndone_15 : decode cL_isUndone 15 = .ok (.iload_n 1, 1) := by decide +kernel
theorem dL_isUndone_16 : decode cL_isUndone 16 = .ok (.if_icmp .ge 49, 3) := by decide +kernel
theorem dL_isUndone_19 : decode cL_isUndone 19 = .ok (.ldc2_w 382, 3) := by decide +kernel
theorem dL_isUndone_22 : decode cL_isUndone 22 = .ok (.lload_n 2, 1) := by decide +kernel
theorem dL_isUndone_23 : decode cL_isUndone 23 = .ok (.lmul, 1) := by decide +kernel
theorem dL_isUndone_24 : decode cL_isUndone 24 = .ok (.aload_n 0, 1) := by decide +kernel
theorem dL_isUndone_25 : decode cL_isUndone 25 = .ok (.getfield 10, 3) := by decide +kernel
theorem dL_isUndone_28 : decode cL_isUndone 28 = .ok (.aload_n 0, 1) := by decide +kernel
theorem dL_isUndone_29 : decode cL_isUndone 29 = .ok (.getfield 10, 3) := by decide +kernel
theorem dL_isUndone_32 : decode cL_isUndone 32 = .ok (.iload 4, 2) := by decide +kernel
theorem dL_isUndone_34 : decode cL_isUndone 34 = .ok (.invokevirtual 384, 3) := by decide +kernel
theorem dL_isUndone_37 : decode cL_isUndone 37 = .ok (.invokevirtual 240, 3) := by decide +kernel
theorem dL_isUndone_40 : decode cL_isUndone 40 = .ok (.i2l, 1) := by decide +kernel
theorem dL_isUndone_41 : decode cL_isUndone 41 = .ok (.aload_n 0, 1) := by decide +kernel
theorem dL_isUndone_42 : decode cL_isUndone 42 = .ok (.iconst 0, 1) := by decide +kernel
theorem dL_isUndone_43 : decode cL_isUndone 43 = .ok (.invokevirtual 201, 3) := by decide +kernel
theorem dL_isUndone_46 : decode cL_isUndone 46 = .ok (.lmul, 1) := by decide +kernel
theorem dL_isUndone_47 : decode cL_isUndone 47 = .ok (.ladd, 1) := by decide +kernel
theorem dL_isUndone_48 : decode cL_isUndone 48 = .ok (.ldc2_w 387, 3) := by decide +kernel
theorem dL_isUndone_51 : decode cL_isUndone 51 = .ok (.aload_n 0, 1) := by decide +kernel
theorem dL_isUndone_52 : decode cL_isUndone 52 = .ok (.iconst 1, 1) := by decide +kernel
theorem dL_isUndone_53 : decode cL_isUndone 53 = .ok (.invokevirtual 201, 3) := by decide +kernel
theorem dL_isUndone_56 : decode cL_isUndone 56 = .ok (.lmul, 1) := by decide +kernel
theorem dL_isUndone_57 : decode cL_isUndone 57 = .ok (.ladd, 1) := by decide +kernel
theorem dL_isUndone_58 : decode cL_isUndone 58 = .ok (.lstore_n 2, 1) := by decide +kernel
theorem dL_isUndone_59 : decode cL_isUndone 59 = .ok (.iinc 4 1, 3) := by decide +kernel
theorem dL_isUndone_62 : decode cL_isUndone 62 = .ok (.goto (-49), 3) := by decide +kernel
theorem dL_isUndone_65 : decode cL_isUndone 65 = .ok (.bipush 21, 2) := by decide +kernel
theorem dL_isUndone_67 : decode cL_isUndone 67 = .ok (.istore 4, 2) := by decide +kernel
theorem dL_isUndone_69 : decode cL_isUndone 69 = .ok (.iconst 0, 1) := by decide +kernel
theorem dL_isUndone_70 : decode cL_isUndone 70 = .ok (.istore 5, 2) := by decide +kernel
theorem dL_isUndone_72 : decode cL_isUndone 72 = .ok (.aload_n 0, 1) := by decide +kernel
theorem dL_isUndone_73 : decode cL_isUndone 73 = .ok (.getfield 10, 3) := by decide +kernel
theorem dL_isUndone_76 : decode cL_isUndone 76 = .ok (.invokevirtual 389, 3) := by decide +kernel
theorem dL_isUndone_79 : decode cL_isUndone 79 = .ok (.istore 6, 2) := by decide +kernel
theorem dL_isUndone_81 : decode cL_isUndone 81 = .ok (.iload 6, 2) := by decide +kernel
theorem dL_isUndone_83 : decode cL_isUndone 83 = .ok (.iconst (-1), 1) := by decide +kernel
theorem dL_isUndone_84 : decode cL_isUndone 84 = .ok (.if_icmp .eq 31, 3) := by decide +kernel
theorem dL_isUndone_87 : decode cL_isUndone 87 = .ok (.iload 6, 2) := by decide +kernel
theorem dL_isUndone_89 : decode cL_isUndone 89 = .ok (.iload 4, 2) := by decide +kernel
theorem dL_isUndone_91 : decode cL_isUndone 91 = .ok (.if_icmp .lt 5, 3) := by decide +kernel
theorem dL_isUndone_94 : decode cL_isUndone 94 = .ok (.iconst 0, 1) := by decide +kernel
theorem dL_isUndone_95 : decode cL_isUndone 95 = .ok (.ireturn, 1) := by decide +kernel
theorem dL_isUndone_96 : decode cL_isUndone 96 = .ok (.iload 6, 2) := by decide +kernel
theorem dL_isUndone_98 : decode cL_isUndone 98 = .ok (.istore 4, 2) := by decide +kernel
theorem dL_isUndone_100 : decode cL_isUndone 100 = .ok (.iinc 5 1, 3) := by decide +kernel
theorem dL_isUndone_103 : decode cL_isUndone 103 = .ok (.aload_n 0, 1) := by decide +kernel
theorem dL_isUndone_104 : decode cL_isUndone 104 = .ok (.getfield 10, 3) := by decide +kernel
theorem dL_isUndone_107 : decode cL_isUndone 107 = .ok (.invokevirtual 389, 3) := by decide +kernel
theorem dL_isUndone_110 : decode cL_isUndone 110 = .ok (.istore 6, 2) := by decide +kernel
theorem dL_isUndone_112 : decode cL_isUndone 112 = .ok (.goto (-31), 3) := by decide +kernel
theorem dL_isUndone_115 : decode cL_isUndone 115 = .ok (.iload 5, 2) := by decide +kernel
theorem dL_isUndone_117 : decode cL_isUndone 117 = .ok (.iconst 1, 1) := by decide +kernel
theorem dL_isUndone_118 : decode cL_isUndone 118 = .ok (.isub, 1) := by decide +kernel
theorem dL_isUndone_119 : decode cL_isUndone 119 = .ok (.istore 6, 2) := by decide +kernel
theorem dL_isUndone_121 : decode cL_isUndone 121 = .ok (.iload 6, 2) := by decide +kernel
theorem dL_isUndone_123 : decode cL_isUndone 123 = .ok (.ifCond .lt 23, 3) := by decide +kernel
theorem dL_isUndone_126 : decode cL_isUndone 126 = .ok (.aload_n 0, 1) := by decide +kernel
theorem dL_isUndone_127 : decode cL_isUndone 127 = .ok (.getfield 10, 3) := by decide +kernel
theorem dL_isUndone_130 : decode cL_isUndone 130 = .ok (.invokevirtual 392, 3) := by decide +kernel
theorem dL_isUndone_133 : decode cL_isUndone 133 = .ok (.iload 6, 2) := by decide +kernel
theorem dL_isUndone_135 : decode cL_isUndone 135 = .ok (.if_icmp .eq 5, 3) := by decide +kernel
theorem dL_isUndone_138 : decode cL_isUndone 138 = .ok (.iconst 0, 1) := by decide +kernel
theorem dL_isUndone_139 : decode cL_isUndone 139 = .ok (.ireturn, 1) := by decide +kernel
theorem dL_isUndone_140 : decode cL_isUndone 140 = .ok (.iinc 6 (-1), 3) := by decide +kernel
theorem dL_isUndone_143 : decode cL_isUndone 143 = .ok (.goto (-22), 3) := by decide +kernel
theorem dL_isUndone_146 : decode cL_isUndone 146 = .ok (.aload_n 0, 1) := by decide +kernel
theorem dL_isUndone_147 : decode cL_isUndone 147 = .ok (.getfield 10, 3) := by decide +kernel
theorem dL_isUndone_150 : decode cL_isUndone 150 = .ok (.invokevirtual 392, 3) := by decide +kernel
theorem dL_isUndone_153 : decode cL_isUndone 153 = .ok (.iconst (-1), 1) := by decide +kernel
theorem dL_isUndone_154 : decode cL_isUndone 154 = .ok (.if_icmp .ne 14, 3) := by decide +kernel
theorem dL_isUndone_157 : decode cL_isUndone 157 = .ok (.aload_n 0, 1) := by decide +kernel
theorem dL_isUndone_158 : decode cL_isUndone 158 = .ok (.getfield 10, 3) := by decide +kernel
theorem dL_isUndone_161 : decode cL_isUndone 161 = .ok (.invokevirtual 229, 3) := by decide +kernel
theorem dL_isUndone_164 : decode cL_isUndone 164 = .ok (.iload_n 1, 1) := by decide +kernel
theorem dL_isUndone_165 : decode cL_isUndone 165 = .ok (.if_icmp .eq 5, 3) := by decide +kernel
theorem dL_isUndone_168 : decode cL_isUndone 168 = .ok (.iconst 0, 1) := by decide +kernel
theorem dL_isUndone_169 : decode cL_isUndone 169 = .ok (.ireturn, 1) := by decide +kernel
theorem dL_isUndone_170 : decode cL_isUndone 170 = .ok (.lconst 0, 1) := by decide +kernel
theorem dL_isUndone_171 : decode cL_isUndone 171 = .ok (.lstore 6, 2) := by decide +kernel
theorem dL_isUndone_173 : decode cL_isUndone 173 = .ok (.iconst 0, 1) := by decide +kernel
theorem dL_isUndone_174 : decode cL_isUndone 174 = .ok (.istore 8, 2) := by decide +kernel
theorem dL_isUndone_176 : decode cL_isUndone 176 = .ok (.iload 8, 2) := by decide +kernel
theorem dL_isUndone_178 : decode cL_isUndone 178 = .ok (.iload_n 1, 1) := by decide +kernel
theorem dL_isUndone_179 : decode cL_isUndone 179 = .ok (.if_icmp .ge 51, 3) := by decide +kernel
theorem dL_isUndone_182 : decode cL_isUndone 182 = .ok (.ldc2_w 382, 3) := by decide +kernel
theorem dL_isUndone_185 : decode cL_isUndone 185 = .ok (.lload 6, 2) := by decide +kernel
theorem dL_isUndone_187 : decode cL_isUndone 187 = .ok (.lmul, 1) := by decide +kernel
theorem dL_isUndone_188 : decode cL_isUndone 188 = .ok (.aload_n 0, 1) := by decide +kernel
theorem dL_isUndone_189 : decode cL_isUndone 189 = .ok (.getfield 10, 3) := by decide +kernel
theorem dL_isUndone_192 : decode cL_isUndone 192 = .ok (.aload_n 0, 1) := by decide +kernel
theorem dL_isUndone_193 : decode cL_isUndone 193 = .ok (.getfield 10, 3) := by decide +kernel
theorem dL_isUndone_196 : decode cL_isUndone 196 = .ok (.iload 8, 2) := by decide +kernel
theorem dL_isUndone_198 : decode cL_isUndone 198 = .ok (.invokevirtual 384, 3) := by decide +kernel
theorem dL_isUndone_201 : decode cL_isUndone 201 = .ok (.invokevirtual 240, 3) := by decide +kernel
theorem dL_isUndone_204 : decode cL_isUndone 204 = .ok (.i2l, 1) := by decide +kernel
theorem dL_isUndone_205 : decode cL_isUndone 205 = .ok (.aload_n 0, 1) := by decide +kernel
theorem dL_isUndone_206 : decode cL_isUndone 206 = .ok (.iconst 0, 1) := by decide +kernel
theorem dL_isUndone_207 : decode cL_isUndone 207 = .ok (.invokevirtual 201, 3) := by decide +kernel
theorem dL_isUndone_210 : decode cL_isUndone 210 = .ok (.lmul, 1) := by decide +kernel
theorem dL_isUndone_211 : decode cL_isUndone 211 = .ok (.ladd, 1) := by decide +kernel
theorem dL_isUndone_212 : decode cL_isUndone 212 = .ok (.ldc2_w 387, 3) := by decide +kernel
theorem dL_isUndone_215 : decode cL_isUndone 215 = .ok (.aload_n 0, 1) := by decide +kernel
theorem dL_isUndone_216 : decode cL_isUndone 216 = .ok (.iconst 1, 1) := by decide +kernel
theorem dL_isUndone_217 : decode cL_isUndone 217 = .ok (.invokevirtual 201, 3) := by decide +kernel
theorem dL_isUndone_220 : decode cL_isUndone 220 = .ok (.lmul, 1) := by decide +kernel
theorem dL_isUndone_221 : decode cL_isUndone 221 = .ok (.ladd, 1) := by decide +kernel
theorem dL_isUndone_222 : decode cL_isUndone 222 = .ok (.lstore 6, 2) := by decide +kernel
theorem dL_isUndone_224 : decode cL_isUndone 224 = .ok (.iinc 8 1, 3) := by decide +kernel
theorem dL_isUndone_227 : decode cL_isUndone 227 = .ok (.goto (-51), 3) := by decide +kernel
theorem dL_isUndone_230 : decode cL_isUndone 230 = .ok (.lload_n 2, 1) := by decide +kernel
theorem dL_isUndone_231 : decode cL_isUndone 231 = .ok (.lload 6, 2) := by decide +kernel
theorem dL_isUndone_233 : decode cL_isUndone 233 = .ok (.lcmp, 1) := by decide +kernel
theorem dL_isUndone_234 : decode cL_isUndone 234 = .ok (.ifCond .ne 12, 3) := by decide +kernel
theorem dL_isUndone_237 : decode cL_isUndone 237 = .ok (.iload 4, 2) := by decide +kernel
theorem dL_isUndone_239 : decode cL_isUndone 239 = .ok (.ifCond .ne 7, 3) := by decide +kernel
theorem dL_isUndone_242 : decode cL_isUndone 242 = .ok (.iconst 1, 1) := by decide +kernel
theorem dL_isUndone_243 : decode cL_isUndone 243 = .ok (.goto 4, 3) := by decide +kernel
theorem dL_isUndone_246 : decode cL_isUndone 246 = .ok (.iconst 0, 1) := by decide +kernel
theorem dL_isUndone_247 : decode cL_isUndone 247 = .ok (.ireturn, 1) := by decide +kernel
theorem dL_stirred_0 : decode cL_stirred 0 = .ok (.ldc_w 395, 3) := by decide +kernel
theorem dL_stirred_3 : decode cL_stirred 3 = .ok (.istore_n 1, 1) := by decide +kernel
theorem dL_stirred_4 : decode cL_stirred 4 = .ok (.aload_n 0, 1) := by decide +kernel
theorem dL_stirred_5 : decode cL_stirred 5 = .ok (.astore_n 2, 1) := by decide +kernel
theorem dL_stirred_6 : decode cL_stirred 6 = .ok (.aload_n 2, 1) := by decide +kernel
theorem dL_stirred_7 : decode cL_stirred 7 = .ok (.arraylength, 1) := by decide +kernel
theorem dL_stirred_8 : decode cL_stirred 8 = .ok (.istore_n 3, 1) := by decide +kernel
theorem dL_stirred_9 : decode cL_stirred 9 = .ok (.iconst 0, 1) := by decide +kernel
theorem dL_stirred_10 : decode cL_stirred 10 = .ok (.istore 4, 2) := by decide +kernel
theorem dL_stirred_12 : decode cL_stirred 12 = .ok (.iload 4, 2) := by decide +kernel
theorem dL_stirred_14 : decode cL_stirred 14 = .ok (.iload_n 3, 1) := by decide +kernel
theorem dL_stirred_15 : decode cL_stirred 15 = .ok (.if_icmp .ge 34, 3) := by decide +kernel
theorem dL_stirred_18 : decode cL_stirred 18 = .ok (.aload_n 2, 1) := by decide +kernel
theorem dL_stirred_19 : decode cL_stirred 19 = .ok (.iload 4, 2) := by decide +kernel
theorem dL_stirred_21 : decode cL_stirred 21 = .ok (.iaload, 1) := by decide +kernel
theorem dL_stirred_22 : decode cL_stirred 22 = .ok (.istore 5, 2) := by decide +kernel
theorem dL_stirred_24 : decode cL_stirred 24 = .ok (.iload_n 1, 1) := by decide +kernel
theorem dL_stirred_25 : decode cL_stirred 25 = .ok (.iload 5, 2) := by decide +kernel
theorem dL_stirred_27 : decode cL_stirred 27 = .ok (.ixor, 1) := by decide +kernel
theorem dL_stirred_28 : decode cL_stirred 28 = .ok (.ldc 46, 2) := by decide +kernel
theorem dL_stirred_30 : decode cL_stirred 30 = .ok (.imul, 1) := by decide +kernel
theorem dL_stirred_31 : decode cL_stirred 31 = .ok (.sipush 12345, 3) := by decide +kernel
theorem dL_stirred_34 : decode cL_stirred 34 = .ok (.iadd, 1) := by decide +kernel
theorem dL_stirred_35 : decode cL_stirred 35 = .ok (.istore_n 1, 1) := by decide +kernel
theorem dL_stirred_36 : decode cL_stirred 36 = .ok (.iload_n 1, 1) := by decide +kernel
theorem dL_stirred_37 : decode cL_stirred 37 = .ok (.iload_n 1, 1) := by decide +kernel
theorem dL_stirred_38 : decode cL_stirred 38 = .ok (.bipush 15, 2) := by decide +kernel
theorem dL_stirred_40 : decode cL_stirred 40 = .ok (.iushr, 1) := by decide +kernel
theorem dL_stirred_41 : decode cL_stirred 41 = .ok (.ixor, 1) := by decide +kernel
theorem dL_stirred_42 : decode cL_stirred 42 = .ok (.istore_n 1, 1) := by decide +kernel
theorem dL_stirred_43 : decode cL_stirred 43 = .ok (.iinc 4 1, 3) := by decide +kernel
theorem dL_stirred_46 : decode cL_stirred 46 = .ok (.goto (-34), 3) := by decide +kernel
theorem dL_stirred_49 : decode cL_stirred 49 = .ok (.iload_n 1, 1) := by decide +kernel
theorem dL_stirred_50 : decode cL_stirred 50 = .ok (.ireturn, 1) := by decide +kernel
theorem dL_law_0 : decode cL_law 0 = .ok (.new 11, 3) := by decide +kernel
theorem dL_law_3 : decode cL_law 3 = .ok (.dup, 1) := by decide +kernel
theorem dL_law_4 : decode cL_law 4 = .ok (.invokespecial 396, 3) := by decide +kernel
theorem dL_law_7 : decode cL_law 7 = .ok (.astore_n 1, 1) := by decide +kernel
theorem dL_law_8 : decode cL_law 8 = .ok (.aload_n 1, 1) := by decide +kernel
theorem dL_law_9 : decode cL_law 9 = .ok (.aload_n 0, 1) := by decide +kernel
theorem dL_law_10 : decode cL_law 10 = .ok (.invokestatic 397, 3) := by decide +kernel
theorem dL_law_13 : decode cL_law 13 = .ok (.putfield 42, 3) := by decide +kernel
theorem dL_law_16 : decode cL_law 16 = .ok (.aload_n 1, 1) := by decide +kernel
theorem dL_law_17 : decode cL_law 17 = .ok (.invokevirtual 401, 3) := by decide +kernel
theorem dL_law_20 : decode cL_law 20 = .ok (.ifCond .ne 5, 3) := by decide +kernel
theorem dL_law_23 : decode cL_law 23 = .ok (.iconst 0, 1) := by decide +kernel
theorem dL_law_24 : decode cL_law 24 = .ok (.ireturn, 1) := by decide +kernel
theorem dL_law_25 : decode cL_law 25 = .ok (.iconst 0, 1) := by decide +kernel
theorem dL_law_26 : decode cL_law 26 = .ok (.istore_n 2, 1) := by decide +kernel
theorem dL_law_27 : decode cL_law 27 = .ok (.iload_n 2, 1) := by decide +kernel
theorem dL_law_28 : decode cL_law 28 = .ok (.bipush 8, 2) := by decide +kernel
theorem dL_law_30 : decode cL_law 30 = .ok (.if_icmp .ge 18, 3) := by decide +kernel
theorem dL_law_33 : decode cL_law 33 = .ok (.aload_n 1, 1) := by decide +kernel
theorem dL_law_34 : decode cL_law 34 = .ok (.invokevirtual 404, 3) := by decide +kernel
theorem dL_law_37 : decode cL_law 37 = .ok (.ifCond .ne 5, 3) := by decide +kernel
theorem dL_law_40 : decode cL_law 40 = .ok (.iconst 0, 1) := by decide +kernel
theorem dL_law_41 : decode cL_law 41 = .ok (.ireturn, 1) := by decide +kernel
theorem dL_law_42 : decode cL_law 42 = .ok (.iinc 2 1, 3) := by decide +kernel
theorem dL_law_45 : decode cL_law 45 = .ok (.goto (-18), 3) := by decide +kernel
theorem dL_law_48 : decode cL_law 48 = .ok (.aload_n 1, 1) := by decide +kernel
theorem dL_law_49 : decode cL_law 49 = .ok (.invokevirtual 407, 3) := by decide +kernel
theorem dL_law_52 : decode cL_law 52 = .ok (.ifCond .eq 31, 3) := by decide +kernel
theorem dL_law_55 : decode cL_law 55 = .ok (.aload_n 1, 1) := by decide +kernel
theorem dL_law_56 : decode cL_law 56 = .ok (.invokevirtual 404, 3) := by decide +kernel
theorem dL_law_59 : decode cL_law 59 = .ok (.ifCond .eq 24, 3) := by decide +kernel
theorem dL_law_62 : decode cL_law 62 = .ok (.aload_n 1, 1) := by decide +kernel
theorem dL_law_63 : decode cL_law 63 = .ok (.invokevirtual 410, 3) := by decide +kernel
theorem dL_law_66 : decode cL_law 66 = .ok (.ifCond .eq 17, 3) := by decide +kernel
theorem dL_law_69 : decode cL_law 69 = .ok (.aload_n 1, 1) := by decide +kernel
theorem dL_law_70 : decode cL_law 70 = .ok (.getfield 10, 3) := by decide +kernel
theorem dL_law_73 : decode cL_law 73 = .ok (.invokevirtual 413, 3) := by decide +kernel
theorem dL_law_76 : decode cL_law 76 = .ok (.ifCond .ne 7, 3) := by decide +kernel
theorem dL_law_79 : decode cL_law 79 = .ok (.iconst 1, 1) := by decide +kernel
theorem dL_law_80 : decode cL_law 80 = .ok (.goto 4, 3) := by decide +kernel
theorem dL_law_83 : decode cL_law 83 = .ok (.iconst 0, 1) := by decide +kernel
theorem dL_law_84 : decode cL_law 84 = .ok (.ireturn, 1) := by decide +kernel
