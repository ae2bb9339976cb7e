theorem dX7_placed_0 : decode cX7_placed 0 = .ok (.aload_n 0, 1) := by decide +kernel
theorem dX7_placed_1 : decode cX7_placed 1 = .ok (.getfield 71, 3) := by decide +kernel
theorem dX7_placed_4 : decode cX7_placed 4 = .ok (.iload_n 1, 1) := by decide +kernel
theorem dX7_placed_5 : decode cX7_placed 5 = .ok (.sipush 179, 3) := by decide +kernel
theorem dX7_placed_8 : decode cX7_placed 8 = .ok (.imul, 1) := by decide +kernel
theorem dX7_placed_9 : decode cX7_placed 9 = .ok (.iconst 1, 1) := by decide +kernel
theorem dX7_placed_10 : decode cX7_placed 10 = .ok (.iadd, 1) := by decide +kernel
theorem dX7_placed_11 : decode cX7_placed 11 = .ok (.iaload, 1) := by decide +kernel
theorem dX7_placed_12 : decode cX7_placed 12 = .ok (.ireturn, 1) := by decide +kernel
theorem dX7_inPlace_0 : decode cX7_inPlace 0 = .ok (.aload_n 0, 1) := by decide +kernel
theorem dX7_inPlace_1 : decode cX7_inPlace 1 = .ok (.getfield 71, 3) := by decide +kernel
theorem dX7_inPlace_4 : decode cX7_inPlace 4 = .ok (.iload_n 1, 1) := by decide +kernel
theorem dX7_inPlace_5 : decode cX7_inPlace 5 = .ok (.sipush 179, 3) := by decide +kernel
theorem dX7_inPlace_8 : decode cX7_inPlace 8 = .ok (.imul, 1) := by decide +kernel
theorem dX7_inPlace_9 : decode cX7_inPlace 9 = .ok (.iconst 3, 1) := by decide +kernel
theorem dX7_inPlace_10 : decode cX7_inPlace 10 = .ok (.iadd, 1) := by decide +kernel
theorem dX7_inPlace_11 : decode cX7_inPlace 11 = .ok (.iload_n 2, 1) := by decide +kernel
theorem dX7_inPlace_12 : decode cX7_inPlace 12 = .ok (.iadd, 1) := by decide +kernel
theorem dX7_inPlace_13 : decode cX7_inPlace 13 = .ok (.iaload, 1) := by decide +kernel
theorem dX7_inPlace_14 : decode cX7_inPlace 14 = .ok (.ireturn, 1) := by decide +kernel
theorem dX7_placeOf_0 : decode cX7_placeOf 0 = .ok (.iconst 0, 1) := by decide +kernel
theorem dX7_placeOf_1 : decode cX7_placeOf 1 = .ok (.istore_n 3, 1) := by decide +kernel
theorem dX7_placeOf_2 : decode cX7_placeOf 2 = .ok (.aload_n 0, 1) := by decide +kernel
theorem dX7_placeOf_3 : decode cX7_placeOf 3 = .ok (.iload_n 1, 1) := by decide +kernel
theorem dX7_placeOf_4 : decode cX7_placeOf 4 = .ok (.iload_n 3, 1) := by decide +kernel
theorem dX7_placeOf_5 : decode cX7_placeOf 5 = .ok (.invokevirtual 157, 3) := by decide +kernel
theorem dX7_placeOf_8 : decode cX7_placeOf 8 = .ok (.iload_n 2, 1) := by decide +kernel
theorem dX7_placeOf_9 : decode cX7_placeOf 9 = .ok (.if_icmp .eq 9, 3) := by decide +kernel
theorem dX7_placeOf_12 : decode cX7_placeOf 12 = .ok (.iinc 3 1, 3) := by decide +kernel
theorem dX7_placeOf_15 : decode cX7_placeOf 15 = .ok (.goto (-13), 3) := by decide +kernel
theorem dX7_placeOf_18 : decode cX7_placeOf 18 = .ok (.iload_n 3, 1) := by decide +kernel
theorem dX7_placeOf_19 : decode cX7_placeOf 19 = .ok (.ireturn, 1) := by decide +kernel
theorem dX7_addsMovers_0 : decode cX7_addsMovers 0 = .ok (.iload 5, 2) := by decide +kernel
theorem dX7_addsMovers_2 : decode cX7_addsMovers 2 = .ok (.istore 6, 2) := by decide +kernel
theorem dX7_addsMovers_4 : decode cX7_addsMovers 4 = .ok (.iload_n 3, 1) := by decide +kernel
theorem dX7_addsMovers_5 : decode cX7_addsMovers 5 = .ok (.istore 7, 2) := by decide +kernel
theorem dX7_addsMovers_7 : decode cX7_addsMovers 7 = .ok (.iload 7, 2) := by decide +kernel
theorem dX7_addsMovers_9 : decode cX7_addsMovers 9 = .ok (.iload 4, 2) := by decide +kernel
theorem dX7_addsMovers_11 : decode cX7_addsMovers 11 = .ok (.if_icmp .gt 40, 3) := by decide +kernel
theorem dX7_addsMovers_14 : decode cX7_addsMovers 14 = .ok (.iload_n 2, 1) := by decide +kernel
theorem dX7_addsMovers_15 : decode cX7_addsMovers 15 = .ok (.aload_n 0, 1) := by decide +kernel
theorem dX7_addsMovers_16 : decode cX7_addsMovers 16 = .ok (.iload_n 1, 1) := by decide +kernel
theorem dX7_addsMovers_17 : decode cX7_addsMovers 17 = .ok (.iload 7, 2) := by decide +kernel
theorem dX7_addsMovers_19 : decode cX7_addsMovers 19 = .ok (.invokevirtual 157, 3) := by decide +kernel
theorem dX7_addsMovers_22 : decode cX7_addsMovers 22 = .ok (.invokestatic 133, 3) := by decide +kernel
theorem dX7_addsMovers_25 : decode cX7_addsMovers 25 = .ok (.ifCond .eq 20, 3) := by decide +kernel
theorem dX7_addsMovers_28 : decode cX7_addsMovers 28 = .ok (.aload_n 0, 1) := by decide +kernel
theorem dX7_addsMovers_29 : decode cX7_addsMovers 29 = .ok (.getfield 77, 3) := by decide +kernel
theorem dX7_addsMovers_32 : decode cX7_addsMovers 32 = .ok (.iload 6, 2) := by decide +kernel
theorem dX7_addsMovers_34 : decode cX7_addsMovers 34 = .ok (.aload_n 0, 1) := by decide +kernel
theorem dX7_addsMovers_35 : decode cX7_addsMovers 35 = .ok (.iload_n 1, 1) := by decide +kernel
theorem dX7_addsMovers_36 : decode cX7_addsMovers 36 = .ok (.iload 7, 2) := by decide +kernel
theorem dX7_addsMovers_38 : decode cX7_addsMovers 38 = .ok (.invokevirtual 157, 3) := by decide +kernel
theorem dX7_addsMovers_41 : decode cX7_addsMovers 41 = .ok (.iastore, 1) := by decide +kernel
theorem dX7_addsMovers_42 : decode cX7_addsMovers 42 = .ok (.iinc 6 1, 3) := by decide +kernel
theorem dX7_addsMovers_45 : decode cX7_addsMovers 45 = .ok (.iinc 7 1, 3) := by decide +kernel
theorem dX7_addsMovers_48 : decode cX7_addsMovers 48 = .ok (.goto (-41), 3) := by decide +kernel
theorem dX7_addsMovers_51 : decode cX7_addsMovers 51 = .ok (.iload 6, 2) := by decide +kernel
theorem dX7_addsMovers_53 : decode cX7_addsMovers 53 = .ok (.ireturn, 1) := by decide +kernel
theorem dX7_mends_0 : decode cX7_mends 0 = .ok (.aload_n 0, 1) := by decide +kernel
theorem dX7_mends_1 : decode cX7_mends 1 = .ok (.iload_n 1, 1) := by decide +kernel
theorem dX7_mends_2 : decode cX7_mends 2 = .ok (.iload_n 3, 1) := by decide +kernel
theorem dX7_mends_3 : decode cX7_mends 3 = .ok (.invokevirtual 160, 3) := by decide +kernel
theorem dX7_mends_6 : decode cX7_mends 6 = .ok (.istore 4, 2) := by decide +kernel
theorem dX7_mends_8 : decode cX7_mends 8 = .ok (.aload_n 0, 1) := by decide +kernel
theorem dX7_mends_9 : decode cX7_mends 9 = .ok (.iload_n 1, 1) := by decide +kernel
theorem dX7_mends_10 : decode cX7_mends 10 = .ok (.iload_n 2, 1) := by decide +kernel
theorem dX7_mends_11 : decode cX7_mends 11 = .ok (.invokevirtual 160, 3) := by decide +kernel
theorem dX7_mends_14 : decode cX7_mends 14 = .ok (.istore 5, 2) := by decide +kernel
theorem dX7_mends_16 : decode cX7_mends 16 = .ok (.iload 5, 2) := by decide +kernel
theorem dX7_mends_18 : decode cX7_mends 18 = .ok (.iload 4, 2) := by decide +kernel
theorem dX7_mends_20 : decode cX7_mends 20 = .ok (.if_icmp .ge 5, 3) := by decide +kernel
theorem dX7_mends_23 : decode cX7_mends 23 = .ok (.iconst 0, 1) := by decide +kernel
theorem dX7_mends_24 : decode cX7_mends 24 = .ok (.ireturn, 1) := by decide +kernel
theorem dX7_mends_25 : decode cX7_mends 25 = .ok (.aload_n 0, 1) := by decide +kernel
theorem dX7_mends_26 : decode cX7_mends 26 = .ok (.iload_n 1, 1) := by decide +kernel
theorem dX7_mends_27 : decode cX7_mends 27 = .ok (.iload_n 2, 1) := by decide +kernel
theorem dX7_mends_28 : decode cX7_mends 28 = .ok (.invokevirtual 163, 3) := by decide +kernel
theorem dX7_mends_31 : decode cX7_mends 31 = .ok (.istore 6, 2) := by decide +kernel
theorem dX7_mends_33 : decode cX7_mends 33 = .ok (.aload_n 0, 1) := by decide +kernel
theorem dX7_mends_34 : decode cX7_mends 34 = .ok (.iload_n 1, 1) := by decide +kernel
theorem dX7_mends_35 : decode cX7_mends 35 = .ok (.iload_n 3, 1) := by decide +kernel
theorem dX7_mends_36 : decode cX7_mends 36 = .ok (.invokevirtual 166, 3) := by decide +kernel
theorem dX7_mends_39 : decode cX7_mends 39 = .ok (.istore 7, 2) := by decide +kernel
theorem dX7_mends_41 : decode cX7_mends 41 = .ok (.aload_n 0, 1) := by decide +kernel
theorem dX7_mends_42 : decode cX7_mends 42 = .ok (.iload_n 1, 1) := by decide +kernel
theorem dX7_mends_43 : decode cX7_mends 43 = .ok (.iload 6, 2) := by decide +kernel
theorem dX7_mends_45 : decode cX7_mends 45 = .ok (.iload 4, 2) := by decide +kernel
theorem dX7_mends_47 : decode cX7_mends 47 = .ok (.aload_n 0, 1) := by decide +kernel
theorem dX7_mends_48 : decode cX7_mends 48 = .ok (.iload_n 1, 1) := by decide +kernel
theorem dX7_mends_49 : decode cX7_mends 49 = .ok (.invokevirtual 169, 3) := by decide +kernel
theorem dX7_mends_52 : decode cX7_mends 52 = .ok (.iconst 1, 1) := by decide +kernel
theorem dX7_mends_53 : decode cX7_mends 53 = .ok (.isub, 1) := by decide +kernel
theorem dX7_mends_54 : decode cX7_mends 54 = .ok (.iconst 0, 1) := by decide +kernel
theorem dX7_mends_55 : decode cX7_mends 55 = .ok (.invokevirtual 172, 3) := by decide +kernel
theorem dX7_mends_58 : decode cX7_mends 58 = .ok (.istore 8, 2) := by decide +kernel
theorem dX7_mends_60 : decode cX7_mends 60 = .ok (.aload_n 0, 1) := by decide +kernel
theorem dX7_mends_61 : decode cX7_mends 61 = .ok (.iload_n 1, 1) := by decide +kernel
theorem dX7_mends_62 : decode cX7_mends 62 = .ok (.iload 7, 2) := by decide +kernel
theorem dX7_mends_64 : decode cX7_mends 64 = .ok (.iconst 0, 1) := by decide +kernel
theorem dX7_mends_65 : decode cX7_mends 65 = .ok (.iload 5, 2) := by decide +kernel
theorem dX7_mends_67 : decode cX7_mends 67 = .ok (.iload 8, 2) := by decide +kernel
theorem dX7_mends_69 : decode cX7_mends 69 = .ok (.invokevirtual 172, 3) := by decide +kernel
theorem dX7_mends_72 : decode cX7_mends 72 = .ok (.istore 8, 2) := by decide +kernel
theorem dX7_mends_74 : decode cX7_mends 74 = .ok (.iconst 0, 1) := by decide +kernel
theorem dX7_mends_75 : decode cX7_mends 75 = .ok (.istore 9, 2) := by decide +kernel
theorem dX7_mends_77 : decode cX7_mends 77 = .ok (.iconst 0, 1) := by decide +kernel
theorem dX7_mends_78 : decode cX7_mends 78 = .ok (.istore 10, 2) := by decide +kernel
theorem dX7_mends_80 : decode cX7_mends 80 = .ok (.iload 10, 2) := by decide +kernel
theorem dX7_mends_82 : decode cX7_mends 82 = .ok (.aload_n 0, 1) := by decide +kernel
theorem dX7_mends_83 : decode cX7_mends 83 = .ok (.iload_n 1, 1) := by decide +kernel
theorem dX7_mends_84 : decode cX7_mends 84 = .ok (.invokevirtual 169, 3) := by decide +kernel
theorem dX7_mends_87 : decode cX7_mends 87 = .ok (.if_icmp .ge 74, 3) := by decide +kernel
theorem dX7_mends_90 : decode cX7_mends 90 = .ok (.iconst 0, 1) := by decide +kernel
theorem dX7_mends_91 : decode cX7_mends 91 = .ok (.istore 11, 2) := by decide +kernel
theorem dX7_mends_93 : decode cX7_mends 93 = .ok (.iconst 0, 1) := by decide +kernel
theorem dX7_mends_94 : decode cX7_mends 94 = .ok (.istore 12, 2) := by decide +kernel
theorem dX7_mends_96 : decode cX7_mends 96 = .ok (.iload 12, 2) := by decide +kernel
theorem dX7_mends_98 : decode cX7_mends 98 = .ok (.iload 8, 2) := by decide +kernel
theorem dX7_mends_100 : decode cX7_mends 100 = .ok (.if_icmp .ge 38, 3) := by decide +kernel
theorem dX7_mends_103 : decode cX7_mends 103 = .ok (.iload 11, 2) := by decide +kernel
theorem dX7_mends_105 : decode cX7_mends 105 = .ok (.ifCond .ne 20, 3) := by decide +kernel
theorem dX7_mends_108 : decode cX7_mends 108 = .ok (.aload_n 0, 1) := by decide +kernel
theorem dX7_mends_109 : decode cX7_mends 109 = .ok (.getfield 77, 3) := by decide +kernel
theorem dX7_mends_112 : decode cX7_mends 112 = .ok (.iload 12, 2) := by decide +kernel
theorem dX7_mends_114 : decode cX7_mends 114 = .ok (.iaload, 1) := by decide +kernel
theorem dX7_mends_115 : decode cX7_mends 115 = .ok (.aload_n 0, 1) := by decide +kernel
theorem dX7_mends_116 : decode cX7_mends 116 = .ok (.iload_n 1, 1) := by decide +kernel
theorem dX7_mends_117 : decode cX7_mends 117 = .ok (.iload 10, 2) := by decide +kernel
theorem dX7_mends_119 : decode cX7_mends 119 = .ok (.invokevirtual 157, 3) := by decide +kernel
theorem dX7_mends_122 : decode cX7_mends 122 = .ok (.if_icmp .ne 7, 3) := by decide +kernel
theorem dX7_mends_125 : decode cX7_mends 125 = .ok (.iconst 1, 1) := by decide +kernel
theorem dX7_mends_126 : decode cX7_mends 126 = .ok (.goto 4, 3) := by decide +kernel
theorem dX7_mends_129 : decode cX7_mends 129 = .ok (.iconst 0, 1) := by decide +kernel
theorem dX7_mends_130 : decode cX7_mends 130 = .ok (.istore 11, 2) := by decide +kernel
theorem dX7_mends_132 : decode cX7_mends 132 = .ok (.iinc 12 1, 3) := by decide +kernel
theorem dX7_mends_135 : decode cX7_mends 135 = .ok (.goto (-39), 3) := by decide +kernel
theorem dX7_mends_138 : decode cX7_mends 138 = .ok (.iload 11, 2) := by decide +kernel
theorem dX7_mends_140 : decode cX7_mends 140 = .ok (.ifCond .eq 15, 3) := by decide +kernel
theorem dX7_mends_143 : decode cX7_mends 143 = .ok (.aload_n 0, 1) := by decide +kernel
theorem dX7_mends_144 : decode cX7_mends 144 = .ok (.getfield 74, 3) := by decide +kernel
theorem dX7_mends_147 : decode cX7_mends 147 = .ok (.iload 9, 2) := by decide +kernel
theorem dX7_mends_149 : decode cX7_mends 149 = .ok (.iload 10, 2) := by decide +kernel
theorem dX7_mends_151 : decode cX7_mends 151 = .ok (.iastore, 1) := by decide +kernel
theorem dX7_mends_152 : decode cX7_mends 152 = .ok (.iinc 9 1, 3) := by decide +kernel
theorem dX7_mends_155 : decode cX7_mends 155 = .ok (.iinc 10 1, 3) := by decide +kernel
theorem dX7_mends_158 : decode cX7_mends 158 = .ok (.goto (-78), 3) := by decide +kernel
theorem dX7_mends_161 : decode cX7_mends 161 = .ok (.iconst 0, 1) := by decide +kernel
theorem dX7_mends_162 : decode cX7_mends 162 = .ok (.istore 10, 2) := by decide +kernel
theorem dX7_mends_164 : decode cX7_mends 164 = .ok (.iconst 0, 1) := by decide +kernel
theorem dX7_mends_165 : decode cX7_mends 165 = .ok (.istore 11, 2) := by decide +kernel
theorem dX7_mends_167 : decode cX7_mends 167 = .ok (.iload 11, 2) := by decide +kernel
theorem dX7_mends_169 : decode cX7_mends 169 = .ok (.iload 9, 2) := by decide +kernel
theorem dX7_mends_171 : decode cX7_mends 171 = .ok (.if_icmp .ge 70, 3) := by decide +kernel
theorem dX7_mends_174 : decode cX7_mends 174 = .ok (.iload_n 1, 1) := by decide +kernel
theorem dX7_mends_175 : decode cX7_mends 175 = .ok (.sipush 179, 3) := by decide +kernel
theorem dX7_mends_178 : decode cX7_mends 178 = .ok (.imul, 1) := by decide +kernel
theorem dX7_mends_179 : decode cX7_mends 179 = .ok (.iconst 3, 1) := by decide +kernel
theorem dX7_mends_180 : decode cX7_mends 180 = .ok (.iadd, 1) := by decide +kernel
theorem dX7_mends_181 : decode cX7_mends 181 = .ok (.aload_n 0, 1) := by decide +kernel
theorem dX7_mends_182 : decode cX7_mends 182 = .ok (.getfield 74, 3) := by decide +kernel
theorem dX7_mends_185 : decode cX7_mends 185 = .ok (.iload 11, 2) := by decide +kernel
theorem dX7_mends_187 : decode cX7_mends 187 = .ok (.iaload, 1) := by decide +kernel
theorem dX7_mends_188 : decode cX7_mends 188 = .ok (.iadd, 1) := by decide +kernel
theorem dX7_mends_189 : decode cX7_mends 189 = .ok (.istore 12, 2) := by decide +kernel
theorem dX7_mends_191 : decode cX7_mends 191 = .ok (.iload 10, 2) := by decide +kernel
theorem dX7_mends_193 : decode cX7_mends 193 = .ok (.aload_n 0, 1) := by decide +kernel
theorem dX7_mends_194 : decode cX7_mends 194 = .ok (.getfield 71, 3) := by decide +kernel
theorem dX7_mends_197 : decode cX7_mends 197 = .ok (.iload 12, 2) := by decide +kernel
theorem dX7_mends_199 : decode cX7_mends 199 = .ok (.iaload, 1) := by decide +kernel
theorem dX7_mends_200 : decode cX7_mends 200 = .ok (.aload_n 0, 1) := by decide +kernel
theorem dX7_mends_201 : decode cX7_mends 201 = .ok (.getfield 77, 3) := by decide +kernel
theorem dX7_mends_204 : decode cX7_mends 204 = .ok (.iload 11, 2) := by decide +kernel
theorem dX7_mends_206 : decode cX7_mends 206 = .ok (.iaload, 1) := by decide +kernel
theorem dX7_mends_207 : decode cX7_mends 207 = .ok (.if_icmp .eq 7, 3) := by decide +kernel
theorem dX7_mends_210 : decode cX7_mends 210 = .ok (.iconst 1, 1) := by decide +kernel
theorem dX7_mends_211 : decode cX7_mends 211 = .ok (.goto 4, 3) := by decide +kernel
theorem dX7_mends_214 : decode cX7_mends 214 = .ok (.iconst 0, 1) := by decide +kernel
theorem dX7_mends_215 : decode cX7_mends 215 = .ok (.invokestatic 45, 3) := by decide +kernel
theorem dX7_mends_218 : decode cX7_mends 218 = .ok (.iadd, 1) := by decide +kernel
theorem dX7_mends_219 : decode cX7_mends 219 = .ok (.istore 10, 2) := by decide +kernel
theorem dX7_mends_221 : decode cX7_mends 221 = .ok (.aload_n 0, 1) := by decide +kernel
theorem dX7_mends_222 : decode cX7_mends 222 = .ok (.getfield 71, 3) := by decide +kernel
theorem dX7_mends_225 : decode cX7_mends 225 = .ok (.iload 12, 2) := by decide +kernel
theorem dX7_mends_227 : decode cX7_mends 227 = .ok (.aload_n 0, 1) := by decide +kernel
theorem dX7_mends_228 : decode cX7_mends 228 = .ok (.getfield 77, 3) := by decide +kernel
theorem dX7_mends_231 : decode cX7_mends 231 = .ok (.iload 11, 2) := by decide +kernel
theorem dX7_mends_233 : decode cX7_mends 233 = .ok (.iaload, 1) := by decide +kernel
theorem dX7_mends_234 : decode cX7_mends 234 = .ok (.iastore, 1) := by decide +kernel
theorem dX7_mends_235 : decode cX7_mends 235 = .ok (.iinc 11 1, 3) := by decide +kernel
theorem dX7_mends_238 : decode cX7_mends 238 = .ok (.goto (-71), 3) := by decide +kernel
theorem dX7_mends_241 : decode cX7_mends 241 = .ok (.iload 10, 2) := by decide +kernel
theorem dX7_mends_243 : decode cX7_mends 243 = .ok (.ireturn, 1) := by decide +kernel
theorem dX7_isLinked_0 : decode cX7_isLinked 0 = .ok (.aload_n 0, 1) := by decide +kernel
theorem dX7_isLinked_1 : decode cX7_isLinked 1 = .ok (.iload_n 1, 1) := by decide +kernel
theorem dX7_isLinked_2 : decode cX7_isLinked 2 = .ok (.iload_n 2, 1) := by decide +kernel
theorem dX7_isLinked_3 : decode cX7_isLinked 3 = .ok (.invokevirtual 143, 3) := by decide +kernel
theorem dX7_isLinked_6 : decode cX7_isLinked 6 = .ok (.iload_n 3, 1) := by decide +kernel
theorem dX7_isLinked_7 : decode cX7_isLinked 7 = .ok (.invokestatic 133, 3) := by decide +kernel
theorem dX7_isLinked_10 : decode cX7_isLinked 10 = .ok (.ireturn, 1) := by decide +kernel
theorem dX7_comes_0 : decode cX7_comes 0 = .ok (.aload_n 0, 1) := by decide +kernel
theorem dX7_comes_1 : decode cX7_comes 1 = .ok (.iload_n 1, 1) := by decide +kernel
theorem dX7_comes_2 : decode cX7_comes 2 = .ok (.iload_n 2, 1) := by decide +kernel
theorem dX7_comes_3 : decode cX7_comes 3 = .ok (.iload_n 3, 1) := by decide +kernel
theorem dX7_comes_4 : decode cX7_comes 4 = .ok (.invokevirtual 176, 3) := by decide +kernel
theorem dX7_comes_7 : decode cX7_comes 7 = .ok (.ifCond .eq 6, 3) := by decide +kernel
theorem dX7_comes_10 : decode cX7_comes 10 = .ok (.bipush (-2), 2) := by decide +kernel
theorem dX7_comes_12 : decode cX7_comes 12 = .ok (.ireturn, 1) := by decide +kernel
theorem dX7_comes_13 : decode cX7_comes 13 = .ok (.aload_n 0, 1) := by decide +kernel
theorem dX7_comes_14 : decode cX7_comes 14 = .ok (.iload_n 1, 1) := by decide +kernel
theorem dX7_comes_15 : decode cX7_comes 15 = .ok (.iload_n 2, 1) := by decide +kernel
theorem dX7_comes_16 : decode cX7_comes 16 = .ok (.invokevirtual 163, 3) := by decide +kernel
theorem dX7_comes_19 : decode cX7_comes 19 = .ok (.iload_n 3, 1) := by decide +kernel
theorem dX7_comes_20 : decode cX7_comes 20 = .ok (.invokestatic 133, 3) := by decide +kernel
theorem dX7_comes_23 : decode cX7_comes 23 = .ok (.ifCond .eq 6, 3) := by decide +kernel
theorem dX7_comes_26 : decode cX7_comes 26 = .ok (.bipush (-4), 2) := by decide +kernel
theorem dX7_comes_28 : decode cX7_comes 28 = .ok (.ireturn, 1) := by decide +kernel
theorem dX7_comes_29 : decode cX7_comes 29 = .ok (.aload_n 0, 1) := by decide +kernel
theorem dX7_comes_30 : decode cX7_comes 30 = .ok (.iload_n 1, 1) := by decide +kernel
theorem dX7_comes_31 : decode cX7_comes 31 = .ok (.iload_n 2, 1) := by decide +kernel
theorem dX7_comes_32 : decode cX7_comes 32 = .ok (.iload_n 3, 1) := by decide +kernel
theorem dX7_comes_33 : decode cX7_comes 33 = .ok (.invokevirtual 180, 3) := by decide +kernel
theorem dX7_comes_36 : decode cX7_comes 36 = .ok (.istore 4, 2) := by decide +kernel
theorem dX7_comes_38 : decode cX7_comes 38 = .ok (.aload_n 0, 1) := by decide +kernel
theorem dX7_comes_39 : decode cX7_comes 39 = .ok (.getfield 71, 3) := by decide +kernel
theorem dX7_comes_42 : decode cX7_comes 42 = .ok (.iload_n 1, 1) := by decide +kernel
theorem dX7_comes_43 : decode cX7_comes 43 = .ok (.sipush 179, 3) := by decide +kernel
theorem dX7_comes_46 : decode cX7_comes 46 = .ok (.imul, 1) := by decide +kernel
theorem dX7_comes_47 : decode cX7_comes 47 = .ok (.bipush 107, 2) := by decide +kernel
theorem dX7_comes_49 : decode cX7_comes 49 = .ok (.iadd, 1) := by decide +kernel
theorem dX7_comes_50 : decode cX7_comes 50 = .ok (.iload_n 2, 1) := by decide +kernel
theorem dX7_comes_51 : decode cX7_comes 51 = .ok (.iadd, 1) := by decide +kernel
theorem dX7_comes_52 : decode cX7_comes 52 = .ok (.dup2, 1) := by decide +kernel
theorem dX7_comes_53 : decode cX7_comes 53 = .ok (.iaload, 1) := by decide +kernel
theorem dX7_comes_54 : decode cX7_comes 54 = .ok (.iconst 1, 1) := by decide +kernel
theorem dX7_comes_55 : decode cX7_comes 55 = .ok (.iload_n 3, 1) := by decide +kernel
theorem dX7_comes_56 : decode cX7_comes 56 = .ok (.ishl, 1) := by decide +kernel
theorem dX7_comes_57 : decode cX7_comes 57 = .ok (.ior, 1) := by decide +kernel
theorem dX7_comes_58 : decode cX7_comes 58 = .ok (.iastore, 1) := by decide +kernel
theorem dX7_comes_59 : decode cX7_comes 59 = .ok (.iload 4, 2) := by decide +kernel
theorem dX7_comes_61 : decode cX7_comes 61 = .ok (.ireturn, 1) := by decide +kernel
theorem dX7_steps_0 : decode cX7_steps 0 = .ok (.aload_n 0, 1) := by decide +kernel
theorem dX7_steps_1 : decode cX7_steps 1 = .ok (.iload_n 1, 1) := by decide +kernel
theorem dX7_steps_2 : decode cX7_steps 2 = .ok (.iload_n 2, 1) := by decide +kernel
theorem dX7_steps_3 : decode cX7_steps 3 = .ok (.iload_n 3, 1) := by decide +kernel
theorem dX7_steps_4 : decode cX7_steps 4 = .ok (.invokevirtual 176, 3) := by decide +kernel
theorem dX7_steps_7 : decode cX7_steps 7 = .ok (.ifCond .eq 19, 3) := by decide +kernel
theorem dX7_steps_10 : decode cX7_steps 10 = .ok (.iload_n 2, 1) := by decide +kernel
theorem dX7_steps_11 : decode cX7_steps 11 = .ok (.iload 4, 2) := by decide +kernel
theorem dX7_steps_13 : decode cX7_steps 13 = .ok (.if_icmp .ne 9, 3) := by decide +kernel
theorem dX7_steps_16 : decode cX7_steps 16 = .ok (.iload_n 3, 1) := by decide +kernel
theorem dX7_steps_17 : decode cX7_steps 17 = .ok (.iload 5, 2) := by decide +kernel
theorem dX7_steps_19 : decode cX7_steps 19 = .ok (.if_icmp .eq 7, 3) := by decide +kernel
theorem dX7_steps_22 : decode cX7_steps 22 = .ok (.iconst 1, 1) := by decide +kernel
theorem dX7_steps_23 : decode cX7_steps 23 = .ok (.goto 4, 3) := by decide +kernel
theorem dX7_steps_26 : decode cX7_steps 26 = .ok (.iconst 0, 1) := by decide +kernel
theorem dX7_steps_27 : decode cX7_steps 27 = .ok (.ireturn, 1) := by decide +kernel
theorem dX7_findsWay_0 : decode cX7_findsWay 0 = .ok (.iload 4, 2) := by decide +kernel
theorem dX7_findsWay_2 : decode cX7_findsWay 2 = .ok (.ifCond .eq 7, 3) := by decide +kernel
theorem dX7_findsWay_5 : decode cX7_findsWay 5 = .ok (.iload_n 2, 1) := by decide +kernel
theorem dX7_findsWay_6 : decode cX7_findsWay 6 = .ok (.goto 4, 3) := by decide +kernel
theorem dX7_findsWay_9 : decode cX7_findsWay 9 = .ok (.iconst (-1), 1) := by decide +kernel
theorem dX7_findsWay_10 : decode cX7_findsWay 10 = .ok (.istore 5, 2) := by decide +kernel
theorem dX7_findsWay_12 : decode cX7_findsWay 12 = .ok (.iconst 0, 1) := by decide +kernel
theorem dX7_findsWay_13 : decode cX7_findsWay 13 = .ok (.istore 6, 2) := by decide +kernel
theorem dX7_findsWay_15 : decode cX7_findsWay 15 = .ok (.iload 6, 2) := by decide +kernel
theorem dX7_findsWay_17 : decode cX7_findsWay 17 = .ok (.bipush 24, 2) := by decide +kernel
theorem dX7_findsWay_19 : decode cX7_findsWay 19 = .ok (.if_icmp .ge 29, 3) := by decide +kernel
theorem dX7_findsWay_22 : decode cX7_findsWay 22 = .ok (.aload_n 0, 1) := by decide +kernel
theorem dX7_findsWay_23 : decode cX7_findsWay 23 = .ok (.getfield 80, 3) := by decide +kernel
theorem dX7_findsWay_26 : decode cX7_findsWay 26 = .ok (.iload 6, 2) := by decide +kernel
theorem dX7_findsWay_28 : decode cX7_findsWay 28 = .ok (.iload 6, 2) := by decide +kernel
theorem dX7_findsWay_30 : decode cX7_findsWay 30 = .ok (.iload_n 3, 1) := by decide +kernel
theorem dX7_findsWay_31 : decode cX7_findsWay 31 = .ok (.if_icmp .ne 7, 3) := by decide +kernel
theorem dX7_findsWay_34 : decode cX7_findsWay 34 = .ok (.iconst 0, 1) := by decide +kernel
theorem dX7_findsWay_35 : decode cX7_findsWay 35 = .ok (.goto 6, 3) := by decide +kernel
theorem dX7_findsWay_38 : decode cX7_findsWay 38 = .ok (.sipush 1000, 3) := by decide +kernel
theorem dX7_findsWay_41 : decode cX7_findsWay 41 = .ok (.iastore, 1) := by decide +kernel
theorem dX7_findsWay_42 : decode cX7_findsWay 42 = .ok (.iinc 6 1, 3) := by decide +kernel
theorem dX7_findsWay_45 : decode cX7_findsWay 45 = .ok (.goto (-30), 3) := by decide +kernel
theorem dX7_findsWay_48 : decode cX7_findsWay 48 = .ok (.iconst 1, 1) := by decide +kernel
theorem dX7_findsWay_49 : decode cX7_findsWay 49 = .ok (.istore 6, 2) := by decide +kernel
theorem dX7_findsWay_51 : decode cX7_findsWay 51 = .ok (.iload 6, 2) := by decide +kernel
theorem dX7_findsWay_53 : decode cX7_findsWay 53 = .ok (.ifCond .eq 104, 3) := by decide +kernel
theorem dX7_findsWay_56 : decode cX7_findsWay 56 = .ok (.iconst 0, 1) := by decide +kernel
theorem dX7_findsWay_57 : decode cX7_findsWay 57 = .ok (.istore 6, 2) := by decide +kernel
theorem dX7_findsWay_59 : decode cX7_findsWay 59 = .ok (.iconst 0, 1) := by decide +kernel
theorem dX7_findsWay_60 : decode cX7_findsWay 60 = .ok (.istore 7, 2) := by decide +kernel
theorem dX7_findsWay_62 : decode cX7_findsWay 62 = .ok (.iload 7, 2) := by decide +kernel
theorem dX7_findsWay_64 : decode cX7_findsWay 64 = .ok (.bipush 24, 2) := by decide +kernel
theorem dX7_findsWay_66 : decode cX7_findsWay 66 = .ok (.if_icmp .ge 88, 3) := by decide +kernel
theorem dX7_findsWay_69 : decode cX7_findsWay 69 = .ok (.iconst 0, 1) := by decide +kernel
theorem dX7_findsWay_70 : decode cX7_findsWay 70 = .ok (.istore 8, 2) := by decide +kernel
theorem dX7_findsWay_72 : decode cX7_findsWay 72 = .ok (.iload 8, 2) := by decide +kernel
theorem dX7_findsWay_74 : decode cX7_findsWay 74 = .ok (.bipush 24, 2) := by decide +kernel
theorem dX7_findsWay_76 : decode cX7_findsWay 76 = .ok (.if_icmp .ge 72, 3) := by decide +kernel
theorem dX7_findsWay_79 : decode cX7_findsWay 79 = .ok (.aload_n 0, 1) := by decide +kernel
theorem dX7_findsWay_80 : decode cX7_findsWay 80 = .ok (.iload_n 1, 1) := by decide +kernel
theorem dX7_findsWay_81 : decode cX7_findsWay 81 = .ok (.iload 7, 2) := by decide +kernel
theorem dX7_findsWay_83 : decode cX7_findsWay 83 = .ok (.invokevirtual 140, 3) := by decide +kernel
theorem dX7_findsWay_86 : decode cX7_findsWay 86 = .ok (.ifCond .eq 62, 3) := by decide +kernel
theorem dX7_findsWay_89 : decode cX7_findsWay 89 = .ok (.aload_n 0, 1) := by decide +kernel
theorem dX7_findsWay_90 : decode cX7_findsWay 90 = .ok (.iload_n 1, 1) := by decide +kernel
theorem dX7_findsWay_91 : decode cX7_findsWay 91 = .ok (.iload 7, 2) := by decide +kernel
theorem dX7_findsWay_93 : decode cX7_findsWay 93 = .ok (.iload 8, 2) := by decide +kernel
theorem dX7_findsWay_95 : decode cX7_findsWay 95 = .ok (.iload 5, 2) := by decide +kernel
theorem dX7_findsWay_97 : decode cX7_findsWay 97 = .ok (.iload_n 3, 1) := by decide +kernel
theorem dX7_findsWay_98 : decode cX7_findsWay 98 = .ok (.invokevirtual 184, 3) := by decide +kernel
theorem dX7_findsWay_101 : decode cX7_findsWay 101 = .ok (.ifCond .eq 41, 3) := by decide +kernel
theorem dX7_findsWay_104 : decode cX7_findsWay 104 = .ok (.aload_n 0, 1) := by decide +kernel
theorem dX7_findsWay_105 : decode cX7_findsWay 105 = .ok (.getfield 80, 3) := by decide +kernel
theorem dX7_findsWay_108 : decode cX7_findsWay 108 = .ok (.iload 8, 2) := by decide +kernel
theorem dX7_findsWay_110 : decode cX7_findsWay 110 = .ok (.iaload, 1) := by decide +kernel
theorem dX7_findsWay_111 : decode cX7_findsWay 111 = .ok (.iconst 1, 1) := by decide +kernel
theorem dX7_findsWay_112 : decode cX7_findsWay 112 = .ok (.iadd, 1) := by decide +kernel
theorem dX7_findsWay_113 : decode cX7_findsWay 113 = .ok (.aload_n 0, 1) := by decide +kernel
theorem dX7_findsWay_114 : decode cX7_findsWay 114 = .ok (.getfield 80, 3) := by decide +kernel
theorem dX7_findsWay_117 : decode cX7_findsWay 117 = .ok (.iload 7, 2) := by decide +kernel
theorem dX7_findsWay_119 : decode cX7_findsWay 119 = .ok (.iaload, 1) := by decide +kernel
theorem dX7_findsWay_120 : decode cX7_findsWay 120 = .ok (.if_icmp .ge 22, 3) := by decide +kernel
theorem dX7_findsWay_123 : decode cX7_findsWay 123 = .ok (.aload_n 0, 1) := by decide +kernel
theorem dX7_findsWay_124 : decode cX7_findsWay 124 = .ok (.getfield 80, 3) := by decide +kernel
theorem dX7_findsWay_127 : decode cX7_findsWay 127 = .ok (.iload 7, 2) := by decide +kernel
theorem dX7_findsWay_129 : decode cX7_findsWay 129 = .ok (.aload_n 0, 1) := by decide +kernel
theorem dX7_findsWay_130 : decode cX7_findsWay 130 = .ok (.getfield 80, 3) := by decide +kernel
theorem dX7_findsWay_133 : decode cX7_findsWay 133 = .ok (.iload 8, 2) := by decide +kernel
theorem dX7_findsWay_135 : decode cX7_findsWay 135 = .ok (.iaload, 1) := by decide +kernel
theorem dX7_findsWay_136 : decode cX7_findsWay 136 = .ok (.iconst 1, 1) := by decide +kernel
theorem dX7_findsWay_137 : decode cX7_findsWay 137 = .ok (.iadd, 1) := by decide +kernel
theorem dX7_findsWay_138 : decode cX7_findsWay 138 = .ok (.iastore, 1) := by decide +kernel
theorem dX7_findsWay_139 : decode cX7_findsWay 139 = .ok (.iconst 1, 1) := by decide +kernel
theorem dX7_findsWay_140 : decode cX7_findsWay 140 = .ok (.istore 6, 2) := by decide +kernel
theorem dX7_findsWay_142 : decode cX7_findsWay 142 = .ok (.iinc 8 1, 3) := by decide +kernel
theorem dX7_findsWay_145 : decode cX7_findsWay 145 = .ok (.goto (-73), 3) := by decide +kernel
theorem dX7_findsWay_148 : decode cX7_findsWay 148 = .ok (.iinc 7 1, 3) := by decide +kernel
theorem dX7_findsWay_151 : decode cX7_findsWay 151 = .ok (.goto (-89), 3) := by decide +kernel
theorem dX7_findsWay_154 : decode cX7_findsWay 154 = .ok (.goto (-103), 3) := by decide +kernel
theorem dX7_findsWay_157 : decode cX7_findsWay 157 = .ok (.aload_n 0, 1) := by decide +kernel
theorem dX7_findsWay_158 : decode cX7_findsWay 158 = .ok (.getfield 80, 3) := by decide +kernel
theorem dX7_findsWay_161 : decode cX7_findsWay 161 = .ok (.iload_n 2, 1) := by decide +kernel
theorem dX7_findsWay_162 : decode cX7_findsWay 162 = .ok (.iaload, 1) := by decide +kernel
theorem dX7_findsWay_163 : decode cX7_findsWay 163 = .ok (.sipush 1000, 3) := by decide +kernel
theorem dX7_findsWay_166 : decode cX7_findsWay 166 = .ok (.if_icmp .ne 5, 3) := by decide +kernel
theorem dX7_findsWay_169 : decode cX7_findsWay 169 = .ok (.iconst 0, 1) := by decide +kernel
theorem dX7_findsWay_170 : decode cX7_findsWay 170 = .ok (.ireturn, 1) := by decide +kernel
theorem dX7_findsWay_171 : decode cX7_findsWay 171 = .ok (.aload_n 0, 1) := by decide +kernel
theorem dX7_findsWay_172 : decode cX7_findsWay 172 = .ok (.getfield 83, 3) := by decide +kernel
theorem dX7_findsWay_175 : decode cX7_findsWay 175 = .ok (.iconst 0, 1) := by decide +kernel
theorem dX7_findsWay_176 : decode cX7_findsWay 176 = .ok (.iload_n 2, 1) := by decide +kernel
theorem dX7_findsWay_177 : decode cX7_findsWay 177 = .ok (.iastore, 1) := by decide +kernel
theorem dX7_findsWay_178 : decode cX7_findsWay 178 = .ok (.aload_n 0, 1) := by decide +kernel
theorem dX7_findsWay_179 : decode cX7_findsWay 179 = .ok (.iconst 1, 1) := by decide +kernel
theorem dX7_findsWay_180 : decode cX7_findsWay 180 = .ok (.putfield 188, 3) := by decide +kernel
theorem dX7_findsWay_183 : decode cX7_findsWay 183 = .ok (.aload_n 0, 1) := by decide +kernel
theorem dX7_findsWay_184 : decode cX7_findsWay 184 = .ok (.getfield 83, 3) := by decide +kernel
theorem dX7_findsWay_187 : decode cX7_findsWay 187 = .ok (.aload_n 0, 1) := by decide +kernel
theorem dX7_findsWay_188 : decode cX7_findsWay 188 = .ok (.getfield 188, 3) := by decide +kernel
theorem dX7_findsWay_191 : decode cX7_findsWay 191 = .ok (.iconst 1, 1) := by decide +kernel
theorem dX7_findsWay_192 : decode cX7_findsWay 192 = .ok (.isub, 1) := by decide +kernel
theorem dX7_findsWay_193 : decode cX7_findsWay 193 = .ok (.iaload, 1) := by decide +kernel
theorem dX7_findsWay_194 : decode cX7_findsWay 194 = .ok (.iload_n 3, 1) := by decide +kernel
theorem dX7_findsWay_195 : decode cX7_findsWay 195 = .ok (.if_icmp .eq 83, 3) := by decide +kernel
theorem dX7_findsWay_198 : decode cX7_findsWay 198 = .ok (.aload_n 0, 1) := by decide +kernel
theorem dX7_findsWay_199 : decode cX7_findsWay 199 = .ok (.getfield 83, 3) := by decide +kernel
theorem dX7_findsWay_202 : decode cX7_findsWay 202 = .ok (.aload_n 0, 1) := by decide +kernel
theorem dX7_findsWay_203 : decode cX7_findsWay 203 = .ok (.getfield 188, 3) := by decide +kernel
theorem dX7_findsWay_206 : decode cX7_findsWay 206 = .ok (.iconst 1, 1) := by decide +kernel
theorem dX7_findsWay_207 : decode cX7_findsWay 207 = .ok (.isub, 1) := by decide +kernel
theorem dX7_findsWay_208 : decode cX7_findsWay 208 = .ok (.iaload, 1) := by decide +kernel
theorem dX7_findsWay_209 : decode cX7_findsWay 209 = .ok (.istore 7, 2) := by decide +kernel
theorem dX7_findsWay_211 : decode cX7_findsWay 211 = .ok (.iconst 0, 1) := by decide +kernel
theorem dX7_findsWay_212 : decode cX7_findsWay 212 = .ok (.istore 8, 2) := by decide +kernel
theorem dX7_findsWay_214 : decode cX7_findsWay 214 = .ok (.aload_n 0, 1) := by decide +kernel
theorem dX7_findsWay_215 : decode cX7_findsWay 215 = .ok (.iload_n 1, 1) := by decide +kernel
theorem dX7_findsWay_216 : decode cX7_findsWay 216 = .ok (.iload 7, 2) := by decide +kernel
theorem dX7_findsWay_218 : decode cX7_findsWay 218 = .ok (.iload 8, 2) := by decide +kernel
theorem dX7_findsWay_220 : decode cX7_findsWay 220 = .ok (.iload 5, 2) := by decide +kernel
theorem dX7_findsWay_222 : decode cX7_findsWay 222 = .ok (.iload_n 3, 1) := by decide +kernel
theorem dX7_findsWay_223 : decode cX7_findsWay 223 = .ok (.invokevirtual 184, 3) := by decide +kernel
theorem dX7_findsWay_226 : decode cX7_findsWay 226 = .ok (.ifCond .eq 22, 3) := by decide +kernel
theorem dX7_findsWay_229 : decode cX7_findsWay 229 = .ok (.aload_n 0, 1) := by decide +kernel
theorem dX7_findsWay_230 : decode cX7_findsWay 230 = .ok (.getfield 80, 3) := by decide +kernel
theorem dX7_findsWay_233 : decode cX7_findsWay 233 = .ok (.iload 8, 2) := by decide +kernel
theorem dX7_findsWay_235 : decode cX7_findsWay 235 = .ok (.iaload, 1) := by decide +kernel
theorem dX7_findsWay_236 : decode cX7_findsWay 236 = .ok (.aload_n 0, 1) := by decide +kernel
theorem dX7_findsWay_237 : decode cX7_findsWay 237 = .ok (.getfield 80, 3) := by decide +kernel
theorem dX7_findsWay_240 : decode cX7_findsWay 240 = .ok (.iload 7, 2) := by decide +kernel
theorem dX7_findsWay_242 : decode cX7_findsWay 242 = .ok (.iaload, 1) := by decide +kernel
theorem dX7_findsWay_243 : decode cX7_findsWay 243 = .ok (.iconst 1, 1) := by decide +kernel
theorem dX7_findsWay_244 : decode cX7_findsWay 244 = .ok (.isub, 1) := by decide +kernel
theorem dX7_findsWay_245 : decode cX7_findsWay 245 = .ok (.if_icmp .eq 9, 3) := by decide +kernel
theorem dX7_findsWay_248 : decode cX7_findsWay 248 = .ok (.iinc 8 1, 3) := by decide +kernel
theorem dX7_findsWay_251 : decode cX7_findsWay 251 = .ok (.goto (-37), 3) := by decide +kernel
theorem dX7_findsWay_254 : decode cX7_findsWay 254 = .ok (.aload_n 0, 1) := by decide +kernel
theorem dX7_findsWay_255 : decode cX7_findsWay 255 = .ok (.getfield 83, 3) := by decide +kernel
theorem dX7_findsWay_258 : decode cX7_findsWay 258 = .ok (.aload_n 0, 1) := by decide +kernel
theorem dX7_findsWay_259 : decode cX7_findsWay 259 = .ok (.getfield 188, 3) := by decide +kernel
theorem dX7_findsWay_262 : decode cX7_findsWay 262 = .ok (.iload 8, 2) := by decide +kernel
theorem dX7_findsWay_264 : decode cX7_findsWay 264 = .ok (.iastore, 1) := by decide +kernel
theorem dX7_findsWay_265 : decode cX7_findsWay 265 = .ok (.aload_n 0, 1) := by decide +kernel
theorem dX7_findsWay_266 : decode cX7_findsWay 266 = .ok (.dup, 1) := by decide +kernel
theorem dX7_findsWay_267 : decode cX7_findsWay 267 = .ok (.getfield 188, 3) := by decide +kernel
theorem dX7_findsWay_270 : decode cX7_findsWay 270 = .ok (.iconst 1, 1) := by decide +kernel
theorem dX7_findsWay_271 : decode cX7_findsWay 271 = .ok (.iadd, 1) := by decide +kernel
theorem dX7_findsWay_272 : decode cX7_findsWay 272 = .ok (.putfield 188, 3) := by decide +kernel
theorem dX7_findsWay_275 : decode cX7_findsWay 275 = .ok (.goto (-92), 3) := by decide +kernel
theorem dX7_findsWay_278 : decode cX7_findsWay 278 = .ok (.iconst 1, 1) := by decide +kernel
theorem dX7_findsWay_279 : decode cX7_findsWay 279 = .ok (.ireturn, 1) := by decide +kernel
theorem dX7_entersWay_0 : decode cX7_entersWay 0 = .ok (.aload_n 0, 1) := by decide +kernel
theorem dX7_entersWay_1 : decode cX7_entersWay 1 = .ok (.iconst 0, 1) := by decide +kernel
theorem dX7_entersWay_2 : decode cX7_entersWay 2 = .ok (.putfield 11, 3) := by decide +kernel
theorem dX7_entersWay_5 : decode cX7_entersWay 5 = .ok (.iconst 0, 1) := by decide +kernel
theorem dX7_entersWay_6 : decode cX7_entersWay 6 = .ok (.istore_n 1, 1) := by decide +kernel
theorem dX7_entersWay_7 : decode cX7_entersWay 7 = .ok (.iload_n 1, 1) := by decide +kernel
theorem dX7_entersWay_8 : decode cX7_entersWay 8 = .ok (.aload_n 0, 1) := by decide +kernel
theorem dX7_entersWay_9 : decode cX7_entersWay 9 = .ok (.getfield 188, 3) := by decide +kernel
theorem dX7_entersWay_12 : decode cX7_entersWay 12 = .ok (.if_icmp .ge 20, 3) := by decide +kernel
theorem dX7_entersWay_15 : decode cX7_entersWay 15 = .ok (.aload_n 0, 1) := by decide +kernel
theorem dX7_entersWay_16 : decode cX7_entersWay 16 = .ok (.aload_n 0, 1) := by decide +kernel
theorem dX7_entersWay_17 : decode cX7_entersWay 17 = .ok (.getfield 83, 3) := by decide +kernel
theorem dX7_entersWay_20 : decode cX7_entersWay 20 = .ok (.iload_n 1, 1) := by decide +kernel
theorem dX7_entersWay_21 : decode cX7_entersWay 21 = .ok (.iaload, 1) := by decide +kernel
theorem dX7_entersWay_22 : decode cX7_entersWay 22 = .ok (.i2l, 1) := by decide +kernel
theorem dX7_entersWay_23 : decode cX7_entersWay 23 = .ok (.invokevirtual 191, 3) := by decide +kernel
theorem dX7_entersWay_26 : decode cX7_entersWay 26 = .ok (.iinc 1 1, 3) := by decide +kernel
theorem dX7_entersWay_29 : decode cX7_entersWay 29 = .ok (.goto (-22), 3) := by decide +kernel
theorem dX7_entersWay_32 : decode cX7_entersWay 32 = .ok (.return_, 1) := by decide +kernel
theorem dX7_labelMany_0 : decode cX7_labelMany 0 = .ok (.aload_n 0, 1) := by decide +kernel
theorem dX7_labelMany_1 : decode cX7_labelMany 1 = .ok (.getfield 71, 3) := by decide +kernel
theorem dX7_labelMany_4 : decode cX7_labelMany 4 = .ok (.iload_n 1, 1) := by decide +kernel
theorem dX7_labelMany_5 : decode cX7_labelMany 5 = .ok (.sipush 179, 3) := by decide +kernel
theorem dX7_labelMany_8 : decode cX7_labelMany 8 = .ok (.imul, 1) := by decide +kernel
theorem dX7_labelMany_9 : decode cX7_labelMany 9 = .ok (.iconst 2, 1) := by decide +kernel
theorem dX7_labelMany_10 : decode cX7_labelMany 10 = .ok (.iadd, 1) := by decide +kernel
theorem dX7_labelMany_11 : decode cX7_labelMany 11 = .ok (.iaload, 1) := by decide +kernel
theorem dX7_labelMany_12 : decode cX7_labelMany 12 = .ok (.ireturn, 1) := by decide +kernel
theorem dX7_termOf_0 : decode cX7_termOf 0 = .ok (.iconst 0, 1) := by decide +kernel
theorem dX7_termOf_1 : decode cX7_termOf 1 = .ok (.istore_n 2, 1) := by decide +kernel
theorem dX7_termOf_2 : decode cX7_termOf 2 = .ok (.iload_n 2, 1) := by decide +kernel
theorem dX7_termOf_3 : decode cX7_termOf 3 = .ok (.aload_n 0, 1) := by decide +kernel
theorem dX7_termOf_4 : decode cX7_termOf 4 = .ok (.iconst 0, 1) := by decide +kernel
theorem dX7_termOf_5 : decode cX7_termOf 5 = .ok (.invokevirtual 195, 3) := by decide +kernel
theorem dX7_termOf_8 : decode cX7_termOf 8 = .ok (.if_icmp .ge 32, 3) := by decide +kernel
theorem dX7_termOf_11 : decode cX7_termOf 11 = .ok (.aload_n 0, 1) := by decide +kernel
theorem dX7_termOf_12 : decode cX7_termOf 12 = .ok (.getfield 71, 3) := by decide +kernel
theorem dX7_termOf_15 : decode cX7_termOf 15 = .ok (.bipush 67, 2) := by decide +kernel
theorem dX7_termOf_17 : decode cX7_termOf 17 = .ok (.iload_n 2, 1) := by decide +kernel
theorem dX7_termOf_18 : decode cX7_termOf 18 = .ok (.iadd, 1) := by decide +kernel
theorem dX7_termOf_19 : decode cX7_termOf 19 = .ok (.iaload, 1) := by decide +kernel
theorem dX7_termOf_20 : decode cX7_termOf 20 = .ok (.iload_n 1, 1) := by decide +kernel
theorem dX7_termOf_21 : decode cX7_termOf 21 = .ok (.if_icmp .ne 13, 3) := by decide +kernel
theorem dX7_termOf_24 : decode cX7_termOf 24 = .ok (.aload_n 0, 1) := by decide +kernel
theorem dX7_termOf_25 : decode cX7_termOf 25 = .ok (.getfield 71, 3) := by decide +kernel
theorem dX7_termOf_28 : decode cX7_termOf 28 = .ok (.bipush 27, 2) := by decide +kernel
theorem dX7_termOf_30 : decode cX7_termOf 30 = .ok (.iload_n 2, 1) := by decide +kernel
theorem dX7_termOf_31 : decode cX7_termOf 31 = .ok (.iadd, 1) := by decide +kernel
theorem dX7_termOf_32 : decode cX7_termOf 32 = .ok (.iaload, 1) := by decide +kernel
theorem dX7_termOf_33 : decode cX7_termOf 33 = .ok (.ireturn, 1) := by decide +kernel
theorem dX7_termOf_34 : decode cX7_termOf 34 = .ok (.iinc 2 1, 3) := by decide +kernel
theorem dX7_termOf_37 : decode cX7_termOf 37 = .ok (.goto (-35), 3) := by decide +kernel
theorem dX7_termOf_40 : decode cX7_termOf 40 = .ok (.iconst (-1), 1) := by decide +kernel
theorem dX7_termOf_41 : decode cX7_termOf 41 = .ok (.ireturn, 1) := by decide +kernel
theorem dX7_gives_0 : decode cX7_gives 0 = .ok (.aload_n 0, 1) := by decide +kernel
theorem dX7_gives_1 : decode cX7_gives 1 = .ok (.iconst 0, 1) := by decide +kernel
theorem dX7_gives_2 : decode cX7_gives 2 = .ok (.invokevirtual 195, 3) := by decide +kernel
theorem dX7_gives_5 : decode cX7_gives 5 = .ok (.istore_n 3, 1) := by decide +kernel
theorem dX7_gives_6 : decode cX7_gives 6 = .ok (.aload_n 0, 1) := by decide +kernel
theorem dX7_gives_7 : decode cX7_gives 7 = .ok (.getfield 71, 3) := by decide +kernel
theorem dX7_gives_10 : decode cX7_gives 10 = .ok (.bipush 27, 2) := by decide +kernel
theorem dX7_gives_12 : decode cX7_gives 12 = .ok (.iload_n 3, 1) := by decide +kernel
theorem dX7_gives_13 : decode cX7_gives 13 = .ok (.iadd, 1) := by decide +kernel
theorem dX7_gives_14 : decode cX7_gives 14 = .ok (.iload_n 1, 1) := by decide +kernel
theorem dX7_gives_15 : decode cX7_gives 15 = .ok (.iastore, 1) := by decide +kernel
theorem dX7_gives_16 : decode cX7_gives 16 = .ok (.aload_n 0, 1) := by decide +kernel
theorem dX7_gives_17 : decode cX7_gives 17 = .ok (.getfield 71, 3) := by decide +kernel
theorem dX7_gives_20 : decode cX7_gives 20 = .ok (.bipush 67, 2) := by decide +kernel
theorem dX7_gives_22 : decode cX7_gives 22 = .ok (.iload_n 3, 1) := by decide +kernel
theorem dX7_gives_23 : decode cX7_gives 23 = .ok (.iadd, 1) := by decide +kernel
theorem dX7_gives_24 : decode cX7_gives 24 = .ok (.iload_n 2, 1) := by decide +kernel
theorem dX7_gives_25 : decode cX7_gives 25 = .ok (.iastore, 1) := by decide +kernel
theorem dX7_gives_26 : decode cX7_gives 26 = .ok (.aload_n 0, 1) := by decide +kernel
theorem dX7_gives_27 : decode cX7_gives 27 = .ok (.getfield 71, 3) := by decide +kernel
theorem dX7_gives_30 : decode cX7_gives 30 = .ok (.iconst 2, 1) := by decide +kernel
theorem dX7_gives_31 : decode cX7_gives 31 = .ok (.dup2, 1) := by decide +kernel
theorem dX7_gives_32 : decode cX7_gives 32 = .ok (.iaload, 1) := by decide +kernel
theorem dX7_gives_33 : decode cX7_gives 33 = .ok (.iconst 1, 1) := by decide +kernel
theorem dX7_gives_34 : decode cX7_gives 34 = .ok (.iadd, 1) := by decide +kernel
theorem dX7_gives_35 : decode cX7_gives 35 = .ok (.iastore, 1) := by decide +kernel
theorem dX7_gives_36 : decode cX7_gives 36 = .ok (.return_, 1) := by decide +kernel
theorem dX7_labelsOf_0 : decode cX7_labelsOf 0 = .ok (.iconst 0, 1) := by decide +kernel
theorem dX7_labelsOf_1 : decode cX7_labelsOf 1 = .ok (.istore_n 2, 1) := by decide +kernel
theorem dX7_labelsOf_2 : decode cX7_labelsOf 2 = .ok (.iconst 0, 1) := by decide +kernel
theorem dX7_labelsOf_3 : decode cX7_labelsOf 3 = .ok (.istore_n 3, 1) := by decide +kernel
theorem dX7_labelsOf_4 : decode cX7_labelsOf 4 = .ok (.iload_n 3, 1) := by decide +kernel
theorem dX7_labelsOf_5 : decode cX7_labelsOf 5 = .ok (.aload_n 0, 1) := by decide +kernel
theorem dX7_labelsOf_6 : decode cX7_labelsOf 6 = .ok (.iconst 0, 1) := by decide +kernel
theorem dX7_labelsOf_7 : decode cX7_labelsOf 7 = .ok (.invokevirtual 195, 3) := by decide +kernel
theorem dX7_labelsOf_10 : decode cX7_labelsOf 10 = .ok (.if_icmp .ge 33, 3) := by decide +kernel
theorem dX7_labelsOf_13 : decode cX7_labelsOf 13 = .ok (.iload_n 2, 1) := by decide +kernel
theorem dX7_labelsOf_14 : decode cX7_labelsOf 14 = .ok (.aload_n 0, 1) := by decide +kernel
theorem dX7_labelsOf_15 : decode cX7_labelsOf 15 = .ok (.getfield 71, 3) := by decide +kernel
theorem dX7_labelsOf_18 : decode cX7_labelsOf 18 = .ok (.bipush 27, 2) := by decide +kernel
theorem dX7_labelsOf_20 : decode cX7_labelsOf 20 = .ok (.iload_n 3, 1) := by decide +kernel
theorem dX7_labelsOf_21 : decode cX7_labelsOf 21 = .ok (.iadd, 1) := by decide +kernel
theorem dX7_labelsOf_22 : decode cX7_labelsOf 22 = .ok (.iaload, 1) := by decide +kernel
theorem dX7_labelsOf_23 : decode cX7_labelsOf 23 = .ok (.iload_n 1, 1) := by decide +kernel
theorem dX7_labelsOf_24 : decode cX7_labelsOf 24 = .ok (.if_icmp .ne 7, 3) := by decide +kernel
theorem dX7_labelsOf_27 : decode cX7_labelsOf 27 = .ok (.iconst 1, 1) := by decide +kernel
theorem dX7_labelsOf_28 : decode cX7_labelsOf 28 = .ok (.goto 4, 3) := by decide +kernel
theorem dX7_labelsOf_31 : decode cX7_labelsOf 31 = .ok (.iconst 0, 1) := by decide +kernel
theorem dX7_labelsOf_32 : decode cX7_labelsOf 32 = .ok (.invokestatic 45, 3) := by decide +kernel
theorem dX7_labelsOf_35 : decode cX7_labelsOf 35 = .ok (.iadd, 1) := by decide +kernel
theorem dX7_labelsOf_36 : decode cX7_labelsOf 36 = .ok (.istore_n 2, 1) := by decide +kernel
theorem dX7_labelsOf_37 : decode cX7_labelsOf 37 = .ok (.iinc 3 1, 3) := by decide +kernel
theorem dX7_labelsOf_40 : decode cX7_labelsOf 40 = .ok (.goto (-36), 3) := by decide +kernel
theorem dX7_labelsOf_43 : decode cX7_labelsOf 43 = .ok (.iload_n 2, 1) := by decide +kernel
theorem dX7_labelsOf_44 : decode cX7_labelsOf 44 = .ok (.ireturn, 1) := by decide +kernel
theorem dX7_dropsLabel_0 : decode cX7_dropsLabel 0 = .ok (.aload_n 0, 1) := by decide +kernel
theorem dX7_dropsLabel_1 : decode cX7_dropsLabel 1 = .ok (.getfield 71, 3) := by decide +kernel
theorem dX7_dropsLabel_4 : decode cX7_dropsLabel 4 = .ok (.iconst 2, 1) := by decide +kernel
theorem dX7_dropsLabel_5 : decode cX7_dropsLabel 5 = .ok (.dup2, 1) := by decide +kernel
theorem dX7_dropsLabel_6 : decode cX7_dropsLabel 6 = .ok (.iaload, 1) := by decide +kernel
theorem dX7_dropsLabel_7 : decode cX7_dropsLabel 7 = .ok (.iconst 1, 1) := by decide +kernel
theorem dX7_dropsLabel_8 : decode cX7_dropsLabel 8 = .ok (.isub, 1) := by decide +kernel
theorem dX7_dropsLabel_9 : decode cX7_dropsLabel 9 = .ok (.iastore, 1) := by decide +kernel
theorem dX7_dropsLabel_10 : decode cX7_dropsLabel 10 = .ok (.iload_n 1, 1) := by decide +kernel
theorem dX7_dropsLabel_11 : decode cX7_dropsLabel 11 = .ok (.istore_n 2, 1) := by decide +kernel
theorem dX7_dropsLabel_12 : decode cX7_dropsLabel 12 = .ok (.iload_n 2, 1) := by decide +kernel
theorem dX7_dropsLabel_13 : decode cX7_dropsLabel 13 = .ok (.aload_n 0, 1) := by decide +kernel
theorem dX7_dropsLabel_14 : decode cX7_dropsLabel 14 = .ok (.iconst 0, 1) := by decide +kernel
theorem dX7_dropsLabel_15 : decode cX7_dropsLabel 15 = .ok (.invokevirtual 195, 3) := by decide +kernel
theorem dX7_dropsLabel_18 : decode cX7_dropsLabel 18 = .ok (.if_icmp .ge 49, 3) := by decide +kernel
theorem dX7_dropsLabel_21 : decode cX7_dropsLabel 21 = .ok (.aload_n 0, 1) := by decide +kernel
theorem dX7_dropsLabel_22 : decode cX7_dropsLabel 22 = .ok (.getfield 71, 3) := by decide +kernel
theorem dX7_dropsLabel_25 : decode cX7_dropsLabel 25 = .ok (.bipush 27, 2) := by decide +kernel
theorem dX7_dropsLabel_27 : decode cX7_dropsLabel 27 = .ok (.iload_n 2, 1) := by decide +kernel
theorem dX7_dropsLabel_28 : decode cX7_dropsLabel 28 = .ok (.iadd, 1) := by decide +kernel
theorem dX7_dropsLabel_29 : decode cX7_dropsLabel 29 = .ok (.aload_n 0, 1) := by decide +kernel
theorem dX7_dropsLabel_30 : decode cX7_dropsLabel 30 = .ok (.getfield 71, 3) := by decide +kernel
theorem dX7_dropsLabel_33 : decode cX7_dropsLabel 33 = .ok (.bipush 27, 2) := by decide +kernel
theorem dX7_dropsLabel_35 : decode cX7_dropsLabel 35 = .ok (.iload_n 2, 1) := by decide +kernel
theorem dX7_dropsLabel_36 : decode cX7_dropsLabel 36 = .ok (.iadd, 1) := by decide +kernel
theorem dX7_dropsLabel_37 : decode cX7_dropsLabel 37 = .ok (.iconst 1, 1) := by decide +kernel
theorem dX7_dropsLabel_38 : decode cX7_dropsLabel 38 = .ok (.iadd, 1) := by decide +kernel
theorem dX7_dropsLabel_39 : decode cX7_dropsLabel 39 = .ok (.iaload, 1) := by decide +kernel
theorem dX7_dropsLabel_40 : decode cX7_dropsLabel 40 = .ok (.iastore, 1) := by decide +kernel
theorem dX7_dropsLabel_41 : decode cX7_dropsLabel 41 = .ok (.aload_n 0, 1) := by decide +kernel
theorem dX7_dropsLabel_42 : decode cX7_dropsLabel 42 = .ok (.getfield 71, 3) := by decide +kernel
theorem dX7_dropsLabel_45 : decode cX7_dropsLabel 45 = .ok (.bipush 67, 2) := by decide +kernel
theorem dX7_dropsLabel_47 : decode cX7_dropsLabel 47 = .ok (.iload_n 2, 1) := by decide +kernel
theorem dX7_dropsLabel_48 : decode cX7_dropsLabel 48 = .ok (.iadd, 1) := by decide +kernel
theorem dX7_dropsLabel_49 : decode cX7_dropsLabel 49 = .ok (.aload_n 0, 1) := by decide +kernel
theorem dX7_dropsLabel_50 : decode cX7_dropsLabel 50 = .ok (.getfield 71, 3) := by decide +kernel
theorem dX7_dropsLabel_53 : decode cX7_dropsLabel 53 = .ok (.bipush 67, 2) := by decide +kernel
theorem dX7_dropsLabel_55 : decode cX7_dropsLabel 55 = .ok (.iload_n 2, 1) := by decide +kernel
theorem dX7_dropsLabel_56 : decode cX7_dropsLabel 56 = .ok (.iadd, 1) := by decide +kernel
theorem dX7_dropsLabel_57 : decode cX7_dropsLabel 57 = .ok (.iconst 1, 1) := by decide +kernel
theorem dX7_dropsLabel_58 : decode cX7_dropsLabel 58 = .ok (.iadd, 1) := by decide +kernel
theorem dX7_dropsLabel_59 : decode cX7_dropsLabel 59 = .ok (.iaload, 1) := by decide +kernel
theorem dX7_dropsLabel_60 : decode cX7_dropsLabel 60 = .ok (.iastore, 1) := by decide +kernel
theorem dX7_dropsLabel_61 : decode cX7_dropsLabel 61 = .ok (.iinc 2 1, 3) := by decide +kernel
theorem dX7_dropsLabel_64 : decode cX7_dropsLabel 64 = .ok (.goto (-52), 3) := by decide +kernel
theorem dX7_dropsLabel_67 : decode cX7_dropsLabel 67 = .ok (.return_, 1) := by decide +kernel
theorem dX7_firstFree_0 : decode cX7_firstFree 0 = .ok (.iconst 0, 1) := by decide +kernel
theorem dX7_firstFree_1 : decode cX7_firstFree 1 = .ok (.istore_n 1, 1) := by decide +kernel
theorem dX7_firstFree_2 : decode cX7_firstFree 2 = .ok (.iload_n 1, 1) := by decide +kernel
theorem dX7_firstFree_3 : decode cX7_firstFree 3 = .ok (.bipush 24, 2) := by decide +kernel
theorem dX7_firstFree_5 : decode cX7_firstFree 5 = .ok (.if_icmp .ge 21, 3) := by decide +kernel
theorem dX7_firstFree_8 : decode cX7_firstFree 8 = .ok (.aload_n 0, 1) := by decide +kernel
theorem dX7_firstFree_9 : decode cX7_firstFree 9 = .ok (.iconst 0, 1) := by decide +kernel
theorem dX7_firstFree_10 : decode cX7_firstFree 10 = .ok (.invokevirtual 129, 3) := by decide +kernel
theorem dX7_firstFree_13 : decode cX7_firstFree 13 = .ok (.iload_n 1, 1) := by decide +kernel
theorem dX7_firstFree_14 : decode cX7_firstFree 14 = .ok (.invokestatic 133, 3) := by decide +kernel
theorem dX7_firstFree_17 : decode cX7_firstFree 17 = .ok (.ifCond .eq 9, 3) := by decide +kernel
theorem dX7_firstFree_20 : decode cX7_firstFree 20 = .ok (.iinc 1 1, 3) := by decide +kernel
theorem dX7_firstFree_23 : decode cX7_firstFree 23 = .ok (.goto (-21), 3) := by decide +kernel
theorem dX7_firstFree_26 : decode cX7_firstFree 26 = .ok (.iload_n 1, 1) := by decide +kernel
theorem dX7_firstFree_27 : decode cX7_firstFree 27 = .ok (.ireturn, 1) := by decide +kernel
theorem dX7_term_0 : decode cX7_term 0 = .ok (.aload_n 0, 1) := by decide +kernel
theorem dX7_term_1 : decode cX7_term 1 = .ok (.iconst 0, 1) := by decide +kernel
theorem dX7_term_2 : decode cX7_term 2 = .ok (.putfield 1, 3) := by decide +kernel
theorem dX7_term_5 : decode cX7_term 5 = .ok (.aload_n 0, 1) := by decide +kernel
theorem dX7_term_6 : decode cX7_term 6 = .ok (.invokevirtual 198, 3) := by decide +kernel
theorem dX7_term_9 : decode cX7_term 9 = .ok (.aload_n 0, 1) := by decide +kernel
theorem dX7_term_10 : decode cX7_term 10 = .ok (.invokevirtual 201, 3) := by decide +kernel
theorem dX7_term_13 : decode cX7_term 13 = .ok (.istore_n 1, 1) := by decide +kernel
theorem dX7_term_14 : decode cX7_term 14 = .ok (.iload_n 1, 1) := by decide +kernel
theorem dX7_term_15 : decode cX7_term 15 = .ok (.ifCond .eq 14, 3) := by decide +kernel
theorem dX7_term_18 : decode cX7_term 18 = .ok (.aload_n 0, 1) := by decide +kernel
theorem dX7_term_19 : decode cX7_term 19 = .ok (.getfield 28, 3) := by decide +kernel
theorem dX7_term_22 : decode cX7_term 22 = .ok (.aload_n 0, 1) := by decide +kernel
theorem dX7_term_23 : decode cX7_term 23 = .ok (.getfield 25, 3) := by decide +kernel
theorem dX7_term_26 : decode cX7_term 26 = .ok (.if_icmp .ge 10, 3) := by decide +kernel
theorem dX7_term_29 : decode cX7_term 29 = .ok (.iconst (-1), 1) := by decide +kernel
theorem dX7_term_30 : decode cX7_term 30 = .ok (.aload_n 0, 1) := by decide +kernel
theorem dX7_term_31 : decode cX7_term 31 = .ok (.getfield 28, 3) := by decide +kernel
theorem dX7_term_34 : decode cX7_term 34 = .ok (.isub, 1) := by decide +kernel
theorem dX7_term_35 : decode cX7_term 35 = .ok (.ireturn, 1) := by decide +kernel
theorem dX7_term_36 : decode cX7_term 36 = .ok (.aload_n 0, 1) := by decide +kernel
theorem dX7_term_37 : decode cX7_term 37 = .ok (.iload_n 1, 1) := by decide +kernel
theorem dX7_term_38 : decode cX7_term 38 = .ok (.invokevirtual 204, 3) := by decide +kernel
theorem dX7_term_41 : decode cX7_term 41 = .ok (.ifCond .lt 6, 3) := by decide +kernel
theorem dX7_term_44 : decode cX7_term 44 = .ok (.bipush (-100), 2) := by decide +kernel
theorem dX7_term_46 : decode cX7_term 46 = .ok (.ireturn, 1) := by decide +kernel
theorem dX7_term_47 : decode cX7_term 47 = .ok (.aload_n 0, 1) := by decide +kernel
theorem dX7_term_48 : decode cX7_term 48 = .ok (.invokevirtual 207, 3) := by decide +kernel
theorem dX7_term_51 : decode cX7_term 51 = .ok (.istore_n 2, 1) := by decide +kernel
theorem dX7_term_52 : decode cX7_term 52 = .ok (.iload_n 2, 1) := by decide +kernel
theorem dX7_term_53 : decode cX7_term 53 = .ok (.bipush 24, 2) := by decide +kernel
theorem dX7_term_55 : decode cX7_term 55 = .ok (.if_icmp .eq 13, 3) := by decide +kernel
theorem dX7_term_58 : decode cX7_term 58 = .ok (.aload_n 0, 1) := by decide +kernel
theorem dX7_term_59 : decode cX7_term 59 = .ok (.iconst 0, 1) := by decide +kernel
theorem dX7_term_60 : decode cX7_term 60 = .ok (.invokevirtual 195, 3) := by decide +kernel
theorem dX7_term_63 : decode cX7_term 63 = .ok (.bipush 40, 2) := by decide +kernel
theorem dX7_term_65 : decode cX7_term 65 = .ok (.if_icmp .ne 7, 3) := by decide +kernel
theorem dX7_term_68 : decode cX7_term 68 = .ok (.sipush (-200), 3) := by decide +kernel
theorem dX7_term_71 : decode cX7_term 71 = .ok (.ireturn, 1) := by decide +kernel
theorem dX7_term_72 : decode cX7_term 72 = .ok (.aload_n 0, 1) := by decide +kernel
theorem dX7_term_73 : decode cX7_term 73 = .ok (.iconst 0, 1) := by decide +kernel
theorem dX7_term_74 : decode cX7_term 74 = .ok (.iconst 3, 1) := by decide +kernel
theorem dX7_term_75 : decode cX7_term 75 = .ok (.invokevirtual 120, 3) := by decide +kernel
theorem dX7_term_78 : decode cX7_term 78 = .ok (.aload_n 0, 1) := by decide +kernel
theorem dX7_term_79 : decode cX7_term 79 = .ok (.getfield 71, 3) := by decide +kernel
theorem dX7_term_82 : decode cX7_term 82 = .ok (.iconst 0, 1) := by decide +kernel
theorem dX7_term_83 : decode cX7_term 83 = .ok (.dup2, 1) := by decide +kernel
theorem dX7_term_84 : decode cX7_term 84 = .ok (.iaload, 1) := by decide +kernel
theorem dX7_term_85 : decode cX7_term 85 = .ok (.iconst 1, 1) := by decide +kernel
theorem dX7_term_86 : decode cX7_term 86 = .ok (.iload_n 2, 1) := by decide +kernel
theorem dX7_term_87 : decode cX7_term 87 = .ok (.ishl, 1) := by decide +kernel
theorem dX7_term_88 : decode cX7_term 88 = .ok (.ior, 1) := by decide +kernel
theorem dX7_term_89 : decode cX7_term 89 = .ok (.iastore, 1) := by decide +kernel
theorem dX7_term_90 : decode cX7_term 90 = .ok (.aload_n 0, 1) := by decide +kernel
theorem dX7_term_91 : decode cX7_term 91 = .ok (.getfield 71, 3) := by decide +kernel
theorem dX7_term_94 : decode cX7_term 94 = .ok (.bipush 107, 2) := by decide +kernel
theorem dX7_term_96 : decode cX7_term 96 = .ok (.iload_n 2, 1) := by decide +kernel
theorem dX7_term_97 : decode cX7_term 97 = .ok (.iadd, 1) := by decide +kernel
theorem dX7_term_98 : decode cX7_term 98 = .ok (.iconst 0, 1) := by decide +kernel
theorem dX7_term_99 : decode cX7_term 99 = .ok (.iastore, 1) := by decide +kernel
theorem dX7_term_100 : decode cX7_term 100 = .ok (.aload_n 0, 1) := by decide +kernel
theorem dX7_term_101 : decode cX7_term 101 = .ok (.getfield 71, 3) := by decide +kernel
theorem dX7_term_104 : decode cX7_term 104 = .ok (.sipush 131, 3) := by decide +kernel
theorem dX7_term_107 : decode cX7_term 107 = .ok (.iload_n 2, 1) := by decide +kernel
theorem dX7_term_108 : decode cX7_term 108 = .ok (.iadd, 1) := by decide +kernel
theorem dX7_term_109 : decode cX7_term 109 = .ok (.iconst 0, 1) := by decide +kernel
theorem dX7_term_110 : decode cX7_term 110 = .ok (.iastore, 1) := by decide +kernel
theorem dX7_term_111 : decode cX7_term 111 = .ok (.aload_n 0, 1) := by decide +kernel
theorem dX7_term_112 : decode cX7_term 112 = .ok (.getfield 71, 3) := by decide +kernel
theorem dX7_term_115 : decode cX7_term 115 = .ok (.sipush 155, 3) := by decide +kernel
theorem dX7_term_118 : decode cX7_term 118 = .ok (.iload_n 2, 1) := by decide +kernel
theorem dX7_term_119 : decode cX7_term 119 = .ok (.iadd, 1) := by decide +kernel
theorem dX7_term_120 : decode cX7_term 120 = .ok (.iconst 0, 1) := by decide +kernel
theorem dX7_term_121 : decode cX7_term 121 = .ok (.iastore, 1) := by decide +kernel
theorem dX7_term_122 : decode cX7_term 122 = .ok (.aload_n 0, 1) := by decide +kernel
theorem dX7_term_123 : decode cX7_term 123 = .ok (.getfield 71, 3) := by decide +kernel
theorem dX7_term_126 : decode cX7_term 126 = .ok (.iconst 3, 1) := by decide +kernel
theorem dX7_term_127 : decode cX7_term 127 = .ok (.aload_n 0, 1) := by decide +kernel
theorem dX7_term_128 : decode cX7_term 128 = .ok (.getfield 71, 3) := by decide +kernel
theorem dX7_term_131 : decode cX7_term 131 = .ok (.iconst 1, 1) := by decide +kernel
theorem dX7_term_132 : decode cX7_term 132 = .ok (.iaload, 1) := by decide +kernel
theorem dX7_term_133 : decode cX7_term 133 = .ok (.iadd, 1) := by decide +kernel
theorem dX7_term_134 : decode cX7_term 134 = .ok (.iload_n 2, 1) := by decide +kernel
theorem dX7_term_135 : decode cX7_term 135 = .ok (.iastore, 1) := by decide +kernel
theorem dX7_term_136 : decode cX7_term 136 = .ok (.aload_n 0, 1) := by decide +kernel
theorem dX7_term_137 : decode cX7_term 137 = .ok (.getfield 71, 3) := by decide +kernel
theorem dX7_term_140 : decode cX7_term 140 = .ok (.iconst 1, 1) := by decide +kernel
theorem dX7_term_141 : decode cX7_term 141 = .ok (.dup2, 1) := by decide +kernel
theorem dX7_term_142 : decode cX7_term 142 = .ok (.iaload, 1) := by decide +kernel
theorem dX7_term_143 : decode cX7_term 143 = .ok (.iconst 1, 1) := by decide +kernel
theorem dX7_term_144 : decode cX7_term 144 = .ok (.iadd, 1) := by decide +kernel
theorem dX7_term_145 : decode cX7_term 145 = .ok (.iastore, 1) := by decide +kernel
theorem dX7_term_146 : decode cX7_term 146 = .ok (.aload_n 0, 1) := by decide +kernel
theorem dX7_term_147 : decode cX7_term 147 = .ok (.iload_n 2, 1) := by decide +kernel
theorem dX7_term_148 : decode cX7_term 148 = .ok (.iload_n 1, 1) := by decide +kernel
theorem dX7_term_149 : decode cX7_term 149 = .ok (.invokevirtual 210, 3) := by decide +kernel
theorem dX7_term_152 : decode cX7_term 152 = .ok (.aload_n 0, 1) := by decide +kernel
theorem dX7_term_153 : decode cX7_term 153 = .ok (.iload_n 2, 1) := by decide +kernel
theorem dX7_term_154 : decode cX7_term 154 = .ok (.invokevirtual 213, 3) := by decide +kernel
theorem dX7_term_157 : decode cX7_term 157 = .ok (.ireturn, 1) := by decide +kernel
theorem dX7_label_0 : decode cX7_label 0 = .ok (.aload_n 0, 1) := by decide +kernel
theorem dX7_label_1 : decode cX7_label 1 = .ok (.iconst 0, 1) := by decide +kernel
theorem dX7_label_2 : decode cX7_label 2 = .ok (.putfield 1, 3) := by decide +kernel
theorem dX7_label_5 : decode cX7_label 5 = .ok (.aload_n 0, 1) := by decide +kernel
theorem dX7_label_6 : decode cX7_label 6 = .ok (.invokevirtual 198, 3) := by decide +kernel
theorem dX7_label_9 : decode cX7_label 9 = .ok (.aload_n 0, 1) := by decide +kernel
theorem dX7_label_10 : decode cX7_label 10 = .ok (.iload_n 1, 1) := by decide +kernel
theorem dX7_label_11 : decode cX7_label 11 = .ok (.invokevirtual 137, 3) := by decide +kernel
theorem dX7_label_14 : decode cX7_label 14 = .ok (.ifCond .ne 7, 3) := by decide +kernel
theorem dX7_label_17 : decode cX7_label 17 = .ok (.sipush (-300), 3) := by decide +kernel
theorem dX7_label_20 : decode cX7_label 20 = .ok (.ireturn, 1) := by decide +kernel
theorem dX7_label_21 : decode cX7_label 21 = .ok (.aload_n 0, 1) := by decide +kernel
theorem dX7_label_22 : decode cX7_label 22 = .ok (.invokevirtual 201, 3) := by decide +kernel
theorem dX7_label_25 : decode cX7_label 25 = .ok (.istore_n 2, 1) := by decide +kernel
theorem dX7_label_26 : decode cX7_label 26 = .ok (.iload_n 2, 1) := by decide +kernel
theorem dX7_label_27 : decode cX7_label 27 = .ok (.ifCond .eq 14, 3) := by decide +kernel
theorem dX7_label_30 : decode cX7_label 30 = .ok (.aload_n 0, 1) := by decide +kernel
theorem dX7_label_31 : decode cX7_label 31 = .ok (.getfield 28, 3) := by decide +kernel
theorem dX7_label_34 : decode cX7_label 34 = .ok (.aload_n 0, 1) := by decide +kernel
theorem dX7_label_35 : decode cX7_label 35 = .ok (.getfield 25, 3) := by decide +kernel
theorem dX7_label_38 : decode cX7_label 38 = .ok (.if_icmp .ge 10, 3) := by decide +kernel
theorem dX7_label_41 : decode cX7_label 41 = .ok (.iconst (-1), 1) := by decide +kernel
theorem dX7_label_42 : decode cX7_label 42 = .ok (.aload_n 0, 1) := by decide +kernel
theorem dX7_label_43 : decode cX7_label 43 = .ok (.getfield 28, 3) := by decide +kernel
theorem dX7_label_46 : decode cX7_label 46 = .ok (.isub, 1) := by decide +kernel
theorem dX7_label_47 : decode cX7_label 47 = .ok (.ireturn, 1) := by decide +kernel
theorem dX7_label_48 : decode cX7_label 48 = .ok (.aload_n 0, 1) := by decide +kernel
theorem dX7_label_49 : decode cX7_label 49 = .ok (.iload_n 2, 1) := by decide +kernel
theorem dX7_label_50 : decode cX7_label 50 = .ok (.invokevirtual 204, 3) := by decide +kernel
theorem dX7_label_53 : decode cX7_label 53 = .ok (.ifCond .lt 6, 3) := by decide +kernel
theorem dX7_label_56 : decode cX7_label 56 = .ok (.bipush (-100), 2) := by decide +kernel
theorem dX7_label_58 : decode cX7_label 58 = .ok (.ireturn, 1) := by decide +kernel
theorem dX7_label_59 : decode cX7_label 59 = .ok (.aload_n 0, 1) := by decide +kernel
theorem dX7_label_60 : decode cX7_label 60 = .ok (.iconst 0, 1) := by decide +kernel
theorem dX7_label_61 : decode cX7_label 61 = .ok (.invokevirtual 195, 3) := by decide +kernel
theorem dX7_label_64 : decode cX7_label 64 = .ok (.bipush 40, 2) := by decide +kernel
theorem dX7_label_66 : decode cX7_label 66 = .ok (.if_icmp .ne 7, 3) := by decide +kernel
theorem dX7_label_69 : decode cX7_label 69 = .ok (.sipush (-200), 3) := by decide +kernel
theorem dX7_label_72 : decode cX7_label 72 = .ok (.ireturn, 1) := by decide +kernel
theorem dX7_label_73 : decode cX7_label 73 = .ok (.aload_n 0, 1) := by decide +kernel
theorem dX7_label_74 : decode cX7_label 74 = .ok (.iconst 0, 1) := by decide +kernel
theorem dX7_label_75 : decode cX7_label 75 = .ok (.iconst 3, 1) := by decide +kernel
theorem dX7_label_76 : decode cX7_label 76 = .ok (.invokevirtual 120, 3) := by decide +kernel
theorem dX7_label_79 : decode cX7_label 79 = .ok (.aload_n 0, 1) := by decide +kernel
theorem dX7_label_80 : decode cX7_label 80 = .ok (.iload_n 1, 1) := by decide +kernel
theorem dX7_label_81 : decode cX7_label 81 = .ok (.iload_n 2, 1) := by decide +kernel
theorem dX7_label_82 : decode cX7_label 82 = .ok (.invokevirtual 210, 3) := by decide +kernel
theorem dX7_label_85 : decode cX7_label 85 = .ok (.aload_n 0, 1) := by decide +kernel
theorem dX7_label_86 : decode cX7_label 86 = .ok (.aload_n 0, 1) := by decide +kernel
theorem dX7_label_87 : decode cX7_label 87 = .ok (.iload_n 1, 1) := by decide +kernel
theorem dX7_label_88 : decode cX7_label 88 = .ok (.invokevirtual 216, 3) := by decide +kernel
theorem dX7_label_91 : decode cX7_label 91 = .ok (.invokevirtual 213, 3) := by decide +kernel
theorem dX7_label_94 : decode cX7_label 94 = .ok (.ireturn, 1) := by decide +kernel
theorem dX7_named_0 : decode cX7_named 0 = .ok (.aload_n 0, 1) := by decide +kernel
theorem dX7_named_1 : decode cX7_named 1 = .ok (.iconst 0, 1) := by decide +kernel
theorem dX7_named_2 : decode cX7_named 2 = .ok (.putfield 1, 3) := by decide +kernel
theorem dX7_named_5 : decode cX7_named 5 = .ok (.aload_n 0, 1) := by decide +kernel
theorem dX7_named_6 : decode cX7_named 6 = .ok (.invokevirtual 198, 3) := by decide +kernel
theorem dX7_named_9 : decode cX7_named 9 = .ok (.aload_n 0, 1) := by decide +kernel
theorem dX7_named_10 : decode cX7_named 10 = .ok (.invokevirtual 201, 3) := by decide +kernel
theorem dX7_named_13 : decode cX7_named 13 = .ok (.istore_n 1, 1) := by decide +kernel
theorem dX7_named_14 : decode cX7_named 14 = .ok (.iload_n 1, 1) := by decide +kernel
theorem dX7_named_15 : decode cX7_named 15 = .ok (.ifCond .eq 14, 3) := by decide +kernel
theorem dX7_named_18 : decode cX7_named 18 = .ok (.aload_n 0, 1) := by decide +kernel
theorem dX7_named_19 : decode cX7_named 19 = .ok (.getfield 28, 3) := by decide +kernel
theorem dX7_named_22 : decode cX7_named 22 = .ok (.aload_n 0, 1) := by decide +kernel
theorem dX7_named_23 : decode cX7_named 23 = .ok (.getfield 25, 3) := by decide +kernel
theorem dX7_named_26 : decode cX7_named 26 = .ok (.if_icmp .ge 10, 3) := by decide +kernel
theorem dX7_named_29 : decode cX7_named 29 = .ok (.iconst (-1), 1) := by decide +kernel
theorem dX7_named_30 : decode cX7_named 30 = .ok (.aload_n 0, 1) := by decide +kernel
theorem dX7_named_31 : decode cX7_named 31 = .ok (.getfield 28, 3) := by decide +kernel
theorem dX7_named_34 : decode cX7_named 34 = .ok (.isub, 1) := by decide +kernel
theorem dX7_named_35 : decode cX7_named 35 = .ok (.ireturn, 1) := by decide +kernel
theorem dX7_named_36 : decode cX7_named 36 = .ok (.aload_n 0, 1) := by decide +kernel
theorem dX7_named_37 : decode cX7_named 37 = .ok (.iload_n 1, 1) := by decide +kernel
theorem dX7_named_38 : decode cX7_named 38 = .ok (.invokevirtual 204, 3) := by decide +kernel
theorem dX7_named_41 : decode cX7_named 41 = .ok (.istore_n 2, 1) := by decide +kernel
theorem dX7_named_42 : decode cX7_named 42 = .ok (.iload_n 2, 1) := by decide +kernel
theorem dX7_named_43 : decode cX7_named 43 = .ok (.ifCond .ge 8, 3) := by decide +kernel
theorem dX7_named_46 : decode cX7_named 46 = .ok (.bipush (-100), 2) := by decide +kernel
theorem dX7_named_48 : decode cX7_named 48 = .ok (.goto 4, 3) := by decide +kernel
theorem dX7_named_51 : decode cX7_named 51 = .ok (.iload_n 2, 1) := by decide +kernel
theorem dX7_named_52 : decode cX7_named 52 = .ok (.ireturn, 1) := by decide +kernel
theorem dX7_labels_0 : decode cX7_labels 0 = .ok (.aload_n 0, 1) := by decide +kernel
theorem dX7_labels_1 : decode cX7_labels 1 = .ok (.iconst 0, 1) := by decide +kernel
theorem dX7_labels_2 : decode cX7_labels 2 = .ok (.putfield 1, 3) := by decide +kernel
theorem dX7_labels_5 : decode cX7_labels 5 = .ok (.aload_n 0, 1) := by decide +kernel
theorem dX7_labels_6 : decode cX7_labels 6 = .ok (.iload_n 1, 1) := by decide +kernel
theorem dX7_labels_7 : decode cX7_labels 7 = .ok (.invokevirtual 137, 3) := by decide +kernel
theorem dX7_labels_10 : decode cX7_labels 10 = .ok (.ifCond .ne 5, 3) := by decide +kernel
theorem dX7_labels_13 : decode cX7_labels 13 = .ok (.iconst (-1), 1) := by decide +kernel
theorem dX7_labels_14 : decode cX7_labels 14 = .ok (.ireturn, 1) := by decide +kernel
theorem dX7_labels_15 : decode cX7_labels 15 = .ok (.aload_n 0, 1) := by decide +kernel
theorem dX7_labels_16 : decode cX7_labels 16 = .ok (.iconst 0, 1) := by decide +kernel
theorem dX7_labels_17 : decode cX7_labels 17 = .ok (.putfield 11, 3) := by decide +kernel
theorem dX7_labels_20 : decode cX7_labels 20 = .ok (.iconst 0, 1) := by decide +kernel
theorem dX7_labels_21 : decode cX7_labels 21 = .ok (.istore_n 2, 1) := by decide +kernel
theorem dX7_labels_22 : decode cX7_labels 22 = .ok (.iload_n 2, 1) := by decide +kernel
theorem dX7_labels_23 : decode cX7_labels 23 = .ok (.aload_n 0, 1) := by decide +kernel
theorem dX7_labels_24 : decode cX7_labels 24 = .ok (.iconst 0, 1) := by decide +kernel
theorem dX7_labels_25 : decode cX7_labels 25 = .ok (.invokevirtual 195, 3) := by decide +kernel
theorem dX7_labels_28 : decode cX7_labels 28 = .ok (.if_icmp .ge 36, 3) := by decide +kernel
theorem dX7_labels_31 : decode cX7_labels 31 = .ok (.aload_n 0, 1) := by decide +kernel
theorem dX7_labels_32 : decode cX7_labels 32 = .ok (.getfield 71, 3) := by decide +kernel
theorem dX7_labels_35 : decode cX7_labels 35 = .ok (.bipush 27, 2) := by decide +kernel
theorem dX7_labels_37 : decode cX7_labels 37 = .ok (.iload_n 2, 1) := by decide +kernel
theorem dX7_labels_38 : decode cX7_labels 38 = .ok (.iadd, 1) := by decide +kernel
theorem dX7_labels_39 : decode cX7_labels 39 = .ok (.iaload, 1) := by decide +kernel
theorem dX7_labels_40 : decode cX7_labels 40 = .ok (.iload_n 1, 1) := by decide +kernel
theorem dX7_labels_41 : decode cX7_labels 41 = .ok (.if_icmp .ne 17, 3) := by decide +kernel
theorem dX7_labels_44 : decode cX7_labels 44 = .ok (.aload_n 0, 1) := by decide +kernel
theorem dX7_labels_45 : decode cX7_labels 45 = .ok (.aload_n 0, 1) := by decide +kernel
theorem dX7_labels_46 : decode cX7_labels 46 = .ok (.getfield 71, 3) := by decide +kernel
theorem dX7_labels_49 : decode cX7_labels 49 = .ok (.bipush 67, 2) := by decide +kernel
theorem dX7_labels_51 : decode cX7_labels 51 = .ok (.iload_n 2, 1) := by decide +kernel
theorem dX7_labels_52 : decode cX7_labels 52 = .ok (.iadd, 1) := by decide +kernel
theorem dX7_labels_53 : decode cX7_labels 53 = .ok (.iaload, 1) := by decide +kernel
theorem dX7_labels_54 : decode cX7_labels 54 = .ok (.i2l, 1) := by decide +kernel
theorem dX7_labels_55 : decode cX7_labels 55 = .ok (.invokevirtual 191, 3) := by decide +kernel
theorem dX7_labels_58 : decode cX7_labels 58 = .ok (.iinc 2 1, 3) := by decide +kernel
theorem dX7_labels_61 : decode cX7_labels 61 = .ok (.goto (-39), 3) := by decide +kernel
theorem dX7_labels_64 : decode cX7_labels 64 = .ok (.aload_n 0, 1) := by decide +kernel
theorem dX7_labels_65 : decode cX7_labels 65 = .ok (.getfield 11, 3) := by decide +kernel
theorem dX7_labels_68 : decode cX7_labels 68 = .ok (.ireturn, 1) := by decide +kernel
theorem dX7_linksOne_0 : decode cX7_linksOne 0 = .ok (.aload_n 0, 1) := by decide +kernel
theorem dX7_linksOne_1 : decode cX7_linksOne 1 = .ok (.iload_n 1, 1) := by decide +kernel
theorem dX7_linksOne_2 : decode cX7_linksOne 2 = .ok (.iload_n 2, 1) := by decide +kernel
theorem dX7_linksOne_3 : decode cX7_linksOne 3 = .ok (.invokevirtual 219, 3) := by decide +kernel
theorem dX7_linksOne_6 : decode cX7_linksOne 6 = .ok (.ifCond .eq 13, 3) := by decide +kernel
theorem dX7_linksOne_9 : decode cX7_linksOne 9 = .ok (.aload_n 0, 1) := by decide +kernel
theorem dX7_linksOne_10 : decode cX7_linksOne 10 = .ok (.iconst 0, 1) := by decide +kernel
theorem dX7_linksOne_11 : decode cX7_linksOne 11 = .ok (.iload_n 1, 1) := by decide +kernel
theorem dX7_linksOne_12 : decode cX7_linksOne 12 = .ok (.iload_n 2, 1) := by decide +kernel
theorem dX7_linksOne_13 : decode cX7_linksOne 13 = .ok (.invokevirtual 222, 3) := by decide +kernel
theorem dX7_linksOne_16 : decode cX7_linksOne 16 = .ok (.goto 4, 3) := by decide +kernel
theorem dX7_linksOne_19 : decode cX7_linksOne 19 = .ok (.iconst (-1), 1) := by decide +kernel
theorem dX7_linksOne_20 : decode cX7_linksOne 20 = .ok (.ireturn, 1) := by decide +kernel
theorem dX7_links_0 : decode cX7_links 0 = .ok (.aload_n 0, 1) := by decide +kernel
theorem dX7_links_1 : decode cX7_links 1 = .ok (.iconst 0, 1) := by decide +kernel
theorem dX7_links_2 : decode cX7_links 2 = .ok (.putfield 1, 3) := by decide +kernel
theorem dX7_links_5 : decode cX7_links 5 = .ok (.aload_n 0, 1) := by decide +kernel
theorem dX7_links_6 : decode cX7_links 6 = .ok (.iconst 0, 1) := by decide +kernel
theorem dX7_links_7 : decode cX7_links 7 = .ok (.iconst 3, 1) := by decide +kernel
theorem dX7_links_8 : decode cX7_links 8 = .ok (.invokevirtual 120, 3) := by decide +kernel
theorem dX7_links_11 : decode cX7_links 11 = .ok (.aload_n 0, 1) := by decide +kernel
theorem dX7_links_12 : decode cX7_links 12 = .ok (.iload_n 1, 1) := by decide +kernel
theorem dX7_links_13 : decode cX7_links 13 = .ok (.iload_n 2, 1) := by decide +kernel
theorem dX7_links_14 : decode cX7_links 14 = .ok (.invokevirtual 225, 3) := by decide +kernel
theorem dX7_links_17 : decode cX7_links 17 = .ok (.istore_n 3, 1) := by decide +kernel
theorem dX7_links_18 : decode cX7_links 18 = .ok (.iload_n 3, 1) := by decide +kernel
theorem dX7_links_19 : decode cX7_links 19 = .ok (.bipush (-4), 2) := by decide +kernel
theorem dX7_links_21 : decode cX7_links 21 = .ok (.if_icmp .ne 16, 3) := by decide +kernel
theorem dX7_links_24 : decode cX7_links 24 = .ok (.aload_n 0, 1) := by decide +kernel
theorem dX7_links_25 : decode cX7_links 25 = .ok (.iconst 0, 1) := by decide +kernel
theorem dX7_links_26 : decode cX7_links 26 = .ok (.iload_n 2, 1) := by decide +kernel
theorem dX7_links_27 : decode cX7_links 27 = .ok (.iload_n 1, 1) := by decide +kernel
theorem dX7_links_28 : decode cX7_links 28 = .ok (.iconst 0, 1) := by decide +kernel
theorem dX7_links_29 : decode cX7_links 29 = .ok (.invokevirtual 228, 3) := by decide +kernel
theorem dX7_links_32 : decode cX7_links 32 = .ok (.pop, 1) := by decide +kernel
theorem dX7_links_33 : decode cX7_links 33 = .ok (.aload_n 0, 1) := by decide +kernel
theorem dX7_links_34 : decode cX7_links 34 = .ok (.invokevirtual 232, 3) := by decide +kernel
theorem dX7_links_37 : decode cX7_links 37 = .ok (.aload_n 0, 1) := by decide +kernel
theorem dX7_links_38 : decode cX7_links 38 = .ok (.iload_n 3, 1) := by decide +kernel
theorem dX7_links_39 : decode cX7_links 39 = .ok (.invokevirtual 213, 3) := by decide +kernel
theorem dX7_links_42 : decode cX7_links 42 = .ok (.ireturn, 1) := by decide +kernel
theorem dX7_unlinksOne_0 : decode cX7_unlinksOne 0 = .ok (.aload_n 0, 1) := by decide +kernel
theorem dX7_unlinksOne_1 : decode cX7_unlinksOne 1 = .ok (.iload_n 1, 1) := by decide +kernel
theorem dX7_unlinksOne_2 : decode cX7_unlinksOne 2 = .ok (.iload_n 2, 1) := by decide +kernel
theorem dX7_unlinksOne_3 : decode cX7_unlinksOne 3 = .ok (.invokevirtual 219, 3) := by decide +kernel
theorem dX7_unlinksOne_6 : decode cX7_unlinksOne 6 = .ok (.ifCond .ne 5, 3) := by decide +kernel
theorem dX7_unlinksOne_9 : decode cX7_unlinksOne 9 = .ok (.iconst (-1), 1) := by decide +kernel
theorem dX7_unlinksOne_10 : decode cX7_unlinksOne 10 = .ok (.ireturn, 1) := by decide +kernel
theorem dX7_unlinksOne_11 : decode cX7_unlinksOne 11 = .ok (.aload_n 0, 1) := by decide +kernel
theorem dX7_unlinksOne_12 : decode cX7_unlinksOne 12 = .ok (.iconst 0, 1) := by decide +kernel
theorem dX7_unlinksOne_13 : decode cX7_unlinksOne 13 = .ok (.iload_n 1, 1) := by decide +kernel
theorem dX7_unlinksOne_14 : decode cX7_unlinksOne 14 = .ok (.iload_n 2, 1) := by decide +kernel
theorem dX7_unlinksOne_15 : decode cX7_unlinksOne 15 = .ok (.invokevirtual 176, 3) := by decide +kernel
theorem dX7_unlinksOne_18 : decode cX7_unlinksOne 18 = .ok (.ifCond .ne 6, 3) := by decide +kernel
theorem dX7_unlinksOne_21 : decode cX7_unlinksOne 21 = .ok (.bipush (-2), 2) := by decide +kernel
theorem dX7_unlinksOne_23 : decode cX7_unlinksOne 23 = .ok (.ireturn, 1) := by decide +kernel
theorem dX7_unlinksOne_24 : decode cX7_unlinksOne 24 = .ok (.aload_n 0, 1) := by decide +kernel
theorem dX7_unlinksOne_25 : decode cX7_unlinksOne 25 = .ok (.getfield 71, 3) := by decide +kernel
theorem dX7_unlinksOne_28 : decode cX7_unlinksOne 28 = .ok (.bipush 107, 2) := by decide +kernel
theorem dX7_unlinksOne_30 : decode cX7_unlinksOne 30 = .ok (.iload_n 1, 1) := by decide +kernel
theorem dX7_unlinksOne_31 : decode cX7_unlinksOne 31 = .ok (.iadd, 1) := by decide +kernel
theorem dX7_unlinksOne_32 : decode cX7_unlinksOne 32 = .ok (.dup2, 1) := by decide +kernel
theorem dX7_unlinksOne_33 : decode cX7_unlinksOne 33 = .ok (.iaload, 1) := by decide +kernel
theorem dX7_unlinksOne_34 : decode cX7_unlinksOne 34 = .ok (.iconst 1, 1) := by decide +kernel
theorem dX7_unlinksOne_35 : decode cX7_unlinksOne 35 = .ok (.iload_n 2, 1) := by decide +kernel
theorem dX7_unlinksOne_36 : decode cX7_unlinksOne 36 = .ok (.ishl, 1) := by decide +kernel
theorem dX7_unlinksOne_37 : decode cX7_unlinksOne 37 = .ok (.iconst (-1), 1) := by decide +kernel
theorem dX7_unlinksOne_38 : decode cX7_unlinksOne 38 = .ok (.ixor, 1) := by decide +kernel
theorem dX7_unlinksOne_39 : decode cX7_unlinksOne 39 = .ok (.iand, 1) := by decide +kernel
theorem dX7_unlinksOne_40 : decode cX7_unlinksOne 40 = .ok (.iastore, 1) := by decide +kernel
theorem dX7_unlinksOne_41 : decode cX7_unlinksOne 41 = .ok (.aload_n 0, 1) := by decide +kernel
theorem dX7_unlinksOne_42 : decode cX7_unlinksOne 42 = .ok (.iconst 0, 1) := by decide +kernel
theorem dX7_unlinksOne_43 : decode cX7_unlinksOne 43 = .ok (.invokevirtual 235, 3) := by decide +kernel
theorem dX7_unlinksOne_46 : decode cX7_unlinksOne 46 = .ok (.ireturn, 1) := by decide +kernel
theorem dX7_unlinks_0 : decode cX7_unlinks 0 = .ok (.aload_n 0, 1) := by decide +kernel
theorem dX7_unlinks_1 : decode cX7_unlinks 1 = .ok (.iconst 0, 1) := by decide +kernel
theorem dX7_unlinks_2 : decode cX7_unlinks 2 = .ok (.putfield 1, 3) := by decide +kernel
theorem dX7_unlinks_5 : decode cX7_unlinks 5 = .ok (.aload_n 0, 1) := by decide +kernel
theorem dX7_unlinks_6 : decode cX7_unlinks 6 = .ok (.iconst 0, 1) := by decide +kernel
theorem dX7_unlinks_7 : decode cX7_unlinks 7 = .ok (.iconst 3, 1) := by decide +kernel
theorem dX7_unlinks_8 : decode cX7_unlinks 8 = .ok (.invokevirtual 120, 3) := by decide +kernel
theorem dX7_unlinks_11 : decode cX7_unlinks 11 = .ok (.aload_n 0, 1) := by decide +kernel
theorem dX7_unlinks_12 : decode cX7_unlinks 12 = .ok (.aload_n 0, 1) := by decide +kernel
theorem dX7_unlinks_13 : decode cX7_unlinks 13 = .ok (.iload_n 1, 1) := by decide +kernel
theorem dX7_unlinks_14 : decode cX7_unlinks 14 = .ok (.iload_n 2, 1) := by decide +kernel
theorem dX7_unlinks_15 : decode cX7_unlinks 15 = .ok (.invokevirtual 238, 3) := by decide +kernel
theorem dX7_unlinks_18 : decode cX7_unlinks 18 = .ok (.invokevirtual 213, 3) := by decide +kernel
theorem dX7_unlinks_21 : decode cX7_unlinks 21 = .ok (.ireturn, 1) := by decide +kernel
theorem dX7_readsTerm_0 : decode cX7_readsTerm 0 = .ok (.aload_n 0, 1) := by decide +kernel
theorem dX7_readsTerm_1 : decode cX7_readsTerm 1 = .ok (.getfield 28, 3) := by decide +kernel
theorem dX7_readsTerm_4 : decode cX7_readsTerm 4 = .ok (.istore_n 1, 1) := by decide +kernel
theorem dX7_readsTerm_5 : decode cX7_readsTerm 5 = .ok (.aload_n 0, 1) := by decide +kernel
theorem dX7_readsTerm_6 : decode cX7_readsTerm 6 = .ok (.invokevirtual 201, 3) := by decide +kernel
theorem dX7_readsTerm_9 : decode cX7_readsTerm 9 = .ok (.istore_n 2, 1) := by decide +kernel
theorem dX7_readsTerm_10 : decode cX7_readsTerm 10 = .ok (.iload_n 2, 1) := by decide +kernel
theorem dX7_readsTerm_11 : decode cX7_readsTerm 11 = .ok (.ifCond .ne 5, 3) := by decide +kernel
theorem dX7_readsTerm_14 : decode cX7_readsTerm 14 = .ok (.iconst (-1), 1) := by decide +kernel
theorem dX7_readsTerm_15 : decode cX7_readsTerm 15 = .ok (.ireturn, 1) := by decide +kernel
theorem dX7_readsTerm_16 : decode cX7_readsTerm 16 = .ok (.aload_n 0, 1) := by decide +kernel
theorem dX7_readsTerm_17 : decode cX7_readsTerm 17 = .ok (.iload_n 2, 1) := by decide +kernel
theorem dX7_readsTerm_18 : decode cX7_readsTerm 18 = .ok (.invokevirtual 204, 3) := by decide +kernel
theorem dX7_readsTerm_21 : decode cX7_readsTerm 21 = .ok (.istore_n 3, 1) := by decide +kernel
theorem dX7_readsTerm_22 : decode cX7_readsTerm 22 = .ok (.aload_n 0, 1) := by decide +kernel
theorem dX7_readsTerm_23 : decode cX7_readsTerm 23 = .ok (.iload_n 3, 1) := by decide +kernel
theorem dX7_readsTerm_24 : decode cX7_readsTerm 24 = .ok (.ifCond .ge 7, 3) := by decide +kernel
theorem dX7_readsTerm_27 : decode cX7_readsTerm 27 = .ok (.iload_n 1, 1) := by decide +kernel
theorem dX7_readsTerm_28 : decode cX7_readsTerm 28 = .ok (.goto 7, 3) := by decide +kernel
theorem dX7_readsTerm_31 : decode cX7_readsTerm 31 = .ok (.aload_n 0, 1) := by decide +kernel
theorem dX7_readsTerm_32 : decode cX7_readsTerm 32 = .ok (.getfield 28, 3) := by decide +kernel
theorem dX7_readsTerm_35 : decode cX7_readsTerm 35 = .ok (.putfield 28, 3) := by decide +kernel
theorem dX7_readsTerm_38 : decode cX7_readsTerm 38 = .ok (.iload_n 3, 1) := by decide +kernel
theorem dX7_readsTerm_39 : decode cX7_readsTerm 39 = .ok (.ireturn, 1) := by decide +kernel
theorem dX7_readsLinks_0 : decode cX7_readsLinks 0 = .ok (.iconst 0, 1) := by decide +kernel
theorem dX7_readsLinks_1 : decode cX7_readsLinks 1 = .ok (.istore_n 1, 1) := by decide +kernel
theorem dX7_readsLinks_2 : decode cX7_readsLinks 2 = .ok (.aload_n 0, 1) := by decide +kernel
theorem dX7_readsLinks_3 : decode cX7_readsLinks 3 = .ok (.getfield 25, 3) := by decide +kernel
theorem dX7_readsLinks_6 : decode cX7_readsLinks 6 = .ok (.ifCond .le 7, 3) := by decide +kernel
theorem dX7_readsLinks_9 : decode cX7_readsLinks 9 = .ok (.iconst 1, 1) := by decide +kernel
theorem dX7_readsLinks_10 : decode cX7_readsLinks 10 = .ok (.goto 4, 3) := by decide +kernel
theorem dX7_readsLinks_13 : decode cX7_readsLinks 13 = .ok (.iconst 0, 1) := by decide +kernel
theorem dX7_readsLinks_14 : decode cX7_readsLinks 14 = .ok (.istore_n 2, 1) := by decide +kernel
theorem dX7_readsLinks_15 : decode cX7_readsLinks 15 = .ok (.iload_n 2, 1) := by decide +kernel
theorem dX7_readsLinks_16 : decode cX7_readsLinks 16 = .ok (.ifCond .eq 67, 3) := by decide +kernel
theorem dX7_readsLinks_19 : decode cX7_readsLinks 19 = .ok (.aload_n 0, 1) := by decide +kernel
theorem dX7_readsLinks_20 : decode cX7_readsLinks 20 = .ok (.getfield 86, 3) := by decide +kernel
theorem dX7_readsLinks_23 : decode cX7_readsLinks 23 = .ok (.iload_n 1, 1) := by decide +kernel
theorem dX7_readsLinks_24 : decode cX7_readsLinks 24 = .ok (.aload_n 0, 1) := by decide +kernel
theorem dX7_readsLinks_25 : decode cX7_readsLinks 25 = .ok (.invokevirtual 241, 3) := by decide +kernel
theorem dX7_readsLinks_28 : decode cX7_readsLinks 28 = .ok (.iastore, 1) := by decide +kernel
theorem dX7_readsLinks_29 : decode cX7_readsLinks 29 = .ok (.aload_n 0, 1) := by decide +kernel
theorem dX7_readsLinks_30 : decode cX7_readsLinks 30 = .ok (.getfield 86, 3) := by decide +kernel
theorem dX7_readsLinks_33 : decode cX7_readsLinks 33 = .ok (.iload_n 1, 1) := by decide +kernel
theorem dX7_readsLinks_34 : decode cX7_readsLinks 34 = .ok (.iaload, 1) := by decide +kernel
theorem dX7_readsLinks_35 : decode cX7_readsLinks 35 = .ok (.ifCond .lt 12, 3) := by decide +kernel
theorem dX7_readsLinks_38 : decode cX7_readsLinks 38 = .ok (.aload_n 0, 1) := by decide +kernel
theorem dX7_readsLinks_39 : decode cX7_readsLinks 39 = .ok (.bipush 62, 2) := by decide +kernel
theorem dX7_readsLinks_41 : decode cX7_readsLinks 41 = .ok (.invokevirtual 244, 3) := by decide +kernel
theorem dX7_readsLinks_44 : decode cX7_readsLinks 44 = .ok (.ifCond .ne 5, 3) := by decide +kernel
theorem dX7_readsLinks_47 : decode cX7_readsLinks 47 = .ok (.iconst (-1), 1) := by decide +kernel
theorem dX7_readsLinks_48 : decode cX7_readsLinks 48 = .ok (.ireturn, 1) := by decide +kernel
theorem dX7_readsLinks_49 : decode cX7_readsLinks 49 = .ok (.aload_n 0, 1) := by decide +kernel
theorem dX7_readsLinks_50 : decode cX7_readsLinks 50 = .ok (.getfield 89, 3) := by decide +kernel
theorem dX7_readsLinks_53 : decode cX7_readsLinks 53 = .ok (.iload_n 1, 1) := by decide +kernel
theorem dX7_readsLinks_54 : decode cX7_readsLinks 54 = .ok (.aload_n 0, 1) := by decide +kernel
theorem dX7_readsLinks_55 : decode cX7_readsLinks 55 = .ok (.invokevirtual 241, 3) := by decide +kernel
theorem dX7_readsLinks_58 : decode cX7_readsLinks 58 = .ok (.iastore, 1) := by decide +kernel
theorem dX7_readsLinks_59 : decode cX7_readsLinks 59 = .ok (.aload_n 0, 1) := by decide +kernel
theorem dX7_readsLinks_60 : decode cX7_readsLinks 60 = .ok (.getfield 89, 3) := by decide +kernel
theorem dX7_readsLinks_63 : decode cX7_readsLinks 63 = .ok (.iload_n 1, 1) := by decide +kernel
theorem dX7_readsLinks_64 : decode cX7_readsLinks 64 = .ok (.iaload, 1) := by decide +kernel
theorem dX7_readsLinks_65 : decode cX7_readsLinks 65 = .ok (.ifCond .ge 5, 3) := by decide +kernel
theorem dX7_readsLinks_68 : decode cX7_readsLinks 68 = .ok (.iconst (-1), 1) := by decide +kernel
theorem dX7_readsLinks_69 : decode cX7_readsLinks 69 = .ok (.ireturn, 1) := by decide +kernel
theorem dX7_readsLinks_70 : decode cX7_readsLinks 70 = .ok (.iinc 1 1, 3) := by decide +kernel
theorem dX7_readsLinks_73 : decode cX7_readsLinks 73 = .ok (.aload_n 0, 1) := by decide +kernel
theorem dX7_readsLinks_74 : decode cX7_readsLinks 74 = .ok (.bipush 44, 2) := by decide +kernel
theorem dX7_readsLinks_76 : decode cX7_readsLinks 76 = .ok (.invokevirtual 244, 3) := by decide +kernel
theorem dX7_readsLinks_79 : decode cX7_readsLinks 79 = .ok (.istore_n 2, 1) := by decide +kernel
theorem dX7_readsLinks_80 : decode cX7_readsLinks 80 = .ok (.goto (-65), 3) := by decide +kernel
theorem dX7_readsLinks_83 : decode cX7_readsLinks 83 = .ok (.aload_n 0, 1) := by decide +kernel
theorem dX7_readsLinks_84 : decode cX7_readsLinks 84 = .ok (.getfield 28, 3) := by decide +kernel
theorem dX7_readsLinks_87 : decode cX7_readsLinks 87 = .ok (.aload_n 0, 1) := by decide +kernel
theorem dX7_readsLinks_88 : decode cX7_readsLinks 88 = .ok (.getfield 25, 3) := by decide +kernel
theorem dX7_readsLinks_91 : decode cX7_readsLinks 91 = .ok (.if_icmp .ge 7, 3) := by decide +kernel
theorem dX7_readsLinks_94 : decode cX7_readsLinks 94 = .ok (.iconst (-1), 1) := by decide +kernel
theorem dX7_readsLinks_95 : decode cX7_readsLinks 95 = .ok (.goto 4, 3) := by decide +kernel
theorem dX7_readsLinks_98 : decode cX7_readsLinks 98 = .ok (.iload_n 1, 1) := by decide +kernel
theorem dX7_readsLinks_99 : decode cX7_readsLinks 99 = .ok (.ireturn, 1) := by decide +kernel
theorem dX7_net_0 : decode cX7_net 0 = .ok (.aload_n 0, 1) := by decide +kernel
theorem dX7_net_1 : decode cX7_net 1 = .ok (.iconst 0, 1) := by decide +kernel
theorem dX7_net_2 : decode cX7_net 2 = .ok (.putfield 1, 3) := by decide +kernel
theorem dX7_net_5 : decode cX7_net 5 = .ok (.aload_n 0, 1) := by decide +kernel
theorem dX7_net_6 : decode cX7_net 6 = .ok (.invokevirtual 198, 3) := by decide +kernel
theorem dX7_net_9 : decode cX7_net 9 = .ok (.aload_n 0, 1) := by decide +kernel
theorem dX7_net_10 : decode cX7_net 10 = .ok (.invokevirtual 247, 3) := by decide +kernel
theorem dX7_net_13 : decode cX7_net 13 = .ok (.istore_n 1, 1) := by decide +kernel
theorem dX7_net_14 : decode cX7_net 14 = .ok (.iload_n 1, 1) := by decide +kernel
theorem dX7_net_15 : decode cX7_net 15 = .ok (.ifCond .ge 10, 3) := by decide +kernel
theorem dX7_net_18 : decode cX7_net 18 = .ok (.iconst (-1), 1) := by decide +kernel
theorem dX7_net_19 : decode cX7_net 19 = .ok (.aload_n 0, 1) := by decide +kernel
theorem dX7_net_20 : decode cX7_net 20 = .ok (.getfield 28, 3) := by decide +kernel
theorem dX7_net_23 : decode cX7_net 23 = .ok (.isub, 1) := by decide +kernel
theorem dX7_net_24 : decode cX7_net 24 = .ok (.ireturn, 1) := by decide +kernel
theorem dX7_net_25 : decode cX7_net 25 = .ok (.aload_n 0, 1) := by decide +kernel
theorem dX7_net_26 : decode cX7_net 26 = .ok (.iconst 0, 1) := by decide +kernel
theorem dX7_net_27 : decode cX7_net 27 = .ok (.iconst 3, 1) := by decide +kernel
theorem dX7_net_28 : decode cX7_net 28 = .ok (.invokevirtual 120, 3) := by decide +kernel
theorem dX7_net_31 : decode cX7_net 31 = .ok (.iconst 0, 1) := by decide +kernel
theorem dX7_net_32 : decode cX7_net 32 = .ok (.istore_n 2, 1) := by decide +kernel
theorem dX7_net_33 : decode cX7_net 33 = .ok (.iconst 0, 1) := by decide +kernel
theorem dX7_net_34 : decode cX7_net 34 = .ok (.istore_n 3, 1) := by decide +kernel
theorem dX7_net_35 : decode cX7_net 35 = .ok (.iconst 1, 1) := by decide +kernel
theorem dX7_net_36 : decode cX7_net 36 = .ok (.istore 4, 2) := by decide +kernel
theorem dX7_net_38 : decode cX7_net 38 = .ok (.iload_n 2, 1) := by decide +kernel
theorem dX7_net_39 : decode cX7_net 39 = .ok (.iload_n 1, 1) := by decide +kernel
theorem dX7_net_40 : decode cX7_net 40 = .ok (.if_icmp .ge 72, 3) := by decide +kernel
theorem dX7_net_43 : decode cX7_net 43 = .ok (.iload 4, 2) := by decide +kernel
theorem dX7_net_45 : decode cX7_net 45 = .ok (.ifCond .eq 67, 3) := by decide +kernel
theorem dX7_net_48 : decode cX7_net 48 = .ok (.aload_n 0, 1) := by decide +kernel
theorem dX7_net_49 : decode cX7_net 49 = .ok (.aload_n 0, 1) := by decide +kernel
theorem dX7_net_50 : decode cX7_net 50 = .ok (.getfield 86, 3) := by decide +kernel
theorem dX7_net_53 : decode cX7_net 53 = .ok (.iload_n 2, 1) := by decide +kernel
theorem dX7_net_54 : decode cX7_net 54 = .ok (.iaload, 1) := by decide +kernel
theorem dX7_net_55 : decode cX7_net 55 = .ok (.aload_n 0, 1) := by decide +kernel
theorem dX7_net_56 : decode cX7_net 56 = .ok (.getfield 89, 3) := by decide +kernel
theorem dX7_net_59 : decode cX7_net 59 = .ok (.iload_n 2, 1) := by decide +kernel
theorem dX7_net_60 : decode cX7_net 60 = .ok (.iaload, 1) := by decide +kernel
theorem dX7_net_61 : decode cX7_net 61 = .ok (.invokevirtual 225, 3) := by decide +kernel
theorem dX7_net_64 : decode cX7_net 64 = .ok (.istore 5, 2) := by decide +kernel
theorem dX7_net_66 : decode cX7_net 66 = .ok (.iload 5, 2) := by decide +kernel
theorem dX7_net_68 : decode cX7_net 68 = .ok (.ifCond .ge 10, 3) := by decide +kernel
theorem dX7_net_71 : decode cX7_net 71 = .ok (.iload 5, 2) := by decide +kernel
theorem dX7_net_73 : decode cX7_net 73 = .ok (.bipush (-2), 2) := by decide +kernel
theorem dX7_net_75 : decode cX7_net 75 = .ok (.if_icmp .ne 7, 3) := by decide +kernel
theorem dX7_net_78 : decode cX7_net 78 = .ok (.iconst 1, 1) := by decide +kernel
theorem dX7_net_79 : decode cX7_net 79 = .ok (.goto 4, 3) := by decide +kernel
theorem dX7_net_82 : decode cX7_net 82 = .ok (.iconst 0, 1) := by decide +kernel
theorem dX7_net_83 : decode cX7_net 83 = .ok (.istore 4, 2) := by decide +kernel
theorem dX7_net_85 : decode cX7_net 85 = .ok (.iload_n 3, 1) := by decide +kernel
theorem dX7_net_86 : decode cX7_net 86 = .ok (.iload 5, 2) := by decide +kernel
theorem dX7_net_88 : decode cX7_net 88 = .ok (.ifCond .lt 7, 3) := by decide +kernel
theorem dX7_net_91 : decode cX7_net 91 = .ok (.iconst 1, 1) := by decide +kernel
theorem dX7_net_92 : decode cX7_net 92 = .ok (.goto 4, 3) := by decide +kernel
theorem dX7_net_95 : decode cX7_net 95 = .ok (.iconst 0, 1) := by decide +kernel
theorem dX7_net_96 : decode cX7_net 96 = .ok (.invokestatic 45, 3) := by decide +kernel
theorem dX7_net_99 : decode cX7_net 99 = .ok (.iadd, 1) := by decide +kernel
theorem dX7_net_100 : decode cX7_net 100 = .ok (.istore_n 3, 1) := by decide +kernel
theorem dX7_net_101 : decode cX7_net 101 = .ok (.iload_n 2, 1) := by decide +kernel
theorem dX7_net_102 : decode cX7_net 102 = .ok (.iload 4, 2) := by decide +kernel
theorem dX7_net_104 : decode cX7_net 104 = .ok (.invokestatic 45, 3) := by decide +kernel
theorem dX7_net_107 : decode cX7_net 107 = .ok (.iadd, 1) := by decide +kernel
theorem dX7_net_108 : decode cX7_net 108 = .ok (.istore_n 2, 1) := by decide +kernel
theorem dX7_net_109 : decode cX7_net 109 = .ok (.goto (-71), 3) := by decide +kernel
theorem dX7_net_112 : decode cX7_net 112 = .ok (.iload_n 3, 1) := by decide +kernel
theorem dX7_net_113 : decode cX7_net 113 = .ok (.ifCond .le 7, 3) := by decide +kernel
theorem dX7_net_116 : decode cX7_net 116 = .ok (.aload_n 0, 1) := by decide +kernel
theorem dX7_net_117 : decode cX7_net 117 = .ok (.invokevirtual 124, 3) := by decide +kernel
theorem dX7_net_120 : decode cX7_net 120 = .ok (.aload_n 0, 1) := by decide +kernel
theorem dX7_net_121 : decode cX7_net 121 = .ok (.iconst 0, 1) := by decide +kernel
theorem dX7_net_122 : decode cX7_net 122 = .ok (.putfield 11, 3) := by decide +kernel
theorem dX7_net_125 : decode cX7_net 125 = .ok (.aload_n 0, 1) := by decide +kernel
theorem dX7_net_126 : decode cX7_net 126 = .ok (.iload_n 2, 1) := by decide +kernel
theorem dX7_net_127 : decode cX7_net 127 = .ok (.iload_n 1, 1) := by decide +kernel
theorem dX7_net_128 : decode cX7_net 128 = .ok (.if_icmp .ge 7, 3) := by decide +kernel
theorem dX7_net_131 : decode cX7_net 131 = .ok (.iconst 1, 1) := by decide +kernel
theorem dX7_net_132 : decode cX7_net 132 = .ok (.goto 4, 3) := by decide +kernel
theorem dX7_net_135 : decode cX7_net 135 = .ok (.iconst 0, 1) := by decide +kernel
theorem dX7_net_136 : decode cX7_net 136 = .ok (.invokestatic 45, 3) := by decide +kernel
theorem dX7_net_139 : decode cX7_net 139 = .ok (.i2l, 1) := by decide +kernel
theorem dX7_net_140 : decode cX7_net 140 = .ok (.invokevirtual 191, 3) := by decide +kernel
theorem dX7_net_143 : decode cX7_net 143 = .ok (.iload_n 2, 1) := by decide +kernel
theorem dX7_net_144 : decode cX7_net 144 = .ok (.ireturn, 1) := by decide +kernel
theorem dX7_place_0 : decode cX7_place 0 = .ok (.aload_n 0, 1) := by decide +kernel
theorem dX7_place_1 : decode cX7_place 1 = .ok (.aload_n 0, 1) := by decide +kernel
theorem dX7_place_2 : decode cX7_place 2 = .ok (.iload_n 1, 1) := by decide +kernel
theorem dX7_place_3 : decode cX7_place 3 = .ok (.invokevirtual 137, 3) := by decide +kernel
theorem dX7_place_6 : decode cX7_place 6 = .ok (.ifCond .ne 7, 3) := by decide +kernel
theorem dX7_place_9 : decode cX7_place 9 = .ok (.iconst 1, 1) := by decide +kernel
theorem dX7_place_10 : decode cX7_place 10 = .ok (.goto 4, 3) := by decide +kernel
theorem dX7_place_13 : decode cX7_place 13 = .ok (.iconst 0, 1) := by decide +kernel
theorem dX7_place_14 : decode cX7_place 14 = .ok (.invokestatic 45, 3) := by decide +kernel
theorem dX7_place_17 : decode cX7_place 17 = .ok (.putfield 1, 3) := by decide +kernel
theorem dX7_place_20 : decode cX7_place 20 = .ok (.aload_n 0, 1) := by decide +kernel
theorem dX7_place_21 : decode cX7_place 21 = .ok (.getfield 1, 3) := by decide +kernel
theorem dX7_place_24 : decode cX7_place 24 = .ok (.iconst 1, 1) := by decide +kernel
theorem dX7_place_25 : decode cX7_place 25 = .ok (.if_icmp .ne 7, 3) := by decide +kernel
theorem dX7_place_28 : decode cX7_place 28 = .ok (.iconst 0, 1) := by decide +kernel
theorem dX7_place_29 : decode cX7_place 29 = .ok (.goto 9, 3) := by decide +kernel
theorem dX7_place_32 : decode cX7_place 32 = .ok (.aload_n 0, 1) := by decide +kernel
theorem dX7_place_33 : decode cX7_place 33 = .ok (.iconst 0, 1) := by decide +kernel
theorem dX7_place_34 : decode cX7_place 34 = .ok (.iload_n 1, 1) := by decide +kernel
theorem dX7_place_35 : decode cX7_place 35 = .ok (.invokevirtual 160, 3) := by decide +kernel
theorem dX7_place_38 : decode cX7_place 38 = .ok (.ireturn, 1) := by decide +kernel
theorem dX7_at_0 : decode cX7_at 0 = .ok (.aload_n 0, 1) := by decide +kernel
theorem dX7_at_1 : decode cX7_at 1 = .ok (.iload_n 1, 1) := by decide +kernel
theorem dX7_at_2 : decode cX7_at 2 = .ok (.i2l, 1) := by decide +kernel
theorem dX7_at_3 : decode cX7_at 3 = .ok (.lconst 0, 1) := by decide +kernel
theorem dX7_at_4 : decode cX7_at 4 = .ok (.aload_n 0, 1) := by decide +kernel
theorem dX7_at_5 : decode cX7_at 5 = .ok (.iconst 0, 1) := by decide +kernel
theorem dX7_at_6 : decode cX7_at 6 = .ok (.invokevirtual 169, 3) := by decide +kernel
theorem dX7_at_9 : decode cX7_at 9 = .ok (.iconst 1, 1) := by decide +kernel
theorem dX7_at_10 : decode cX7_at 10 = .ok (.isub, 1) := by decide +kernel
theorem dX7_at_11 : decode cX7_at 11 = .ok (.i2l, 1) := by decide +kernel
theorem dX7_at_12 : decode cX7_at 12 = .ok (.invokestatic 21, 3) := by decide +kernel
theorem dX7_at_15 : decode cX7_at 15 = .ok (.ifCond .ne 7, 3) := by decide +kernel
theorem dX7_at_18 : decode cX7_at 18 = .ok (.iconst 1, 1) := by decide +kernel
theorem dX7_at_19 : decode cX7_at 19 = .ok (.goto 4, 3) := by decide +kernel
theorem dX7_at_22 : decode cX7_at 22 = .ok (.iconst 0, 1) := by decide +kernel
theorem dX7_at_23 : decode cX7_at 23 = .ok (.invokestatic 45, 3) := by decide +kernel
theorem dX7_at_26 : decode cX7_at 26 = .ok (.putfield 1, 3) := by decide +kernel
theorem dX7_at_29 : decode cX7_at 29 = .ok (.aload_n 0, 1) := by decide +kernel
theorem dX7_at_30 : decode cX7_at 30 = .ok (.getfield 1, 3) := by decide +kernel
theorem dX7_at_33 : decode cX7_at 33 = .ok (.iconst 1, 1) := by decide +kernel
theorem dX7_at_34 : decode cX7_at 34 = .ok (.if_icmp .ne 7, 3) := by decide +kernel
theorem dX7_at_37 : decode cX7_at 37 = .ok (.iconst 0, 1) := by decide +kernel
theorem dX7_at_38 : decode cX7_at 38 = .ok (.goto 9, 3) := by decide +kernel
theorem dX7_at_41 : decode cX7_at 41 = .ok (.aload_n 0, 1) := by decide +kernel
theorem dX7_at_42 : decode cX7_at 42 = .ok (.iconst 0, 1) := by decide +kernel
theorem dX7_at_43 : decode cX7_at 43 = .ok (.iload_n 1, 1) := by decide +kernel
theorem dX7_at_44 : decode cX7_at 44 = .ok (.invokevirtual 157, 3) := by decide +kernel
theorem dX7_at_47 : decode cX7_at 47 = .ok (.ireturn, 1) := by decide +kernel
theorem dX7_would_0 : decode cX7_would 0 = .ok (.aload_n 0, 1) := by decide +kernel
theorem dX7_would_1 : decode cX7_would 1 = .ok (.iconst 0, 1) := by decide +kernel
theorem dX7_would_2 : decode cX7_would 2 = .ok (.putfield 1, 3) := by decide +kernel
theorem dX7_would_5 : decode cX7_would 5 = .ok (.aload_n 0, 1) := by decide +kernel
theorem dX7_would_6 : decode cX7_would 6 = .ok (.iload_n 1, 1) := by decide +kernel
theorem dX7_would_7 : decode cX7_would 7 = .ok (.iload_n 2, 1) := by decide +kernel
theorem dX7_would_8 : decode cX7_would 8 = .ok (.invokevirtual 219, 3) := by decide +kernel
theorem dX7_would_11 : decode cX7_would 11 = .ok (.ifCond .ne 5, 3) := by decide +kernel
theorem dX7_would_14 : decode cX7_would 14 = .ok (.iconst (-1), 1) := by decide +kernel
theorem dX7_would_15 : decode cX7_would 15 = .ok (.ireturn, 1) := by decide +kernel
theorem dX7_would_16 : decode cX7_would 16 = .ok (.aload_n 0, 1) := by decide +kernel
theorem dX7_would_17 : decode cX7_would 17 = .ok (.iconst 0, 1) := by decide +kernel
theorem dX7_would_18 : decode cX7_would 18 = .ok (.iconst 4, 1) := by decide +kernel
theorem dX7_would_19 : decode cX7_would 19 = .ok (.invokevirtual 120, 3) := by decide +kernel
theorem dX7_would_22 : decode cX7_would 22 = .ok (.aload_n 0, 1) := by decide +kernel
theorem dX7_would_23 : decode cX7_would 23 = .ok (.iconst 4, 1) := by decide +kernel
theorem dX7_would_24 : decode cX7_would 24 = .ok (.iload_n 1, 1) := by decide +kernel
theorem dX7_would_25 : decode cX7_would 25 = .ok (.iload_n 2, 1) := by decide +kernel
theorem dX7_would_26 : decode cX7_would 26 = .ok (.invokevirtual 222, 3) := by decide +kernel
theorem dX7_would_29 : decode cX7_would 29 = .ok (.istore_n 3, 1) := by decide +kernel
theorem dX7_would_30 : decode cX7_would 30 = .ok (.iload_n 3, 1) := by decide +kernel
theorem dX7_would_31 : decode cX7_would 31 = .ok (.bipush (-4), 2) := by decide +kernel
theorem dX7_would_33 : decode cX7_would 33 = .ok (.if_icmp .ne 16, 3) := by decide +kernel
theorem dX7_would_36 : decode cX7_would 36 = .ok (.aload_n 0, 1) := by decide +kernel
theorem dX7_would_37 : decode cX7_would 37 = .ok (.iconst 0, 1) := by decide +kernel
theorem dX7_would_38 : decode cX7_would 38 = .ok (.iload_n 2, 1) := by decide +kernel
theorem dX7_would_39 : decode cX7_would 39 = .ok (.iload_n 1, 1) := by decide +kernel
theorem dX7_would_40 : decode cX7_would 40 = .ok (.iconst 0, 1) := by decide +kernel
theorem dX7_would_41 : decode cX7_would 41 = .ok (.invokevirtual 228, 3) := by decide +kernel
theorem dX7_would_44 : decode cX7_would 44 = .ok (.pop, 1) := by decide +kernel
theorem dX7_would_45 : decode cX7_would 45 = .ok (.aload_n 0, 1) := by decide +kernel
theorem dX7_would_46 : decode cX7_would 46 = .ok (.invokevirtual 232, 3) := by decide +kernel
theorem dX7_would_49 : decode cX7_would 49 = .ok (.iload_n 3, 1) := by decide +kernel
theorem dX7_would_50 : decode cX7_would 50 = .ok (.ifCond .ge 5, 3) := by decide +kernel
theorem dX7_would_53 : decode cX7_would 53 = .ok (.iload_n 3, 1) := by decide +kernel
theorem dX7_would_54 : decode cX7_would 54 = .ok (.ireturn, 1) := by decide +kernel
theorem dX7_would_55 : decode cX7_would 55 = .ok (.aload_n 0, 1) := by decide +kernel
theorem dX7_would_56 : decode cX7_would 56 = .ok (.iconst 0, 1) := by decide +kernel
theorem dX7_would_57 : decode cX7_would 57 = .ok (.putfield 11, 3) := by decide +kernel
theorem dX7_would_60 : decode cX7_would 60 = .ok (.iconst 0, 1) := by decide +kernel
theorem dX7_would_61 : decode cX7_would 61 = .ok (.istore 4, 2) := by decide +kernel
theorem dX7_would_63 : decode cX7_would 63 = .ok (.iload 4, 2) := by decide +kernel
theorem dX7_would_65 : decode cX7_would 65 = .ok (.aload_n 0, 1) := by decide +kernel
theorem dX7_would_66 : decode cX7_would 66 = .ok (.iconst 4, 1) := by decide +kernel
theorem dX7_would_67 : decode cX7_would 67 = .ok (.invokevirtual 169, 3) := by decide +kernel
theorem dX7_would_70 : decode cX7_would 70 = .ok (.if_icmp .ge 21, 3) := by decide +kernel
theorem dX7_would_73 : decode cX7_would 73 = .ok (.aload_n 0, 1) := by decide +kernel
theorem dX7_would_74 : decode cX7_would 74 = .ok (.aload_n 0, 1) := by decide +kernel
theorem dX7_would_75 : decode cX7_would 75 = .ok (.iconst 4, 1) := by decide +kernel
theorem dX7_would_76 : decode cX7_would 76 = .ok (.iload 4, 2) := by decide +kernel
theorem dX7_would_78 : decode cX7_would 78 = .ok (.invokevirtual 157, 3) := by decide +kernel
theorem dX7_would_81 : decode cX7_would 81 = .ok (.i2l, 1) := by decide +kernel
theorem dX7_would_82 : decode cX7_would 82 = .ok (.invokevirtual 191, 3) := by decide +kernel
theorem dX7_would_85 : decode cX7_would 85 = .ok (.iinc 4 1, 3) := by decide +kernel
theorem dX7_would_88 : decode cX7_would 88 = .ok (.goto (-25), 3) := by decide +kernel
theorem dX7_would_91 : decode cX7_would 91 = .ok (.iload_n 3, 1) := by decide +kernel
theorem dX7_would_92 : decode cX7_would 92 = .ok (.ireturn, 1) := by decide +kernel
theorem dX7_kin_0 : decode cX7_kin 0 = .ok (.aload_n 0, 1) := by decide +kernel
theorem dX7_kin_1 : decode cX7_kin 1 = .ok (.iconst 0, 1) := by decide +kernel
theorem dX7_kin_2 : decode cX7_kin 2 = .ok (.putfield 1, 3) := by decide +kernel
theorem dX7_kin_5 : decode cX7_kin 5 = .ok (.aload_n 0, 1) := by decide +kernel
theorem dX7_kin_6 : decode cX7_kin 6 = .ok (.iload_n 1, 1) := by decide +kernel
theorem dX7_kin_7 : decode cX7_kin 7 = .ok (.invokevirtual 137, 3) := by decide +kernel
theorem dX7_kin_10 : decode cX7_kin 10 = .ok (.ifCond .eq 15, 3) := by decide +kernel
theorem dX7_kin_13 : decode cX7_kin 13 = .ok (.iload_n 2, 1) := by decide +kernel
theorem dX7_kin_14 : decode cX7_kin 14 = .ok (.i2l, 1) := by decide +kernel
theorem dX7_kin_15 : decode cX7_kin 15 = .ok (.lconst 0, 1) := by decide +kernel
theorem dX7_kin_16 : decode cX7_kin 16 = .ok (.ldc2_w 250, 3) := by decide +kernel
theorem dX7_kin_19 : decode cX7_kin 19 = .ok (.invokestatic 21, 3) := by decide +kernel
theorem dX7_kin_22 : decode cX7_kin 22 = .ok (.ifCond .ne 5, 3) := by decide +kernel
theorem dX7_kin_25 : decode cX7_kin 25 = .ok (.iconst (-1), 1) := by decide +kernel
theorem dX7_kin_26 : decode cX7_kin 26 = .ok (.ireturn, 1) := by decide +kernel
theorem dX7_kin_27 : decode cX7_kin 27 = .ok (.iload_n 2, 1) := by decide +kernel
theorem dX7_kin_28 : decode cX7_kin 28 = .ok (.ifCond .ne 12, 3) := by decide +kernel
theorem dX7_kin_31 : decode cX7_kin 31 = .ok (.aload_n 0, 1) := by decide +kernel
theorem dX7_kin_32 : decode cX7_kin 32 = .ok (.iconst 0, 1) := by decide +kernel
theorem dX7_kin_33 : decode cX7_kin 33 = .ok (.iload_n 1, 1) := by decide +kernel
theorem dX7_kin_34 : decode cX7_kin 34 = .ok (.invokevirtual 143, 3) := by decide +kernel
theorem dX7_kin_37 : decode cX7_kin 37 = .ok (.goto 37, 3) := by decide +kernel
theorem dX7_kin_40 : decode cX7_kin 40 = .ok (.iload_n 2, 1) := by decide +kernel
theorem dX7_kin_41 : decode cX7_kin 41 = .ok (.iconst 1, 1) := by decide +kernel
theorem dX7_kin_42 : decode cX7_kin 42 = .ok (.if_icmp .ne 12, 3) := by decide +kernel
theorem dX7_kin_45 : decode cX7_kin 45 = .ok (.aload_n 0, 1) := by decide +kernel
theorem dX7_kin_46 : decode cX7_kin 46 = .ok (.iconst 0, 1) := by decide +kernel
theorem dX7_kin_47 : decode cX7_kin 47 = .ok (.iload_n 1, 1) := by decide +kernel
theorem dX7_kin_48 : decode cX7_kin 48 = .ok (.invokevirtual 147, 3) := by decide +kernel
theorem dX7_kin_51 : decode cX7_kin 51 = .ok (.goto 23, 3) := by decide +kernel
theorem dX7_kin_54 : decode cX7_kin 54 = .ok (.iload_n 2, 1) := by decide +kernel
theorem dX7_kin_55 : decode cX7_kin 55 = .ok (.iconst 2, 1) := by decide +kernel
theorem dX7_kin_56 : decode cX7_kin 56 = .ok (.if_icmp .ne 12, 3) := by decide +kernel
theorem dX7_kin_59 : decode cX7_kin 59 = .ok (.aload_n 0, 1) := by decide +kernel
theorem dX7_kin_60 : decode cX7_kin 60 = .ok (.iconst 0, 1) := by decide +kernel
theorem dX7_kin_61 : decode cX7_kin 61 = .ok (.iload_n 1, 1) := by decide +kernel
theorem dX7_kin_62 : decode cX7_kin 62 = .ok (.invokevirtual 166, 3) := by decide +kernel
theorem dX7_kin_65 : decode cX7_kin 65 = .ok (.goto 9, 3) := by decide +kernel
theorem dX7_kin_68 : decode cX7_kin 68 = .ok (.aload_n 0, 1) := by decide +kernel
theorem dX7_kin_69 : decode cX7_kin 69 = .ok (.iconst 0, 1) := by decide +kernel
theorem dX7_kin_70 : decode cX7_kin 70 = .ok (.iload_n 1, 1) := by decide +kernel
theorem dX7_kin_71 : decode cX7_kin 71 = .ok (.invokevirtual 163, 3) := by decide +kernel
theorem dX7_kin_74 : decode cX7_kin 74 = .ok (.istore_n 3, 1) := by decide +kernel
theorem dX7_kin_75 : decode cX7_kin 75 = .ok (.aload_n 0, 1) := by decide +kernel
theorem dX7_kin_76 : decode cX7_kin 76 = .ok (.iconst 0, 1) := by decide +kernel
theorem dX7_kin_77 : decode cX7_kin 77 = .ok (.putfield 11, 3) := by decide +kernel
theorem dX7_kin_80 : decode cX7_kin 80 = .ok (.aload_n 0, 1) := by decide +kernel
theorem dX7_kin_81 : decode cX7_kin 81 = .ok (.iload_n 3, 1) := by decide +kernel
theorem dX7_kin_82 : decode cX7_kin 82 = .ok (.invokestatic 154, 3) := by decide +kernel
theorem dX7_kin_85 : decode cX7_kin 85 = .ok (.i2l, 1) := by decide +kernel
theorem dX7_kin_86 : decode cX7_kin 86 = .ok (.invokevirtual 191, 3) := by decide +kernel
theorem dX7_kin_89 : decode cX7_kin 89 = .ok (.iload_n 3, 1) := by decide +kernel
theorem dX7_kin_90 : decode cX7_kin 90 = .ok (.ireturn, 1) := by decide +kernel
theorem dX7_way_0 : decode cX7_way 0 = .ok (.aload_n 0, 1) := by decide +kernel
theorem dX7_way_1 : decode cX7_way 1 = .ok (.iconst 0, 1) := by decide +kernel
theorem dX7_way_2 : decode cX7_way 2 = .ok (.putfield 1, 3) := by decide +kernel
theorem dX7_way_5 : decode cX7_way 5 = .ok (.aload_n 0, 1) := by decide +kernel
theorem dX7_way_6 : decode cX7_way 6 = .ok (.iload_n 1, 1) := by decide +kernel
theorem dX7_way_7 : decode cX7_way 7 = .ok (.iload_n 2, 1) := by decide +kernel
theorem dX7_way_8 : decode cX7_way 8 = .ok (.invokevirtual 219, 3) := by decide +kernel
theorem dX7_way_11 : decode cX7_way 11 = .ok (.ifCond .ne 5, 3) := by decide +kernel
theorem dX7_way_14 : decode cX7_way 14 = .ok (.iconst (-1), 1) := by decide +kernel
theorem dX7_way_15 : decode cX7_way 15 = .ok (.ireturn, 1) := by decide +kernel
theorem dX7_way_16 : decode cX7_way 16 = .ok (.aload_n 0, 1) := by decide +kernel
theorem dX7_way_17 : decode cX7_way 17 = .ok (.iconst 0, 1) := by decide +kernel
theorem dX7_way_18 : decode cX7_way 18 = .ok (.iload_n 1, 1) := by decide +kernel
theorem dX7_way_19 : decode cX7_way 19 = .ok (.iload_n 2, 1) := by decide +kernel
theorem dX7_way_20 : decode cX7_way 20 = .ok (.iconst 0, 1) := by decide +kernel
theorem dX7_way_21 : decode cX7_way 21 = .ok (.invokevirtual 228, 3) := by decide +kernel
theorem dX7_way_24 : decode cX7_way 24 = .ok (.ifCond .ne 6, 3) := by decide +kernel
theorem dX7_way_27 : decode cX7_way 27 = .ok (.bipush (-2), 2) := by decide +kernel
theorem dX7_way_29 : decode cX7_way 29 = .ok (.ireturn, 1) := by decide +kernel
theorem dX7_way_30 : decode cX7_way 30 = .ok (.aload_n 0, 1) := by decide +kernel
theorem dX7_way_31 : decode cX7_way 31 = .ok (.invokevirtual 232, 3) := by decide +kernel
theorem dX7_way_34 : decode cX7_way 34 = .ok (.aload_n 0, 1) := by decide +kernel
theorem dX7_way_35 : decode cX7_way 35 = .ok (.getfield 188, 3) := by decide +kernel
theorem dX7_way_38 : decode cX7_way 38 = .ok (.ireturn, 1) := by decide +kernel
theorem dX7_isBelow_0 : decode cX7_isBelow 0 = .ok (.aload_n 0, 1) := by decide +kernel
theorem dX7_isBelow_1 : decode cX7_isBelow 1 = .ok (.iconst 0, 1) := by decide +kernel
theorem dX7_isBelow_2 : decode cX7_isBelow 2 = .ok (.iload_n 1, 1) := by decide +kernel
theorem dX7_isBelow_3 : decode cX7_isBelow 3 = .ok (.invokevirtual 166, 3) := by decide +kernel
theorem dX7_isBelow_6 : decode cX7_isBelow 6 = .ok (.iload_n 2, 1) := by decide +kernel
theorem dX7_isBelow_7 : decode cX7_isBelow 7 = .ok (.invokestatic 133, 3) := by decide +kernel
theorem dX7_isBelow_10 : decode cX7_isBelow 10 = .ok (.ireturn, 1) := by decide +kernel
theorem dX7_measures_0 : decode cX7_measures 0 = .ok (.aload_n 0, 1) := by decide +kernel
theorem dX7_measures_1 : decode cX7_measures 1 = .ok (.iconst 0, 1) := by decide +kernel
theorem dX7_measures_2 : decode cX7_measures 2 = .ok (.invokevirtual 169, 3) := by decide +kernel
theorem dX7_measures_5 : decode cX7_measures 5 = .ok (.iconst 1, 1) := by decide +kernel
theorem dX7_measures_6 : decode cX7_measures 6 = .ok (.isub, 1) := by decide +kernel
theorem dX7_measures_7 : decode cX7_measures 7 = .ok (.istore_n 2, 1) := by decide +kernel
theorem dX7_measures_8 : decode cX7_measures 8 = .ok (.iload_n 2, 1) := by decide +kernel
theorem dX7_measures_9 : decode cX7_measures 9 = .ok (.ifCond .lt 150, 3) := by decide +kernel
theorem dX7_measures_12 : decode cX7_measures 12 = .ok (.aload_n 0, 1) := by decide +kernel
theorem dX7_measures_13 : decode cX7_measures 13 = .ok (.iconst 0, 1) := by decide +kernel
theorem dX7_measures_14 : decode cX7_measures 14 = .ok (.iload_n 2, 1) := by decide +kernel
theorem dX7_measures_15 : decode cX7_measures 15 = .ok (.invokevirtual 157, 3) := by decide +kernel
theorem dX7_measures_18 : decode cX7_measures 18 = .ok (.istore_n 3, 1) := by decide +kernel
theorem dX7_measures_19 : decode cX7_measures 19 = .ok (.aload_n 0, 1) := by decide +kernel
theorem dX7_measures_20 : decode cX7_measures 20 = .ok (.getfield 92, 3) := by decide +kernel
theorem dX7_measures_23 : decode cX7_measures 23 = .ok (.iload_n 3, 1) := by decide +kernel
theorem dX7_measures_24 : decode cX7_measures 24 = .ok (.iload_n 3, 1) := by decide +kernel
theorem dX7_measures_25 : decode cX7_measures 25 = .ok (.iload_n 1, 1) := by decide +kernel
theorem dX7_measures_26 : decode cX7_measures 26 = .ok (.if_icmp .ne 7, 3) := by decide +kernel
theorem dX7_measures_29 : decode cX7_measures 29 = .ok (.iconst 1, 1) := by decide +kernel
theorem dX7_measures_30 : decode cX7_measures 30 = .ok (.goto 4, 3) := by decide +kernel
theorem dX7_measures_33 : decode cX7_measures 33 = .ok (.iconst 0, 1) := by decide +kernel
theorem dX7_measures_34 : decode cX7_measures 34 = .ok (.iastore, 1) := by decide +kernel
theorem dX7_measures_35 : decode cX7_measures 35 = .ok (.aload_n 0, 1) := by decide +kernel
theorem dX7_measures_36 : decode cX7_measures 36 = .ok (.getfield 95, 3) := by decide +kernel
theorem dX7_measures_39 : decode cX7_measures 39 = .ok (.iload_n 3, 1) := by decide +kernel
theorem dX7_measures_40 : decode cX7_measures 40 = .ok (.iload_n 3, 1) := by decide +kernel
theorem dX7_measures_41 : decode cX7_measures 41 = .ok (.iload_n 1, 1) := by decide +kernel
theorem dX7_measures_42 : decode cX7_measures 42 = .ok (.if_icmp .ne 7, 3) := by decide +kernel
theorem dX7_measures_45 : decode cX7_measures 45 = .ok (.lconst 1, 1) := by decide +kernel
theorem dX7_measures_46 : decode cX7_measures 46 = .ok (.goto 4, 3) := by decide +kernel
theorem dX7_measures_49 : decode cX7_measures 49 = .ok (.lconst 0, 1) := by decide +kernel
theorem dX7_measures_50 : decode cX7_measures 50 = .ok (.lastore, 1) := by decide +kernel
theorem dX7_measures_51 : decode cX7_measures 51 = .ok (.iconst 0, 1) := by decide +kernel
theorem dX7_measures_52 : decode cX7_measures 52 = .ok (.istore 4, 2) := by decide +kernel
theorem dX7_measures_54 : decode cX7_measures 54 = .ok (.iload 4, 2) := by decide +kernel
theorem dX7_measures_56 : decode cX7_measures 56 = .ok (.bipush 24, 2) := by decide +kernel
theorem dX7_measures_58 : decode cX7_measures 58 = .ok (.if_icmp .ge 95, 3) := by decide +kernel
theorem dX7_measures_61 : decode cX7_measures 61 = .ok (.iload_n 3, 1) := by decide +kernel
theorem dX7_measures_62 : decode cX7_measures 62 = .ok (.iload_n 1, 1) := by decide +kernel
theorem dX7_measures_63 : decode cX7_measures 63 = .ok (.if_icmp .eq 90, 3) := by decide +kernel
theorem dX7_measures_66 : decode cX7_measures 66 = .ok (.aload_n 0, 1) := by decide +kernel
theorem dX7_measures_67 : decode cX7_measures 67 = .ok (.iconst 0, 1) := by decide +kernel
theorem dX7_measures_68 : decode cX7_measures 68 = .ok (.iload_n 3, 1) := by decide +kernel
theorem dX7_measures_69 : decode cX7_measures 69 = .ok (.iload 4, 2) := by decide +kernel
theorem dX7_measures_71 : decode cX7_measures 71 = .ok (.invokevirtual 176, 3) := by decide +kernel
theorem dX7_measures_74 : decode cX7_measures 74 = .ok (.ifCond .eq 73, 3) := by decide +kernel
theorem dX7_measures_77 : decode cX7_measures 77 = .ok (.aload_n 0, 1) := by decide +kernel
theorem dX7_measures_78 : decode cX7_measures 78 = .ok (.getfield 95, 3) := by decide +kernel
theorem dX7_measures_81 : decode cX7_measures 81 = .ok (.iload 4, 2) := by decide +kernel
theorem dX7_measures_83 : decode cX7_measures 83 = .ok (.laload, 1) := by decide +kernel
theorem dX7_measures_84 : decode cX7_measures 84 = .ok (.lconst 0, 1) := by decide +kernel
theorem dX7_measures_85 : decode cX7_measures 85 = .ok (.lcmp, 1) := by decide +kernel
theorem dX7_measures_86 : decode cX7_measures 86 = .ok (.ifCond .le 61, 3) := by decide +kernel
theorem dX7_measures_89 : decode cX7_measures 89 = .ok (.aload_n 0, 1) := by decide +kernel
theorem dX7_measures_90 : decode cX7_measures 90 = .ok (.getfield 95, 3) := by decide +kernel
theorem dX7_measures_93 : decode cX7_measures 93 = .ok (.iload_n 3, 1) := by decide +kernel
theorem dX7_measures_94 : decode cX7_measures 94 = .ok (.dup2, 1) := by decide +kernel
theorem dX7_measures_95 : decode cX7_measures 95 = .ok (.laload, 1) := by decide +kernel
theorem dX7_measures_96 : decode cX7_measures 96 = .ok (.aload_n 0, 1) := by decide +kernel
theorem dX7_measures_97 : decode cX7_measures 97 = .ok (.getfield 95, 3) := by decide +kernel
theorem dX7_measures_100 : decode cX7_measures 100 = .ok (.iload 4, 2) := by decide +kernel
theorem dX7_measures_102 : decode cX7_measures 102 = .ok (.laload, 1) := by decide +kernel
theorem dX7_measures_103 : decode cX7_measures 103 = .ok (.ladd, 1) := by decide +kernel
theorem dX7_measures_104 : decode cX7_measures 104 = .ok (.lastore, 1) := by decide +kernel
theorem dX7_measures_105 : decode cX7_measures 105 = .ok (.aload_n 0, 1) := by decide +kernel
theorem dX7_measures_106 : decode cX7_measures 106 = .ok (.getfield 92, 3) := by decide +kernel
theorem dX7_measures_109 : decode cX7_measures 109 = .ok (.iload_n 3, 1) := by decide +kernel
theorem dX7_measures_110 : decode cX7_measures 110 = .ok (.aload_n 0, 1) := by decide +kernel
theorem dX7_measures_111 : decode cX7_measures 111 = .ok (.getfield 92, 3) := by decide +kernel
theorem dX7_measures_114 : decode cX7_measures 114 = .ok (.iload 4, 2) := by decide +kernel
theorem dX7_measures_116 : decode cX7_measures 116 = .ok (.iaload, 1) := by decide +kernel
theorem dX7_measures_117 : decode cX7_measures 117 = .ok (.iconst 1, 1) := by decide +kernel
theorem dX7_measures_118 : decode cX7_measures 118 = .ok (.iadd, 1) := by decide +kernel
theorem dX7_measures_119 : decode cX7_measures 119 = .ok (.aload_n 0, 1) := by decide +kernel
theorem dX7_measures_120 : decode cX7_measures 120 = .ok (.getfield 92, 3) := by decide +kernel
theorem dX7_measures_123 : decode cX7_measures 123 = .ok (.iload_n 3, 1) := by decide +kernel
theorem dX7_measures_124 : decode cX7_measures 124 = .ok (.iaload, 1) := by decide +kernel
theorem dX7_measures_125 : decode cX7_measures 125 = .ok (.if_icmp .le 15, 3) := by decide +kernel
theorem dX7_measures_128 : decode cX7_measures 128 = .ok (.aload_n 0, 1) := by decide +kernel
theorem dX7_measures_129 : decode cX7_measures 129 = .ok (.getfield 92, 3) := by decide +kernel
theorem dX7_measures_132 : decode cX7_measures 132 = .ok (.iload 4, 2) := by decide +kernel
theorem dX7_measures_134 : decode cX7_measures 134 = .ok (.iaload, 1) := by decide +kernel
theorem dX7_measures_135 : decode cX7_measures 135 = .ok (.iconst 1, 1) := by decide +kernel
theorem dX7_measures_136 : decode cX7_measures 136 = .ok (.iadd, 1) := by decide +kernel
theorem dX7_measures_137 : decode cX7_measures 137 = .ok (.goto 9, 3) := by decide +kernel
theorem dX7_measures_140 : decode cX7_measures 140 = .ok (.aload_n 0, 1) := by decide +kernel
theorem dX7_measures_141 : decode cX7_measures 141 = .ok (.getfield 92, 3) := by decide +kernel
theorem dX7_measures_144 : decode cX7_measures 144 = .ok (.iload_n 3, 1) := by decide +kernel
theorem dX7_measures_145 : decode cX7_measures 145 = .ok (.iaload, 1) := by decide +kernel
theorem dX7_measures_146 : decode cX7_measures 146 = .ok (.iastore, 1) := by decide +kernel
theorem dX7_measures_147 : decode cX7_measures 147 = .ok (.iinc 4 1, 3) := by decide +kernel
theorem dX7_measures_150 : decode cX7_measures 150 = .ok (.goto (-96), 3) := by decide +kernel
theorem dX7_measures_153 : decode cX7_measures 153 = .ok (.iinc 2 (-1), 3) := by decide +kernel
theorem dX7_measures_156 : decode cX7_measures 156 = .ok (.goto (-148), 3) := by decide +kernel
theorem dX7_measures_159 : decode cX7_measures 159 = .ok (.return_, 1) := by decide +kernel
theorem dX7_ways_0 : decode cX7_ways 0 = .ok (.aload_n 0, 1) := by decide +kernel
theorem dX7_ways_1 : decode cX7_ways 1 = .ok (.iconst 0, 1) := by decide +kernel
theorem dX7_ways_2 : decode cX7_ways 2 = .ok (.putfield 1, 3) := by decide +kernel
theorem dX7_ways_5 : decode cX7_ways 5 = .ok (.aload_n 0, 1) := by decide +kernel
theorem dX7_ways_6 : decode cX7_ways 6 = .ok (.iload_n 1, 1) := by decide +kernel
theorem dX7_ways_7 : decode cX7_ways 7 = .ok (.iload_n 2, 1) := by decide +kernel
theorem dX7_ways_8 : decode cX7_ways 8 = .ok (.invokevirtual 219, 3) := by decide +kernel
theorem dX7_ways_11 : decode cX7_ways 11 = .ok (.ifCond .ne 5, 3) := by decide +kernel
theorem dX7_ways_14 : decode cX7_ways 14 = .ok (.iconst (-1), 1) := by decide +kernel
theorem dX7_ways_15 : decode cX7_ways 15 = .ok (.ireturn, 1) := by decide +kernel
theorem dX7_ways_16 : decode cX7_ways 16 = .ok (.aload_n 0, 1) := by decide +kernel
theorem dX7_ways_17 : decode cX7_ways 17 = .ok (.iload_n 2, 1) := by decide +kernel
theorem dX7_ways_18 : decode cX7_ways 18 = .ok (.invokevirtual 252, 3) := by decide +kernel
theorem dX7_ways_21 : decode cX7_ways 21 = .ok (.aload_n 0, 1) := by decide +kernel
theorem dX7_ways_22 : decode cX7_ways 22 = .ok (.getfield 95, 3) := by decide +kernel
theorem dX7_ways_25 : decode cX7_ways 25 = .ok (.iload_n 1, 1) := by decide +kernel
theorem dX7_ways_26 : decode cX7_ways 26 = .ok (.laload, 1) := by decide +kernel
theorem dX7_ways_27 : decode cX7_ways 27 = .ok (.lconst 0, 1) := by decide +kernel
theorem dX7_ways_28 : decode cX7_ways 28 = .ok (.lcmp, 1) := by decide +kernel
theorem dX7_ways_29 : decode cX7_ways 29 = .ok (.ifCond .ne 6, 3) := by decide +kernel
theorem dX7_ways_32 : decode cX7_ways 32 = .ok (.bipush (-2), 2) := by decide +kernel
theorem dX7_ways_34 : decode cX7_ways 34 = .ok (.ireturn, 1) := by decide +kernel
theorem dX7_ways_35 : decode cX7_ways 35 = .ok (.aload_n 0, 1) := by decide +kernel
theorem dX7_ways_36 : decode cX7_ways 36 = .ok (.iconst 0, 1) := by decide +kernel
theorem dX7_ways_37 : decode cX7_ways 37 = .ok (.putfield 11, 3) := by decide +kernel
theorem dX7_ways_40 : decode cX7_ways 40 = .ok (.aload_n 0, 1) := by decide +kernel
theorem dX7_ways_41 : decode cX7_ways 41 = .ok (.aload_n 0, 1) := by decide +kernel
theorem dX7_ways_42 : decode cX7_ways 42 = .ok (.getfield 95, 3) := by decide +kernel
theorem dX7_ways_45 : decode cX7_ways 45 = .ok (.iload_n 1, 1) := by decide +kernel
theorem dX7_ways_46 : decode cX7_ways 46 = .ok (.laload, 1) := by decide +kernel
theorem dX7_ways_47 : decode cX7_ways 47 = .ok (.invokevirtual 191, 3) := by decide +kernel
theorem dX7_ways_50 : decode cX7_ways 50 = .ok (.aload_n 0, 1) := by decide +kernel
theorem dX7_ways_51 : decode cX7_ways 51 = .ok (.getfield 92, 3) := by decide +kernel
theorem dX7_ways_54 : decode cX7_ways 54 = .ok (.iload_n 1, 1) := by decide +kernel
theorem dX7_ways_55 : decode cX7_ways 55 = .ok (.iaload, 1) := by decide +kernel
theorem dX7_ways_56 : decode cX7_ways 56 = .ok (.ireturn, 1) := by decide +kernel
theorem dX7_between_0 : decode cX7_between 0 = .ok (.aload_n 0, 1) := by decide +kernel
theorem dX7_between_1 : decode cX7_between 1 = .ok (.iconst 0, 1) := by decide +kernel
theorem dX7_between_2 : decode cX7_between 2 = .ok (.putfield 1, 3) := by decide +kernel
theorem dX7_between_5 : decode cX7_between 5 = .ok (.aload_n 0, 1) := by decide +kernel
theorem dX7_between_6 : decode cX7_between 6 = .ok (.iload_n 1, 1) := by decide +kernel
theorem dX7_between_7 : decode cX7_between 7 = .ok (.iload_n 2, 1) := by decide +kernel
theorem dX7_between_8 : decode cX7_between 8 = .ok (.invokevirtual 219, 3) := by decide +kernel
theorem dX7_between_11 : decode cX7_between 11 = .ok (.ifCond .ne 5, 3) := by decide +kernel
theorem dX7_between_14 : decode cX7_between 14 = .ok (.iconst (-1), 1) := by decide +kernel
theorem dX7_between_15 : decode cX7_between 15 = .ok (.ireturn, 1) := by decide +kernel
theorem dX7_between_16 : decode cX7_between 16 = .ok (.aload_n 0, 1) := by decide +kernel
theorem dX7_between_17 : decode cX7_between 17 = .ok (.iload_n 1, 1) := by decide +kernel
theorem dX7_between_18 : decode cX7_between 18 = .ok (.iload_n 2, 1) := by decide +kernel
theorem dX7_between_19 : decode cX7_between 19 = .ok (.invokevirtual 256, 3) := by decide +kernel
theorem dX7_between_22 : decode cX7_between 22 = .ok (.ifCond .ne 6, 3) := by decide +kernel
theorem dX7_between_25 : decode cX7_between 25 = .ok (.bipush (-2), 2) := by decide +kernel
theorem dX7_between_27 : decode cX7_between 27 = .ok (.ireturn, 1) := by decide +kernel
theorem dX7_between_28 : decode cX7_between 28 = .ok (.aload_n 0, 1) := by decide +kernel
theorem dX7_between_29 : decode cX7_between 29 = .ok (.iconst 0, 1) := by decide +kernel
theorem dX7_between_30 : decode cX7_between 30 = .ok (.iload_n 1, 1) := by decide +kernel
theorem dX7_between_31 : decode cX7_between 31 = .ok (.invokevirtual 166, 3) := by decide +kernel
theorem dX7_between_34 : decode cX7_between 34 = .ok (.aload_n 0, 1) := by decide +kernel
theorem dX7_between_35 : decode cX7_between 35 = .ok (.iconst 0, 1) := by decide +kernel
theorem dX7_between_36 : decode cX7_between 36 = .ok (.iload_n 2, 1) := by decide +kernel
theorem dX7_between_37 : decode cX7_between 37 = .ok (.invokevirtual 163, 3) := by decide +kernel
theorem dX7_between_40 : decode cX7_between 40 = .ok (.iand, 1) := by decide +kernel
theorem dX7_between_41 : decode cX7_between 41 = .ok (.istore_n 3, 1) := by decide +kernel
theorem dX7_between_42 : decode cX7_between 42 = .ok (.iconst 0, 1) := by decide +kernel
theorem dX7_between_43 : decode cX7_between 43 = .ok (.istore 4, 2) := by decide +kernel
theorem dX7_between_45 : decode cX7_between 45 = .ok (.iconst 0, 1) := by decide +kernel
theorem dX7_between_46 : decode cX7_between 46 = .ok (.istore 5, 2) := by decide +kernel
theorem dX7_between_48 : decode cX7_between 48 = .ok (.iload 5, 2) := by decide +kernel
theorem dX7_between_50 : decode cX7_between 50 = .ok (.bipush 24, 2) := by decide +kernel
theorem dX7_between_52 : decode cX7_between 52 = .ok (.if_icmp .ge 39, 3) := by decide +kernel
theorem dX7_between_55 : decode cX7_between 55 = .ok (.iload 4, 2) := by decide +kernel
theorem dX7_between_57 : decode cX7_between 57 = .ok (.iload_n 3, 1) := by decide +kernel
theorem dX7_between_58 : decode cX7_between 58 = .ok (.iload 5, 2) := by decide +kernel
theorem dX7_between_60 : decode cX7_between 60 = .ok (.invokestatic 133, 3) := by decide +kernel
theorem dX7_between_63 : decode cX7_between 63 = .ok (.ifCond .eq 18, 3) := by decide +kernel
theorem dX7_between_66 : decode cX7_between 66 = .ok (.aload_n 0, 1) := by decide +kernel
theorem dX7_between_67 : decode cX7_between 67 = .ok (.iconst 0, 1) := by decide +kernel
theorem dX7_between_68 : decode cX7_between 68 = .ok (.iload 5, 2) := by decide +kernel
theorem dX7_between_70 : decode cX7_between 70 = .ok (.invokevirtual 143, 3) := by decide +kernel
theorem dX7_between_73 : decode cX7_between 73 = .ok (.iload_n 3, 1) := by decide +kernel
theorem dX7_between_74 : decode cX7_between 74 = .ok (.iand, 1) := by decide +kernel
theorem dX7_between_75 : decode cX7_between 75 = .ok (.invokestatic 154, 3) := by decide +kernel
theorem dX7_between_78 : decode cX7_between 78 = .ok (.goto 4, 3) := by decide +kernel
theorem dX7_between_81 : decode cX7_between 81 = .ok (.iconst 0, 1) := by decide +kernel
theorem dX7_between_82 : decode cX7_between 82 = .ok (.iadd, 1) := by decide +kernel
theorem dX7_between_83 : decode cX7_between 83 = .ok (.istore 4, 2) := by decide +kernel
theorem dX7_between_85 : decode cX7_between 85 = .ok (.iinc 5 1, 3) := by decide +kernel
theorem dX7_between_88 : decode cX7_between 88 = .ok (.goto (-40), 3) := by decide +kernel
theorem dX7_between_91 : decode cX7_between 91 = .ok (.aload_n 0, 1) := by decide +kernel
theorem dX7_between_92 : decode cX7_between 92 = .ok (.iconst 0, 1) := by decide +kernel
theorem dX7_between_93 : decode cX7_between 93 = .ok (.putfield 11, 3) := by decide +kernel
theorem dX7_between_96 : decode cX7_between 96 = .ok (.aload_n 0, 1) := by decide +kernel
theorem dX7_between_97 : decode cX7_between 97 = .ok (.iload 4, 2) := by decide +kernel
theorem dX7_between_99 : decode cX7_between 99 = .ok (.i2l, 1) := by decide +kernel
theorem dX7_between_100 : decode cX7_between 100 = .ok (.invokevirtual 191, 3) := by decide +kernel
theorem dX7_between_103 : decode cX7_between 103 = .ok (.iload_n 3, 1) := by decide +kernel
theorem dX7_between_104 : decode cX7_between 104 = .ok (.ireturn, 1) := by decide +kernel
theorem dX7_meets_0 : decode cX7_meets 0 = .ok (.aload_n 0, 1) := by decide +kernel
theorem dX7_meets_1 : decode cX7_meets 1 = .ok (.iconst 0, 1) := by decide +kernel
theorem dX7_meets_2 : decode cX7_meets 2 = .ok (.putfield 1, 3) := by decide +kernel
theorem dX7_meets_5 : decode cX7_meets 5 = .ok (.aload_n 0, 1) := by decide +kernel
theorem dX7_meets_6 : decode cX7_meets 6 = .ok (.iload_n 1, 1) := by decide +kernel
theorem dX7_meets_7 : decode cX7_meets 7 = .ok (.invokevirtual 137, 3) := by decide +kernel
theorem dX7_meets_10 : decode cX7_meets 10 = .ok (.ifCond .eq 11, 3) := by decide +kernel
theorem dX7_meets_13 : decode cX7_meets 13 = .ok (.aload_n 0, 1) := by decide +kernel
theorem dX7_meets_14 : decode cX7_meets 14 = .ok (.iload_n 2, 1) := by decide +kernel
theorem dX7_meets_15 : decode cX7_meets 15 = .ok (.invokevirtual 137, 3) := by decide +kernel
theorem dX7_meets_18 : decode cX7_meets 18 = .ok (.ifCond .ne 5, 3) := by decide +kernel
theorem dX7_meets_21 : decode cX7_meets 21 = .ok (.iconst (-1), 1) := by decide +kernel
theorem dX7_meets_22 : decode cX7_meets 22 = .ok (.ireturn, 1) := by decide +kernel
theorem dX7_meets_23 : decode cX7_meets 23 = .ok (.aload_n 0, 1) := by decide +kernel
theorem dX7_meets_24 : decode cX7_meets 24 = .ok (.iconst 0, 1) := by decide +kernel
theorem dX7_meets_25 : decode cX7_meets 25 = .ok (.iload_n 1, 1) := by decide +kernel
theorem dX7_meets_26 : decode cX7_meets 26 = .ok (.invokevirtual 163, 3) := by decide +kernel
theorem dX7_meets_29 : decode cX7_meets 29 = .ok (.aload_n 0, 1) := by decide +kernel
theorem dX7_meets_30 : decode cX7_meets 30 = .ok (.iconst 0, 1) := by decide +kernel
theorem dX7_meets_31 : decode cX7_meets 31 = .ok (.iload_n 2, 1) := by decide +kernel
theorem dX7_meets_32 : decode cX7_meets 32 = .ok (.invokevirtual 163, 3) := by decide +kernel
theorem dX7_meets_35 : decode cX7_meets 35 = .ok (.iand, 1) := by decide +kernel
theorem dX7_meets_36 : decode cX7_meets 36 = .ok (.istore_n 3, 1) := by decide +kernel
theorem dX7_meets_37 : decode cX7_meets 37 = .ok (.iconst 0, 1) := by decide +kernel
theorem dX7_meets_38 : decode cX7_meets 38 = .ok (.istore 4, 2) := by decide +kernel
theorem dX7_meets_40 : decode cX7_meets 40 = .ok (.iconst 0, 1) := by decide +kernel
theorem dX7_meets_41 : decode cX7_meets 41 = .ok (.istore 5, 2) := by decide +kernel
theorem dX7_meets_43 : decode cX7_meets 43 = .ok (.iload 5, 2) := by decide +kernel
theorem dX7_meets_45 : decode cX7_meets 45 = .ok (.bipush 24, 2) := by decide +kernel
theorem dX7_meets_47 : decode cX7_meets 47 = .ok (.if_icmp .ge 50, 3) := by decide +kernel
theorem dX7_meets_50 : decode cX7_meets 50 = .ok (.iload 4, 2) := by decide +kernel
theorem dX7_meets_52 : decode cX7_meets 52 = .ok (.iload_n 3, 1) := by decide +kernel
theorem dX7_meets_53 : decode cX7_meets 53 = .ok (.iload 5, 2) := by decide +kernel
theorem dX7_meets_55 : decode cX7_meets 55 = .ok (.invokestatic 133, 3) := by decide +kernel
theorem dX7_meets_58 : decode cX7_meets 58 = .ok (.ifCond .eq 23, 3) := by decide +kernel
theorem dX7_meets_61 : decode cX7_meets 61 = .ok (.aload_n 0, 1) := by decide +kernel
theorem dX7_meets_62 : decode cX7_meets 62 = .ok (.iconst 0, 1) := by decide +kernel
theorem dX7_meets_63 : decode cX7_meets 63 = .ok (.iload 5, 2) := by decide +kernel
theorem dX7_meets_65 : decode cX7_meets 65 = .ok (.invokevirtual 166, 3) := by decide +kernel
theorem dX7_meets_68 : decode cX7_meets 68 = .ok (.iload_n 3, 1) := by decide +kernel
theorem dX7_meets_69 : decode cX7_meets 69 = .ok (.iand, 1) := by decide +kernel
theorem dX7_meets_70 : decode cX7_meets 70 = .ok (.iconst 1, 1) := by decide +kernel
theorem dX7_meets_71 : decode cX7_meets 71 = .ok (.iload 5, 2) := by decide +kernel
theorem dX7_meets_73 : decode cX7_meets 73 = .ok (.ishl, 1) := by decide +kernel
theorem dX7_meets_74 : decode cX7_meets 74 = .ok (.if_icmp .ne 7, 3) := by decide +kernel
theorem dX7_meets_77 : decode cX7_meets 77 = .ok (.iconst 1, 1) := by decide +kernel
theorem dX7_meets_78 : decode cX7_meets 78 = .ok (.goto 4, 3) := by decide +kernel
theorem dX7_meets_81 : decode cX7_meets 81 = .ok (.iconst 0, 1) := by decide +kernel
theorem dX7_meets_82 : decode cX7_meets 82 = .ok (.invokestatic 45, 3) := by decide +kernel
theorem dX7_meets_85 : decode cX7_meets 85 = .ok (.iload 5, 2) := by decide +kernel
theorem dX7_meets_87 : decode cX7_meets 87 = .ok (.ishl, 1) := by decide +kernel
theorem dX7_meets_88 : decode cX7_meets 88 = .ok (.ior, 1) := by decide +kernel
theorem dX7_meets_89 : decode cX7_meets 89 = .ok (.istore 4, 2) := by decide +kernel
theorem dX7_meets_91 : decode cX7_meets 91 = .ok (.iinc 5 1, 3) := by decide +kernel
theorem dX7_meets_94 : decode cX7_meets 94 = .ok (.goto (-51), 3) := by decide +kernel
theorem dX7_meets_97 : decode cX7_meets 97 = .ok (.aload_n 0, 1) := by decide +kernel
theorem dX7_meets_98 : decode cX7_meets 98 = .ok (.iconst 0, 1) := by decide +kernel
theorem dX7_meets_99 : decode cX7_meets 99 = .ok (.putfield 11, 3) := by decide +kernel
theorem dX7_meets_102 : decode cX7_meets 102 = .ok (.aload_n 0, 1) := by decide +kernel
theorem dX7_meets_103 : decode cX7_meets 103 = .ok (.iload 4, 2) := by decide +kernel
theorem dX7_meets_105 : decode cX7_meets 105 = .ok (.i2l, 1) := by decide +kernel
theorem dX7_meets_106 : decode cX7_meets 106 = .ok (.invokevirtual 191, 3) := by decide +kernel
theorem dX7_meets_109 : decode cX7_meets 109 = .ok (.iload_n 3, 1) := by decide +kernel
theorem dX7_meets_110 : decode cX7_meets 110 = .ok (.ireturn, 1) := by decide +kernel
theorem dX7_steps__0 : decode cX7_steps_ 0 = .ok (.aload_n 0, 1) := by decide +kernel
theorem dX7_steps__1 : decode cX7_steps_ 1 = .ok (.iconst 0, 1) := by decide +kernel
theorem dX7_steps__2 : decode cX7_steps_ 2 = .ok (.putfield 1, 3) := by decide +kernel
theorem dX7_steps__5 : decode cX7_steps_ 5 = .ok (.aload_n 0, 1) := by decide +kernel
theorem dX7_steps__6 : decode cX7_steps_ 6 = .ok (.iload_n 1, 1) := by decide +kernel
theorem dX7_steps__7 : decode cX7_steps_ 7 = .ok (.invokevirtual 137, 3) := by decide +kernel
theorem dX7_steps__10 : decode cX7_steps_ 10 = .ok (.ifCond .eq 11, 3) := by decide +kernel
theorem dX7_steps__13 : decode cX7_steps_ 13 = .ok (.aload_n 0, 1) := by decide +kernel
theorem dX7_steps__14 : decode cX7_steps_ 14 = .ok (.iload_n 2, 1) := by decide +kernel
theorem dX7_steps__15 : decode cX7_steps_ 15 = .ok (.invokevirtual 137, 3) := by decide +kernel
theorem dX7_steps__18 : decode cX7_steps_ 18 = .ok (.ifCond .ne 5, 3) := by decide +kernel
theorem dX7_steps__21 : decode cX7_steps_ 21 = .ok (.iconst (-1), 1) := by decide +kernel
theorem dX7_steps__22 : decode cX7_steps_ 22 = .ok (.ireturn, 1) := by decide +kernel
theorem dX7_steps__23 : decode cX7_steps_ 23 = .ok (.iconst 1, 1) := by decide +kernel
theorem dX7_steps__24 : decode cX7_steps_ 24 = .ok (.iload_n 1, 1) := by decide +kernel
theorem dX7_steps__25 : decode cX7_steps_ 25 = .ok (.ishl, 1) := by decide +kernel
theorem dX7_steps__26 : decode cX7_steps_ 26 = .ok (.istore_n 3, 1) := by decide +kernel
theorem dX7_steps__27 : decode cX7_steps_ 27 = .ok (.iconst 0, 1) := by decide +kernel
theorem dX7_steps__28 : decode cX7_steps_ 28 = .ok (.istore 4, 2) := by decide +kernel
theorem dX7_steps__30 : decode cX7_steps_ 30 = .ok (.iconst 0, 1) := by decide +kernel
theorem dX7_steps__31 : decode cX7_steps_ 31 = .ok (.istore 5, 2) := by decide +kernel
theorem dX7_steps__33 : decode cX7_steps_ 33 = .ok (.iload_n 3, 1) := by decide +kernel
theorem dX7_steps__34 : decode cX7_steps_ 34 = .ok (.iload_n 2, 1) := by decide +kernel
theorem dX7_steps__35 : decode cX7_steps_ 35 = .ok (.invokestatic 133, 3) := by decide +kernel
theorem dX7_steps__38 : decode cX7_steps_ 38 = .ok (.ifCond .ne 66, 3) := by decide +kernel
theorem dX7_steps__41 : decode cX7_steps_ 41 = .ok (.iload_n 3, 1) := by decide +kernel
theorem dX7_steps__42 : decode cX7_steps_ 42 = .ok (.iload 4, 2) := by decide +kernel
theorem dX7_steps__44 : decode cX7_steps_ 44 = .ok (.if_icmp .eq 60, 3) := by decide +kernel
theorem dX7_steps__47 : decode cX7_steps_ 47 = .ok (.iload_n 3, 1) := by decide +kernel
theorem dX7_steps__48 : decode cX7_steps_ 48 = .ok (.istore 4, 2) := by decide +kernel
theorem dX7_steps__50 : decode cX7_steps_ 50 = .ok (.iconst 0, 1) := by decide +kernel
theorem dX7_steps__51 : decode cX7_steps_ 51 = .ok (.istore 6, 2) := by decide +kernel
theorem dX7_steps__53 : decode cX7_steps_ 53 = .ok (.iload 6, 2) := by decide +kernel
theorem dX7_steps__55 : decode cX7_steps_ 55 = .ok (.bipush 24, 2) := by decide +kernel
theorem dX7_steps__57 : decode cX7_steps_ 57 = .ok (.if_icmp .ge 41, 3) := by decide +kernel
theorem dX7_steps__60 : decode cX7_steps_ 60 = .ok (.iload_n 3, 1) := by decide +kernel
theorem dX7_steps__61 : decode cX7_steps_ 61 = .ok (.iload 4, 2) := by decide +kernel
theorem dX7_steps__63 : decode cX7_steps_ 63 = .ok (.iload 6, 2) := by decide +kernel
theorem dX7_steps__65 : decode cX7_steps_ 65 = .ok (.invokestatic 133, 3) := by decide +kernel
theorem dX7_steps__68 : decode cX7_steps_ 68 = .ok (.ifCond .eq 21, 3) := by decide +kernel
theorem dX7_steps__71 : decode cX7_steps_ 71 = .ok (.aload_n 0, 1) := by decide +kernel
theorem dX7_steps__72 : decode cX7_steps_ 72 = .ok (.iconst 0, 1) := by decide +kernel
theorem dX7_steps__73 : decode cX7_steps_ 73 = .ok (.iload 6, 2) := by decide +kernel
theorem dX7_steps__75 : decode cX7_steps_ 75 = .ok (.invokevirtual 143, 3) := by decide +kernel
theorem dX7_steps__78 : decode cX7_steps_ 78 = .ok (.aload_n 0, 1) := by decide +kernel
theorem dX7_steps__79 : decode cX7_steps_ 79 = .ok (.iconst 0, 1) := by decide +kernel
theorem dX7_steps__80 : decode cX7_steps_ 80 = .ok (.iload 6, 2) := by decide +kernel
theorem dX7_steps__82 : decode cX7_steps_ 82 = .ok (.invokevirtual 147, 3) := by decide +kernel
theorem dX7_steps__85 : decode cX7_steps_ 85 = .ok (.ior, 1) := by decide +kernel
theorem dX7_steps__86 : decode cX7_steps_ 86 = .ok (.goto 4, 3) := by decide +kernel
theorem dX7_steps__89 : decode cX7_steps_ 89 = .ok (.iconst 0, 1) := by decide +kernel
theorem dX7_steps__90 : decode cX7_steps_ 90 = .ok (.ior, 1) := by decide +kernel
theorem dX7_steps__91 : decode cX7_steps_ 91 = .ok (.istore_n 3, 1) := by decide +kernel
theorem dX7_steps__92 : decode cX7_steps_ 92 = .ok (.iinc 6 1, 3) := by decide +kernel
theorem dX7_steps__95 : decode cX7_steps_ 95 = .ok (.goto (-42), 3) := by decide +kernel
theorem dX7_steps__98 : decode cX7_steps_ 98 = .ok (.iinc 5 1, 3) := by decide +kernel
theorem dX7_steps__101 : decode cX7_steps_ 101 = .ok (.goto (-68), 3) := by decide +kernel
theorem dX7_steps__104 : decode cX7_steps_ 104 = .ok (.iload_n 3, 1) := by decide +kernel
theorem dX7_steps__105 : decode cX7_steps_ 105 = .ok (.iload_n 2, 1) := by decide +kernel
theorem dX7_steps__106 : decode cX7_steps_ 106 = .ok (.invokestatic 133, 3) := by decide +kernel
theorem dX7_steps__109 : decode cX7_steps_ 109 = .ok (.ifCond .eq 8, 3) := by decide +kernel
theorem dX7_steps__112 : decode cX7_steps_ 112 = .ok (.iload 5, 2) := by decide +kernel
theorem dX7_steps__114 : decode cX7_steps_ 114 = .ok (.goto 5, 3) := by decide +kernel
theorem dX7_steps__117 : decode cX7_steps_ 117 = .ok (.bipush (-2), 2) := by decide +kernel
theorem dX7_steps__119 : decode cX7_steps_ 119 = .ok (.ireturn, 1) := by decide +kernel
theorem dX7_deep_0 : decode cX7_deep 0 = .ok (.iconst 1, 1) := by decide +kernel
theorem dX7_deep_1 : decode cX7_deep 1 = .ok (.iload_n 1, 1) := by decide +kernel
theorem dX7_deep_2 : decode cX7_deep 2 = .ok (.ishl, 1) := by decide +kernel
theorem dX7_deep_3 : decode cX7_deep 3 = .ok (.istore_n 3, 1) := by decide +kernel
theorem dX7_deep_4 : decode cX7_deep 4 = .ok (.iconst 0, 1) := by decide +kernel
theorem dX7_deep_5 : decode cX7_deep 5 = .ok (.istore 4, 2) := by decide +kernel
theorem dX7_deep_7 : decode cX7_deep 7 = .ok (.iload_n 3, 1) := by decide +kernel
theorem dX7_deep_8 : decode cX7_deep 8 = .ok (.ifCond .eq 84, 3) := by decide +kernel
theorem dX7_deep_11 : decode cX7_deep 11 = .ok (.iconst 0, 1) := by decide +kernel
theorem dX7_deep_12 : decode cX7_deep 12 = .ok (.istore 5, 2) := by decide +kernel
theorem dX7_deep_14 : decode cX7_deep 14 = .ok (.iconst 0, 1) := by decide +kernel
theorem dX7_deep_15 : decode cX7_deep 15 = .ok (.istore 6, 2) := by decide +kernel
theorem dX7_deep_17 : decode cX7_deep 17 = .ok (.iload 6, 2) := by decide +kernel
theorem dX7_deep_19 : decode cX7_deep 19 = .ok (.bipush 24, 2) := by decide +kernel
theorem dX7_deep_21 : decode cX7_deep 21 = .ok (.if_icmp .ge 48, 3) := by decide +kernel
theorem dX7_deep_24 : decode cX7_deep 24 = .ok (.iload 5, 2) := by decide +kernel
theorem dX7_deep_26 : decode cX7_deep 26 = .ok (.iload_n 3, 1) := by decide +kernel
theorem dX7_deep_27 : decode cX7_deep 27 = .ok (.iload 6, 2) := by decide +kernel
theorem dX7_deep_29 : decode cX7_deep 29 = .ok (.invokestatic 133, 3) := by decide +kernel
theorem dX7_deep_32 : decode cX7_deep 32 = .ok (.ifCond .ne 7, 3) := by decide +kernel
theorem dX7_deep_35 : decode cX7_deep 35 = .ok (.iconst 0, 1) := by decide +kernel
theorem dX7_deep_36 : decode cX7_deep 36 = .ok (.goto 24, 3) := by decide +kernel
theorem dX7_deep_39 : decode cX7_deep 39 = .ok (.iload_n 2, 1) := by decide +kernel
theorem dX7_deep_40 : decode cX7_deep 40 = .ok (.ifCond .eq 13, 3) := by decide +kernel
theorem dX7_deep_43 : decode cX7_deep 43 = .ok (.aload_n 0, 1) := by decide +kernel
theorem dX7_deep_44 : decode cX7_deep 44 = .ok (.iconst 0, 1) := by decide +kernel
theorem dX7_deep_45 : decode cX7_deep 45 = .ok (.iload 6, 2) := by decide +kernel
theorem dX7_deep_47 : decode cX7_deep 47 = .ok (.invokevirtual 143, 3) := by decide +kernel
theorem dX7_deep_50 : decode cX7_deep 50 = .ok (.goto 10, 3) := by decide +kernel
theorem dX7_deep_53 : decode cX7_deep 53 = .ok (.aload_n 0, 1) := by decide +kernel
theorem dX7_deep_54 : decode cX7_deep 54 = .ok (.iconst 0, 1) := by decide +kernel
theorem dX7_deep_55 : decode cX7_deep 55 = .ok (.iload 6, 2) := by decide +kernel
theorem dX7_deep_57 : decode cX7_deep 57 = .ok (.invokevirtual 147, 3) := by decide +kernel
theorem dX7_deep_60 : decode cX7_deep 60 = .ok (.ior, 1) := by decide +kernel
theorem dX7_deep_61 : decode cX7_deep 61 = .ok (.istore 5, 2) := by decide +kernel
theorem dX7_deep_63 : decode cX7_deep 63 = .ok (.iinc 6 1, 3) := by decide +kernel
theorem dX7_deep_66 : decode cX7_deep 66 = .ok (.goto (-49), 3) := by decide +kernel
theorem dX7_deep_69 : decode cX7_deep 69 = .ok (.iload 5, 2) := by decide +kernel
theorem dX7_deep_71 : decode cX7_deep 71 = .ok (.istore_n 3, 1) := by decide +kernel
theorem dX7_deep_72 : decode cX7_deep 72 = .ok (.iload 4, 2) := by decide +kernel
theorem dX7_deep_74 : decode cX7_deep 74 = .ok (.iload_n 3, 1) := by decide +kernel
theorem dX7_deep_75 : decode cX7_deep 75 = .ok (.ifCond .eq 7, 3) := by decide +kernel
theorem dX7_deep_78 : decode cX7_deep 78 = .ok (.iconst 1, 1) := by decide +kernel
theorem dX7_deep_79 : decode cX7_deep 79 = .ok (.goto 4, 3) := by decide +kernel
theorem dX7_deep_82 : decode cX7_deep 82 = .ok (.iconst 0, 1) := by decide +kernel
theorem dX7_deep_83 : decode cX7_deep 83 = .ok (.invokestatic 45, 3) := by decide +kernel
theorem dX7_deep_86 : decode cX7_deep 86 = .ok (.iadd, 1) := by decide +kernel
theorem dX7_deep_87 : decode cX7_deep 87 = .ok (.istore 4, 2) := by decide +kernel
theorem dX7_deep_89 : decode cX7_deep 89 = .ok (.goto (-82), 3) := by decide +kernel
theorem dX7_deep_92 : decode cX7_deep 92 = .ok (.iload 4, 2) := by decide +kernel
theorem dX7_deep_94 : decode cX7_deep 94 = .ok (.ireturn, 1) := by decide +kernel
theorem dX7_depth_0 : decode cX7_depth 0 = .ok (.aload_n 0, 1) := by decide +kernel
theorem dX7_depth_1 : decode cX7_depth 1 = .ok (.iconst 0, 1) := by decide +kernel
theorem dX7_depth_2 : decode cX7_depth 2 = .ok (.putfield 1, 3) := by decide +kernel
theorem dX7_depth_5 : decode cX7_depth 5 = .ok (.aload_n 0, 1) := by decide +kernel
theorem dX7_depth_6 : decode cX7_depth 6 = .ok (.iload_n 1, 1) := by decide +kernel
theorem dX7_depth_7 : decode cX7_depth 7 = .ok (.invokevirtual 137, 3) := by decide +kernel
theorem dX7_depth_10 : decode cX7_depth 10 = .ok (.ifCond .ne 5, 3) := by decide +kernel
theorem dX7_depth_13 : decode cX7_depth 13 = .ok (.iconst (-1), 1) := by decide +kernel
theorem dX7_depth_14 : decode cX7_depth 14 = .ok (.ireturn, 1) := by decide +kernel
theorem dX7_depth_15 : decode cX7_depth 15 = .ok (.aload_n 0, 1) := by decide +kernel
theorem dX7_depth_16 : decode cX7_depth 16 = .ok (.iconst 0, 1) := by decide +kernel
theorem dX7_depth_17 : decode cX7_depth 17 = .ok (.putfield 11, 3) := by decide +kernel
theorem dX7_depth_20 : decode cX7_depth 20 = .ok (.aload_n 0, 1) := by decide +kernel
theorem dX7_depth_21 : decode cX7_depth 21 = .ok (.aload_n 0, 1) := by decide +kernel
theorem dX7_depth_22 : decode cX7_depth 22 = .ok (.iload_n 1, 1) := by decide +kernel
theorem dX7_depth_23 : decode cX7_depth 23 = .ok (.iconst 1, 1) := by decide +kernel
theorem dX7_depth_24 : decode cX7_depth 24 = .ok (.invokevirtual 259, 3) := by decide +kernel
theorem dX7_depth_27 : decode cX7_depth 27 = .ok (.i2l, 1) := by decide +kernel
theorem dX7_depth_28 : decode cX7_depth 28 = .ok (.invokevirtual 191, 3) := by decide +kernel
theorem dX7_depth_31 : decode cX7_depth 31 = .ok (.aload_n 0, 1) := by decide +kernel
theorem dX7_depth_32 : decode cX7_depth 32 = .ok (.iload_n 1, 1) := by decide +kernel
theorem dX7_depth_33 : decode cX7_depth 33 = .ok (.iconst 0, 1) := by decide +kernel
theorem dX7_depth_34 : decode cX7_depth 34 = .ok (.invokevirtual 259, 3) := by decide +kernel
theorem dX7_depth_37 : decode cX7_depth 37 = .ok (.ireturn, 1) := by decide +kernel
theorem dX7_tops_0 : decode cX7_tops 0 = .ok (.aload_n 0, 1) := by decide +kernel
theorem dX7_tops_1 : decode cX7_tops 1 = .ok (.iconst 0, 1) := by decide +kernel
theorem dX7_tops_2 : decode cX7_tops 2 = .ok (.putfield 1, 3) := by decide +kernel
theorem dX7_tops_5 : decode cX7_tops 5 = .ok (.iconst 0, 1) := by decide +kernel
theorem dX7_tops_6 : decode cX7_tops 6 = .ok (.istore_n 1, 1) := by decide +kernel
theorem dX7_tops_7 : decode cX7_tops 7 = .ok (.iconst 0, 1) := by decide +kernel
theorem dX7_tops_8 : decode cX7_tops 8 = .ok (.istore_n 2, 1) := by decide +kernel
theorem dX7_tops_9 : decode cX7_tops 9 = .ok (.iconst 0, 1) := by decide +kernel
theorem dX7_tops_10 : decode cX7_tops 10 = .ok (.istore_n 3, 1) := by decide +kernel
theorem dX7_tops_11 : decode cX7_tops 11 = .ok (.iload_n 3, 1) := by decide +kernel
theorem dX7_tops_12 : decode cX7_tops 12 = .ok (.bipush 24, 2) := by decide +kernel
theorem dX7_tops_14 : decode cX7_tops 14 = .ok (.if_icmp .ge 69, 3) := by decide +kernel
theorem dX7_tops_17 : decode cX7_tops 17 = .ok (.iload_n 1, 1) := by decide +kernel
theorem dX7_tops_18 : decode cX7_tops 18 = .ok (.aload_n 0, 1) := by decide +kernel
theorem dX7_tops_19 : decode cX7_tops 19 = .ok (.iload_n 3, 1) := by decide +kernel
theorem dX7_tops_20 : decode cX7_tops 20 = .ok (.invokevirtual 137, 3) := by decide +kernel
theorem dX7_tops_23 : decode cX7_tops 23 = .ok (.ifCond .eq 16, 3) := by decide +kernel
theorem dX7_tops_26 : decode cX7_tops 26 = .ok (.aload_n 0, 1) := by decide +kernel
theorem dX7_tops_27 : decode cX7_tops 27 = .ok (.iconst 0, 1) := by decide +kernel
theorem dX7_tops_28 : decode cX7_tops 28 = .ok (.iload_n 3, 1) := by decide +kernel
theorem dX7_tops_29 : decode cX7_tops 29 = .ok (.invokevirtual 147, 3) := by decide +kernel
theorem dX7_tops_32 : decode cX7_tops 32 = .ok (.ifCond .ne 7, 3) := by decide +kernel
theorem dX7_tops_35 : decode cX7_tops 35 = .ok (.iconst 1, 1) := by decide +kernel
theorem dX7_tops_36 : decode cX7_tops 36 = .ok (.goto 4, 3) := by decide +kernel
theorem dX7_tops_39 : decode cX7_tops 39 = .ok (.iconst 0, 1) := by decide +kernel
theorem dX7_tops_40 : decode cX7_tops 40 = .ok (.invokestatic 45, 3) := by decide +kernel
theorem dX7_tops_43 : decode cX7_tops 43 = .ok (.iload_n 3, 1) := by decide +kernel
theorem dX7_tops_44 : decode cX7_tops 44 = .ok (.ishl, 1) := by decide +kernel
theorem dX7_tops_45 : decode cX7_tops 45 = .ok (.ior, 1) := by decide +kernel
theorem dX7_tops_46 : decode cX7_tops 46 = .ok (.istore_n 1, 1) := by decide +kernel
theorem dX7_tops_47 : decode cX7_tops 47 = .ok (.iload_n 2, 1) := by decide +kernel
theorem dX7_tops_48 : decode cX7_tops 48 = .ok (.aload_n 0, 1) := by decide +kernel
theorem dX7_tops_49 : decode cX7_tops 49 = .ok (.iload_n 3, 1) := by decide +kernel
theorem dX7_tops_50 : decode cX7_tops 50 = .ok (.invokevirtual 137, 3) := by decide +kernel
theorem dX7_tops_53 : decode cX7_tops 53 = .ok (.ifCond .eq 16, 3) := by decide +kernel
theorem dX7_tops_56 : decode cX7_tops 56 = .ok (.aload_n 0, 1) := by decide +kernel
theorem dX7_tops_57 : decode cX7_tops 57 = .ok (.iconst 0, 1) := by decide +kernel
theorem dX7_tops_58 : decode cX7_tops 58 = .ok (.iload_n 3, 1) := by decide +kernel
theorem dX7_tops_59 : decode cX7_tops 59 = .ok (.invokevirtual 143, 3) := by decide +kernel
theorem dX7_tops_62 : decode cX7_tops 62 = .ok (.ifCond .ne 7, 3) := by decide +kernel
theorem dX7_tops_65 : decode cX7_tops 65 = .ok (.iconst 1, 1) := by decide +kernel
theorem dX7_tops_66 : decode cX7_tops 66 = .ok (.goto 4, 3) := by decide +kernel
theorem dX7_tops_69 : decode cX7_tops 69 = .ok (.iconst 0, 1) := by decide +kernel
theorem dX7_tops_70 : decode cX7_tops 70 = .ok (.invokestatic 45, 3) := by decide +kernel
theorem dX7_tops_73 : decode cX7_tops 73 = .ok (.iload_n 3, 1) := by decide +kernel
theorem dX7_tops_74 : decode cX7_tops 74 = .ok (.ishl, 1) := by decide +kernel
theorem dX7_tops_75 : decode cX7_tops 75 = .ok (.ior, 1) := by decide +kernel
theorem dX7_tops_76 : decode cX7_tops 76 = .ok (.istore_n 2, 1) := by decide +kernel
theorem dX7_tops_77 : decode cX7_tops 77 = .ok (.iinc 3 1, 3) := by decide +kernel
theorem dX7_tops_80 : decode cX7_tops 80 = .ok (.goto (-69), 3) := by decide +kernel
theorem dX7_tops_83 : decode cX7_tops 83 = .ok (.aload_n 0, 1) := by decide +kernel
theorem dX7_tops_84 : decode cX7_tops 84 = .ok (.iconst 0, 1) := by decide +kernel
theorem dX7_tops_85 : decode cX7_tops 85 = .ok (.putfield 11, 3) := by decide +kernel
theorem dX7_tops_88 : decode cX7_tops 88 = .ok (.aload_n 0, 1) := by decide +kernel
theorem dX7_tops_89 : decode cX7_tops 89 = .ok (.iload_n 2, 1) := by decide +kernel
theorem dX7_tops_90 : decode cX7_tops 90 = .ok (.i2l, 1) := by decide +kernel
theorem dX7_tops_91 : decode cX7_tops 91 = .ok (.invokevirtual 191, 3) := by decide +kernel
theorem dX7_tops_94 : decode cX7_tops 94 = .ok (.aload_n 0, 1) := by decide +kernel
theorem dX7_tops_95 : decode cX7_tops 95 = .ok (.iload_n 1, 1) := by decide +kernel
theorem dX7_tops_96 : decode cX7_tops 96 = .ok (.iload_n 2, 1) := by decide +kernel
theorem dX7_tops_97 : decode cX7_tops 97 = .ok (.iand, 1) := by decide +kernel
theorem dX7_tops_98 : decode cX7_tops 98 = .ok (.i2l, 1) := by decide +kernel
theorem dX7_tops_99 : decode cX7_tops 99 = .ok (.invokevirtual 191, 3) := by decide +kernel
theorem dX7_tops_102 : decode cX7_tops 102 = .ok (.iload_n 1, 1) := by decide +kernel
theorem dX7_tops_103 : decode cX7_tops 103 = .ok (.ireturn, 1) := by decide +kernel
theorem dX7_isNeedless_0 : decode cX7_isNeedless 0 = .ok (.iconst 0, 1) := by decide +kernel
theorem dX7_isNeedless_1 : decode cX7_isNeedless 1 = .ok (.istore_n 3, 1) := by decide +kernel
theorem dX7_isNeedless_2 : decode cX7_isNeedless 2 = .ok (.iload_n 3, 1) := by decide +kernel
theorem dX7_isNeedless_3 : decode cX7_isNeedless 3 = .ok (.bipush 24, 2) := by decide +kernel
theorem dX7_isNeedless_5 : decode cX7_isNeedless 5 = .ok (.if_icmp .ge 35, 3) := by decide +kernel
theorem dX7_isNeedless_8 : decode cX7_isNeedless 8 = .ok (.iload_n 3, 1) := by decide +kernel
theorem dX7_isNeedless_9 : decode cX7_isNeedless 9 = .ok (.iload_n 2, 1) := by decide +kernel
theorem dX7_isNeedless_10 : decode cX7_isNeedless 10 = .ok (.if_icmp .eq 24, 3) := by decide +kernel
theorem dX7_isNeedless_13 : decode cX7_isNeedless 13 = .ok (.aload_n 0, 1) := by decide +kernel
theorem dX7_isNeedless_14 : decode cX7_isNeedless 14 = .ok (.iconst 0, 1) := by decide +kernel
theorem dX7_isNeedless_15 : decode cX7_isNeedless 15 = .ok (.iload_n 1, 1) := by decide +kernel
theorem dX7_isNeedless_16 : decode cX7_isNeedless 16 = .ok (.iload_n 3, 1) := by decide +kernel
theorem dX7_isNeedless_17 : decode cX7_isNeedless 17 = .ok (.invokevirtual 176, 3) := by decide +kernel
theorem dX7_isNeedless_20 : decode cX7_isNeedless 20 = .ok (.ifCond .eq 14, 3) := by decide +kernel
theorem dX7_isNeedless_23 : decode cX7_isNeedless 23 = .ok (.aload_n 0, 1) := by decide +kernel
theorem dX7_isNeedless_24 : decode cX7_isNeedless 24 = .ok (.iload_n 3, 1) := by decide +kernel
theorem dX7_isNeedless_25 : decode cX7_isNeedless 25 = .ok (.iload_n 2, 1) := by decide +kernel
theorem dX7_isNeedless_26 : decode cX7_isNeedless 26 = .ok (.invokevirtual 256, 3) := by decide +kernel
theorem dX7_isNeedless_29 : decode cX7_isNeedless 29 = .ok (.ifCond .eq 5, 3) := by decide +kernel
theorem dX7_isNeedless_32 : decode cX7_isNeedless 32 = .ok (.iconst 1, 1) := by decide +kernel
theorem dX7_isNeedless_33 : decode cX7_isNeedless 33 = .ok (.ireturn, 1) := by decide +kernel
theorem dX7_isNeedless_34 : decode cX7_isNeedless 34 = .ok (.iinc 3 1, 3) := by decide +kernel
theorem dX7_isNeedless_37 : decode cX7_isNeedless 37 = .ok (.goto (-35), 3) := by decide +kernel
theorem dX7_isNeedless_40 : decode cX7_isNeedless 40 = .ok (.iconst 0, 1) := by decide +kernel
theorem dX7_isNeedless_41 : decode cX7_isNeedless 41 = .ok (.ireturn, 1) := by decide +kernel
theorem dX7_laysNeedless_0 : decode cX7_laysNeedless 0 = .ok (.iconst 0, 1) := by decide +kernel
theorem dX7_laysNeedless_1 : decode cX7_laysNeedless 1 = .ok (.istore_n 1, 1) := by decide +kernel
theorem dX7_laysNeedless_2 : decode cX7_laysNeedless 2 = .ok (.iconst 0, 1) := by decide +kernel
theorem dX7_laysNeedless_3 : decode cX7_laysNeedless 3 = .ok (.istore_n 2, 1) := by decide +kernel
theorem dX7_laysNeedless_4 : decode cX7_laysNeedless 4 = .ok (.iload_n 2, 1) := by decide +kernel
theorem dX7_laysNeedless_5 : decode cX7_laysNeedless 5 = .ok (.bipush 24, 2) := by decide +kernel
theorem dX7_laysNeedless_7 : decode cX7_laysNeedless 7 = .ok (.if_icmp .ge 72, 3) := by decide +kernel
theorem dX7_laysNeedless_10 : decode cX7_laysNeedless 10 = .ok (.aload_n 0, 1) := by decide +kernel
theorem dX7_laysNeedless_11 : decode cX7_laysNeedless 11 = .ok (.getfield 98, 3) := by decide +kernel
theorem dX7_laysNeedless_14 : decode cX7_laysNeedless 14 = .ok (.iload_n 2, 1) := by decide +kernel
theorem dX7_laysNeedless_15 : decode cX7_laysNeedless 15 = .ok (.iconst 0, 1) := by decide +kernel
theorem dX7_laysNeedless_16 : decode cX7_laysNeedless 16 = .ok (.iastore, 1) := by decide +kernel
theorem dX7_laysNeedless_17 : decode cX7_laysNeedless 17 = .ok (.iconst 0, 1) := by decide +kernel
theorem dX7_laysNeedless_18 : decode cX7_laysNeedless 18 = .ok (.istore_n 3, 1) := by decide +kernel
theorem dX7_laysNeedless_19 : decode cX7_laysNeedless 19 = .ok (.iload_n 3, 1) := by decide +kernel
theorem dX7_laysNeedless_20 : decode cX7_laysNeedless 20 = .ok (.bipush 24, 2) := by decide +kernel
theorem dX7_laysNeedless_22 : decode cX7_laysNeedless 22 = .ok (.if_icmp .ge 51, 3) := by decide +kernel
theorem dX7_laysNeedless_25 : decode cX7_laysNeedless 25 = .ok (.aload_n 0, 1) := by decide +kernel
theorem dX7_laysNeedless_26 : decode cX7_laysNeedless 26 = .ok (.iload_n 2, 1) := by decide +kernel
theorem dX7_laysNeedless_27 : decode cX7_laysNeedless 27 = .ok (.invokevirtual 137, 3) := by decide +kernel
theorem dX7_laysNeedless_30 : decode cX7_laysNeedless 30 = .ok (.ifCond .eq 43, 3) := by decide +kernel
theorem dX7_laysNeedless_33 : decode cX7_laysNeedless 33 = .ok (.aload_n 0, 1) := by decide +kernel
theorem dX7_laysNeedless_34 : decode cX7_laysNeedless 34 = .ok (.iconst 0, 1) := by decide +kernel
theorem dX7_laysNeedless_35 : decode cX7_laysNeedless 35 = .ok (.iload_n 2, 1) := by decide +kernel
theorem dX7_laysNeedless_36 : decode cX7_laysNeedless 36 = .ok (.iload_n 3, 1) := by decide +kernel
theorem dX7_laysNeedless_37 : decode cX7_laysNeedless 37 = .ok (.invokevirtual 176, 3) := by decide +kernel
theorem dX7_laysNeedless_40 : decode cX7_laysNeedless 40 = .ok (.ifCond .eq 27, 3) := by decide +kernel
theorem dX7_laysNeedless_43 : decode cX7_laysNeedless 43 = .ok (.aload_n 0, 1) := by decide +kernel
theorem dX7_laysNeedless_44 : decode cX7_laysNeedless 44 = .ok (.iload_n 2, 1) := by decide +kernel
theorem dX7_laysNeedless_45 : decode cX7_laysNeedless 45 = .ok (.iload_n 3, 1) := by decide +kernel
theorem dX7_laysNeedless_46 : decode cX7_laysNeedless 46 = .ok (.invokevirtual 263, 3) := by decide +kernel
theorem dX7_laysNeedless_49 : decode cX7_laysNeedless 49 = .ok (.ifCond .eq 18, 3) := by decide +kernel
theorem dX7_laysNeedless_52 : decode cX7_laysNeedless 52 = .ok (.aload_n 0, 1) := by decide +kernel
theorem dX7_laysNeedless_53 : decode cX7_laysNeedless 53 = .ok (.getfield 98, 3) := by decide +kernel
theorem dX7_laysNeedless_56 : decode cX7_laysNeedless 56 = .ok (.iload_n 2, 1) := by decide +kernel
theorem dX7_laysNeedless_57 : decode cX7_laysNeedless 57 = .ok (.dup2, 1) := by decide +kernel
theorem dX7_laysNeedless_58 : decode cX7_laysNeedless 58 = .ok (.iaload, 1) := by decide +kernel
theorem dX7_laysNeedless_59 : decode cX7_laysNeedless 59 = .ok (.iconst 1, 1) := by decide +kernel
theorem dX7_laysNeedless_60 : decode cX7_laysNeedless 60 = .ok (.iload_n 3, 1) := by decide +kernel
theorem dX7_laysNeedless_61 : decode cX7_laysNeedless 61 = .ok (.ishl, 1) := by decide +kernel
theorem dX7_laysNeedless_62 : decode cX7_laysNeedless 62 = .ok (.ior, 1) := by decide +kernel
theorem dX7_laysNeedless_63 : decode cX7_laysNeedless 63 = .ok (.iastore, 1) := by decide +kernel
theorem dX7_laysNeedless_64 : decode cX7_laysNeedless 64 = .ok (.iinc 1 1, 3) := by decide +kernel
theorem dX7_laysNeedless_67 : decode cX7_laysNeedless 67 = .ok (.iinc 3 1, 3) := by decide +kernel
theorem dX7_laysNeedless_70 : decode cX7_laysNeedless 70 = .ok (.goto (-51), 3) := by decide +kernel
theorem dX7_laysNeedless_73 : decode cX7_laysNeedless 73 = .ok (.iinc 2 1, 3) := by decide +kernel
theorem dX7_laysNeedless_76 : decode cX7_laysNeedless 76 = .ok (.goto (-72), 3) := by decide +kernel
theorem dX7_laysNeedless_79 : decode cX7_laysNeedless 79 = .ok (.iload_n 1, 1) := by decide +kernel
theorem dX7_laysNeedless_80 : decode cX7_laysNeedless 80 = .ok (.ireturn, 1) := by decide +kernel
theorem dX7_needless_0 : decode cX7_needless 0 = .ok (.aload_n 0, 1) := by decide +kernel
theorem dX7_needless_1 : decode cX7_needless 1 = .ok (.iconst 0, 1) := by decide +kernel
theorem dX7_needless_2 : decode cX7_needless 2 = .ok (.putfield 1, 3) := by decide +kernel
theorem dX7_needless_5 : decode cX7_needless 5 = .ok (.aload_n 0, 1) := by decide +kernel
theorem dX7_needless_6 : decode cX7_needless 6 = .ok (.invokevirtual 266, 3) := by decide +kernel
theorem dX7_needless_9 : decode cX7_needless 9 = .ok (.istore_n 1, 1) := by decide +kernel
theorem dX7_needless_10 : decode cX7_needless 10 = .ok (.aload_n 0, 1) := by decide +kernel
theorem dX7_needless_11 : decode cX7_needless 11 = .ok (.iconst 0, 1) := by decide +kernel
theorem dX7_needless_12 : decode cX7_needless 12 = .ok (.putfield 11, 3) := by decide +kernel
theorem dX7_needless_15 : decode cX7_needless 15 = .ok (.iconst 0, 1) := by decide +kernel
theorem dX7_needless_16 : decode cX7_needless 16 = .ok (.istore_n 2, 1) := by decide +kernel
theorem dX7_needless_17 : decode cX7_needless 17 = .ok (.iload_n 2, 1) := by decide +kernel
theorem dX7_needless_18 : decode cX7_needless 18 = .ok (.bipush 24, 2) := by decide +kernel
theorem dX7_needless_20 : decode cX7_needless 20 = .ok (.if_icmp .ge 47, 3) := by decide +kernel
theorem dX7_needless_23 : decode cX7_needless 23 = .ok (.iconst 0, 1) := by decide +kernel
theorem dX7_needless_24 : decode cX7_needless 24 = .ok (.istore_n 3, 1) := by decide +kernel
theorem dX7_needless_25 : decode cX7_needless 25 = .ok (.iload_n 3, 1) := by decide +kernel
theorem dX7_needless_26 : decode cX7_needless 26 = .ok (.bipush 24, 2) := by decide +kernel
theorem dX7_needless_28 : decode cX7_needless 28 = .ok (.if_icmp .ge 33, 3) := by decide +kernel
theorem dX7_needless_31 : decode cX7_needless 31 = .ok (.aload_n 0, 1) := by decide +kernel
theorem dX7_needless_32 : decode cX7_needless 32 = .ok (.getfield 98, 3) := by decide +kernel
theorem dX7_needless_35 : decode cX7_needless 35 = .ok (.iload_n 2, 1) := by decide +kernel
theorem dX7_needless_36 : decode cX7_needless 36 = .ok (.iaload, 1) := by decide +kernel
theorem dX7_needless_37 : decode cX7_needless 37 = .ok (.iload_n 3, 1) := by decide +kernel
theorem dX7_needless_38 : decode cX7_needless 38 = .ok (.invokestatic 133, 3) := by decide +kernel
theorem dX7_needless_41 : decode cX7_needless 41 = .ok (.ifCond .eq 14, 3) := by decide +kernel
theorem dX7_needless_44 : decode cX7_needless 44 = .ok (.aload_n 0, 1) := by decide +kernel
theorem dX7_needless_45 : decode cX7_needless 45 = .ok (.bipush 100, 2) := by decide +kernel
theorem dX7_needless_47 : decode cX7_needless 47 = .ok (.iload_n 2, 1) := by decide +kernel
theorem dX7_needless_48 : decode cX7_needless 48 = .ok (.imul, 1) := by decide +kernel
theorem dX7_needless_49 : decode cX7_needless 49 = .ok (.iload_n 3, 1) := by decide +kernel
theorem dX7_needless_50 : decode cX7_needless 50 = .ok (.iadd, 1) := by decide +kernel
theorem dX7_needless_51 : decode cX7_needless 51 = .ok (.i2l, 1) := by decide +kernel
theorem dX7_needless_52 : decode cX7_needless 52 = .ok (.invokevirtual 191, 3) := by decide +kernel
theorem dX7_needless_55 : decode cX7_needless 55 = .ok (.iinc 3 1, 3) := by decide +kernel
theorem dX7_needless_58 : decode cX7_needless 58 = .ok (.goto (-33), 3) := by decide +kernel
theorem dX7_needless_61 : decode cX7_needless 61 = .ok (.iinc 2 1, 3) := by decide +kernel
theorem dX7_needless_64 : decode cX7_needless 64 = .ok (.goto (-47), 3) := by decide +kernel
theorem dX7_needless_67 : decode cX7_needless 67 = .ok (.iload_n 1, 1) := by decide +kernel
theorem dX7_needless_68 : decode cX7_needless 68 = .ok (.ireturn, 1) := by decide +kernel
theorem dX7_finds_0 : decode cX7_finds 0 = .ok (.aload_n 0, 1) := by decide +kernel
theorem dX7_finds_1 : decode cX7_finds 1 = .ok (.iconst 0, 1) := by decide +kernel
theorem dX7_finds_2 : decode cX7_finds 2 = .ok (.iload_n 1, 1) := by decide +kernel
theorem dX7_finds_3 : decode cX7_finds 3 = .ok (.invokevirtual 166, 3) := by decide +kernel
theorem dX7_finds_6 : decode cX7_finds 6 = .ok (.iconst 1, 1) := by decide +kernel
theorem dX7_finds_7 : decode cX7_finds 7 = .ok (.iload_n 1, 1) := by decide +kernel
theorem dX7_finds_8 : decode cX7_finds 8 = .ok (.ishl, 1) := by decide +kernel
theorem dX7_finds_9 : decode cX7_finds 9 = .ok (.iconst (-1), 1) := by decide +kernel
theorem dX7_finds_10 : decode cX7_finds 10 = .ok (.ixor, 1) := by decide +kernel
theorem dX7_finds_11 : decode cX7_finds 11 = .ok (.iand, 1) := by decide +kernel
theorem dX7_finds_12 : decode cX7_finds 12 = .ok (.istore_n 2, 1) := by decide +kernel
theorem dX7_finds_13 : decode cX7_finds 13 = .ok (.iconst 0, 1) := by decide +kernel
theorem dX7_finds_14 : decode cX7_finds 14 = .ok (.istore_n 3, 1) := by decide +kernel
theorem dX7_finds_15 : decode cX7_finds 15 = .ok (.iload_n 3, 1) := by decide +kernel
theorem dX7_finds_16 : decode cX7_finds 16 = .ok (.bipush 24, 2) := by decide +kernel
theorem dX7_finds_18 : decode cX7_finds 18 = .ok (.if_icmp .ge 74, 3) := by decide +kernel
theorem dX7_finds_21 : decode cX7_finds 21 = .ok (.iload_n 2, 1) := by decide +kernel
theorem dX7_finds_22 : decode cX7_finds 22 = .ok (.iload_n 3, 1) := by decide +kernel
theorem dX7_finds_23 : decode cX7_finds 23 = .ok (.invokestatic 133, 3) := by decide +kernel
theorem dX7_finds_26 : decode cX7_finds 26 = .ok (.ifCond .eq 60, 3) := by decide +kernel
theorem dX7_finds_29 : decode cX7_finds 29 = .ok (.aload_n 0, 1) := by decide +kernel
theorem dX7_finds_30 : decode cX7_finds 30 = .ok (.getfield 269, 3) := by decide +kernel
theorem dX7_finds_33 : decode cX7_finds 33 = .ok (.iload_n 3, 1) := by decide +kernel
theorem dX7_finds_34 : decode cX7_finds 34 = .ok (.invokestatic 133, 3) := by decide +kernel
theorem dX7_finds_37 : decode cX7_finds 37 = .ok (.ifCond .eq 6, 3) := by decide +kernel
theorem dX7_finds_40 : decode cX7_finds 40 = .ok (.goto 46, 3) := by decide +kernel
theorem dX7_finds_43 : decode cX7_finds 43 = .ok (.aload_n 0, 1) := by decide +kernel
theorem dX7_finds_44 : decode cX7_finds 44 = .ok (.dup, 1) := by decide +kernel
theorem dX7_finds_45 : decode cX7_finds 45 = .ok (.getfield 269, 3) := by decide +kernel
theorem dX7_finds_48 : decode cX7_finds 48 = .ok (.iconst 1, 1) := by decide +kernel
theorem dX7_finds_49 : decode cX7_finds 49 = .ok (.iload_n 3, 1) := by decide +kernel
theorem dX7_finds_50 : decode cX7_finds 50 = .ok (.ishl, 1) := by decide +kernel
theorem dX7_finds_51 : decode cX7_finds 51 = .ok (.ior, 1) := by decide +kernel
theorem dX7_finds_52 : decode cX7_finds 52 = .ok (.putfield 269, 3) := by decide +kernel
theorem dX7_finds_55 : decode cX7_finds 55 = .ok (.aload_n 0, 1) := by decide +kernel
theorem dX7_finds_56 : decode cX7_finds 56 = .ok (.getfield 101, 3) := by decide +kernel
theorem dX7_finds_59 : decode cX7_finds 59 = .ok (.iload_n 3, 1) := by decide +kernel
theorem dX7_finds_60 : decode cX7_finds 60 = .ok (.iaload, 1) := by decide +kernel
theorem dX7_finds_61 : decode cX7_finds 61 = .ok (.ifCond .lt 16, 3) := by decide +kernel
theorem dX7_finds_64 : decode cX7_finds 64 = .ok (.aload_n 0, 1) := by decide +kernel
theorem dX7_finds_65 : decode cX7_finds 65 = .ok (.aload_n 0, 1) := by decide +kernel
theorem dX7_finds_66 : decode cX7_finds 66 = .ok (.getfield 101, 3) := by decide +kernel
theorem dX7_finds_69 : decode cX7_finds 69 = .ok (.iload_n 3, 1) := by decide +kernel
theorem dX7_finds_70 : decode cX7_finds 70 = .ok (.iaload, 1) := by decide +kernel
theorem dX7_finds_71 : decode cX7_finds 71 = .ok (.invokevirtual 272, 3) := by decide +kernel
theorem dX7_finds_74 : decode cX7_finds 74 = .ok (.ifCond .eq 12, 3) := by decide +kernel
theorem dX7_finds_77 : decode cX7_finds 77 = .ok (.aload_n 0, 1) := by decide +kernel
theorem dX7_finds_78 : decode cX7_finds 78 = .ok (.getfield 101, 3) := by decide +kernel
theorem dX7_finds_81 : decode cX7_finds 81 = .ok (.iload_n 3, 1) := by decide +kernel
theorem dX7_finds_82 : decode cX7_finds 82 = .ok (.iload_n 1, 1) := by decide +kernel
theorem dX7_finds_83 : decode cX7_finds 83 = .ok (.iastore, 1) := by decide +kernel
theorem dX7_finds_84 : decode cX7_finds 84 = .ok (.iconst 1, 1) := by decide +kernel
theorem dX7_finds_85 : decode cX7_finds 85 = .ok (.ireturn, 1) := by decide +kernel
theorem dX7_finds_86 : decode cX7_finds 86 = .ok (.iinc 3 1, 3) := by decide +kernel
theorem dX7_finds_89 : decode cX7_finds 89 = .ok (.goto (-74), 3) := by decide +kernel
theorem dX7_finds_92 : decode cX7_finds 92 = .ok (.iconst 0, 1) := by decide +kernel
theorem dX7_finds_93 : decode cX7_finds 93 = .ok (.ireturn, 1) := by decide +kernel
theorem dX7_chains_0 : decode cX7_chains 0 = .ok (.aload_n 0, 1) := by decide +kernel
theorem dX7_chains_1 : decode cX7_chains 1 = .ok (.iconst 0, 1) := by decide +kernel
theorem dX7_chains_2 : decode cX7_chains 2 = .ok (.putfield 1, 3) := by decide +kernel
theorem dX7_chains_5 : decode cX7_chains 5 = .ok (.iconst 0, 1) := by decide +kernel
theorem dX7_chains_6 : decode cX7_chains 6 = .ok (.istore_n 1, 1) := by decide +kernel
theorem dX7_chains_7 : decode cX7_chains 7 = .ok (.iload_n 1, 1) := by decide +kernel
theorem dX7_chains_8 : decode cX7_chains 8 = .ok (.bipush 24, 2) := by decide +kernel
theorem dX7_chains_10 : decode cX7_chains 10 = .ok (.if_icmp .ge 16, 3) := by decide +kernel
theorem dX7_chains_13 : decode cX7_chains 13 = .ok (.aload_n 0, 1) := by decide +kernel
theorem dX7_chains_14 : decode cX7_chains 14 = .ok (.getfield 101, 3) := by decide +kernel
theorem dX7_chains_17 : decode cX7_chains 17 = .ok (.iload_n 1, 1) := by decide +kernel
theorem dX7_chains_18 : decode cX7_chains 18 = .ok (.iconst (-1), 1) := by decide +kernel
theorem dX7_chains_19 : decode cX7_chains 19 = .ok (.iastore, 1) := by decide +kernel
theorem dX7_chains_20 : decode cX7_chains 20 = .ok (.iinc 1 1, 3) := by decide +kernel
theorem dX7_chains_23 : decode cX7_chains 23 = .ok (.goto (-16), 3) := by decide +kernel
theorem dX7_chains_26 : decode cX7_chains 26 = .ok (.iconst 0, 1) := by decide +kernel
theorem dX7_chains_27 : decode cX7_chains 27 = .ok (.istore_n 1, 1) := by decide +kernel
theorem dX7_chains_28 : decode cX7_chains 28 = .ok (.iconst 0, 1) := by decide +kernel
theorem dX7_chains_29 : decode cX7_chains 29 = .ok (.istore_n 2, 1) := by decide +kernel
theorem dX7_chains_30 : decode cX7_chains 30 = .ok (.iconst 0, 1) := by decide +kernel
theorem dX7_chains_31 : decode cX7_chains 31 = .ok (.istore_n 3, 1) := by decide +kernel
theorem dX7_chains_32 : decode cX7_chains 32 = .ok (.iload_n 3, 1) := by decide +kernel
theorem dX7_chains_33 : decode cX7_chains 33 = .ok (.bipush 24, 2) := by decide +kernel
theorem dX7_chains_35 : decode cX7_chains 35 = .ok (.if_icmp .ge 66, 3) := by decide +kernel
theorem dX7_chains_38 : decode cX7_chains 38 = .ok (.aload_n 0, 1) := by decide +kernel
theorem dX7_chains_39 : decode cX7_chains 39 = .ok (.iload_n 3, 1) := by decide +kernel
theorem dX7_chains_40 : decode cX7_chains 40 = .ok (.invokevirtual 137, 3) := by decide +kernel
theorem dX7_chains_43 : decode cX7_chains 43 = .ok (.ifCond .ne 6, 3) := by decide +kernel
theorem dX7_chains_46 : decode cX7_chains 46 = .ok (.goto 49, 3) := by decide +kernel
theorem dX7_chains_49 : decode cX7_chains 49 = .ok (.aload_n 0, 1) := by decide +kernel
theorem dX7_chains_50 : decode cX7_chains 50 = .ok (.iconst 0, 1) := by decide +kernel
theorem dX7_chains_51 : decode cX7_chains 51 = .ok (.putfield 269, 3) := by decide +kernel
theorem dX7_chains_54 : decode cX7_chains 54 = .ok (.iload_n 1, 1) := by decide +kernel
theorem dX7_chains_55 : decode cX7_chains 55 = .ok (.aload_n 0, 1) := by decide +kernel
theorem dX7_chains_56 : decode cX7_chains 56 = .ok (.iload_n 3, 1) := by decide +kernel
theorem dX7_chains_57 : decode cX7_chains 57 = .ok (.invokevirtual 272, 3) := by decide +kernel
theorem dX7_chains_60 : decode cX7_chains 60 = .ok (.ifCond .eq 7, 3) := by decide +kernel
theorem dX7_chains_63 : decode cX7_chains 63 = .ok (.iconst 0, 1) := by decide +kernel
theorem dX7_chains_64 : decode cX7_chains 64 = .ok (.goto 4, 3) := by decide +kernel
theorem dX7_chains_67 : decode cX7_chains 67 = .ok (.iconst 1, 1) := by decide +kernel
theorem dX7_chains_68 : decode cX7_chains 68 = .ok (.iadd, 1) := by decide +kernel
theorem dX7_chains_69 : decode cX7_chains 69 = .ok (.istore_n 1, 1) := by decide +kernel
theorem dX7_chains_70 : decode cX7_chains 70 = .ok (.aload_n 0, 1) := by decide +kernel
theorem dX7_chains_71 : decode cX7_chains 71 = .ok (.iload_n 3, 1) := by decide +kernel
theorem dX7_chains_72 : decode cX7_chains 72 = .ok (.iconst 1, 1) := by decide +kernel
theorem dX7_chains_73 : decode cX7_chains 73 = .ok (.invokevirtual 259, 3) := by decide +kernel
theorem dX7_chains_76 : decode cX7_chains 76 = .ok (.iconst 1, 1) := by decide +kernel
theorem dX7_chains_77 : decode cX7_chains 77 = .ok (.iadd, 1) := by decide +kernel
theorem dX7_chains_78 : decode cX7_chains 78 = .ok (.iload_n 2, 1) := by decide +kernel
theorem dX7_chains_79 : decode cX7_chains 79 = .ok (.if_icmp .le 14, 3) := by decide +kernel
theorem dX7_chains_82 : decode cX7_chains 82 = .ok (.aload_n 0, 1) := by decide +kernel
theorem dX7_chains_83 : decode cX7_chains 83 = .ok (.iload_n 3, 1) := by decide +kernel
theorem dX7_chains_84 : decode cX7_chains 84 = .ok (.iconst 1, 1) := by decide +kernel
theorem dX7_chains_85 : decode cX7_chains 85 = .ok (.invokevirtual 259, 3) := by decide +kernel
theorem dX7_chains_88 : decode cX7_chains 88 = .ok (.iconst 1, 1) := by decide +kernel
theorem dX7_chains_89 : decode cX7_chains 89 = .ok (.iadd, 1) := by decide +kernel
theorem dX7_chains_90 : decode cX7_chains 90 = .ok (.goto 4, 3) := by decide +kernel
theorem dX7_chains_93 : decode cX7_chains 93 = .ok (.iload_n 2, 1) := by decide +kernel
theorem dX7_chains_94 : decode cX7_chains 94 = .ok (.istore_n 2, 1) := by decide +kernel
theorem dX7_chains_95 : decode cX7_chains 95 = .ok (.iinc 3 1, 3) := by decide +kernel
theorem dX7_chains_98 : decode cX7_chains 98 = .ok (.goto (-66), 3) := by decide +kernel
theorem dX7_chains_101 : decode cX7_chains 101 = .ok (.aload_n 0, 1) := by decide +kernel
theorem dX7_chains_102 : decode cX7_chains 102 = .ok (.iconst 0, 1) := by decide +kernel
theorem dX7_chains_103 : decode cX7_chains 103 = .ok (.putfield 11, 3) := by decide +kernel
theorem dX7_chains_106 : decode cX7_chains 106 = .ok (.aload_n 0, 1) := by decide +kernel
theorem dX7_chains_107 : decode cX7_chains 107 = .ok (.iload_n 2, 1) := by decide +kernel
theorem dX7_chains_108 : decode cX7_chains 108 = .ok (.i2l, 1) := by decide +kernel
theorem dX7_chains_109 : decode cX7_chains 109 = .ok (.invokevirtual 191, 3) := by decide +kernel
theorem dX7_chains_112 : decode cX7_chains 112 = .ok (.iload_n 1, 1) := by decide +kernel
theorem dX7_chains_113 : decode cX7_chains 113 = .ok (.ireturn, 1) := by decide +kernel
theorem dX7_apart_0 : decode cX7_apart 0 = .ok (.aload_n 0, 1) := by decide +kernel
theorem dX7_apart_1 : decode cX7_apart 1 = .ok (.iconst 0, 1) := by decide +kernel
theorem dX7_apart_2 : decode cX7_apart 2 = .ok (.putfield 1, 3) := by decide +kernel
theorem dX7_apart_5 : decode cX7_apart 5 = .ok (.iload_n 1, 1) := by decide +kernel
theorem dX7_apart_6 : decode cX7_apart 6 = .ok (.ifCond .lt 15, 3) := by decide +kernel
theorem dX7_apart_9 : decode cX7_apart 9 = .ok (.iload_n 1, 1) := by decide +kernel
theorem dX7_apart_10 : decode cX7_apart 10 = .ok (.aload_n 0, 1) := by decide +kernel
theorem dX7_apart_11 : decode cX7_apart 11 = .ok (.iconst 0, 1) := by decide +kernel
theorem dX7_apart_12 : decode cX7_apart 12 = .ok (.invokevirtual 129, 3) := by decide +kernel
theorem dX7_apart_15 : decode cX7_apart 15 = .ok (.iconst (-1), 1) := by decide +kernel
theorem dX7_apart_16 : decode cX7_apart 16 = .ok (.ixor, 1) := by decide +kernel
theorem dX7_apart_17 : decode cX7_apart 17 = .ok (.iand, 1) := by decide +kernel
theorem dX7_apart_18 : decode cX7_apart 18 = .ok (.ifCond .eq 5, 3) := by decide +kernel
theorem dX7_apart_21 : decode cX7_apart 21 = .ok (.iconst (-1), 1) := by decide +kernel
theorem dX7_apart_22 : decode cX7_apart 22 = .ok (.ireturn, 1) := by decide +kernel
theorem dX7_apart_23 : decode cX7_apart 23 = .ok (.iconst 0, 1) := by decide +kernel
theorem dX7_apart_24 : decode cX7_apart 24 = .ok (.istore_n 2, 1) := by decide +kernel
theorem dX7_apart_25 : decode cX7_apart 25 = .ok (.iconst 0, 1) := by decide +kernel
theorem dX7_apart_26 : decode cX7_apart 26 = .ok (.istore_n 3, 1) := by decide +kernel
theorem dX7_apart_27 : decode cX7_apart 27 = .ok (.iload_n 3, 1) := by decide +kernel
theorem dX7_apart_28 : decode cX7_apart 28 = .ok (.bipush 24, 2) := by decide +kernel
theorem dX7_apart_30 : decode cX7_apart 30 = .ok (.if_icmp .ge 37, 3) := by decide +kernel
theorem dX7_apart_33 : decode cX7_apart 33 = .ok (.iload_n 2, 1) := by decide +kernel
theorem dX7_apart_34 : decode cX7_apart 34 = .ok (.iload_n 1, 1) := by decide +kernel
theorem dX7_apart_35 : decode cX7_apart 35 = .ok (.iload_n 3, 1) := by decide +kernel
theorem dX7_apart_36 : decode cX7_apart 36 = .ok (.invokestatic 133, 3) := by decide +kernel
theorem dX7_apart_39 : decode cX7_apart 39 = .ok (.ifCond .eq 19, 3) := by decide +kernel
theorem dX7_apart_42 : decode cX7_apart 42 = .ok (.aload_n 0, 1) := by decide +kernel
theorem dX7_apart_43 : decode cX7_apart 43 = .ok (.iconst 0, 1) := by decide +kernel
theorem dX7_apart_44 : decode cX7_apart 44 = .ok (.iload_n 3, 1) := by decide +kernel
theorem dX7_apart_45 : decode cX7_apart 45 = .ok (.invokevirtual 166, 3) := by decide +kernel
theorem dX7_apart_48 : decode cX7_apart 48 = .ok (.iload_n 1, 1) := by decide +kernel
theorem dX7_apart_49 : decode cX7_apart 49 = .ok (.iand, 1) := by decide +kernel
theorem dX7_apart_50 : decode cX7_apart 50 = .ok (.invokestatic 154, 3) := by decide +kernel
theorem dX7_apart_53 : decode cX7_apart 53 = .ok (.iconst 1, 1) := by decide +kernel
theorem dX7_apart_54 : decode cX7_apart 54 = .ok (.isub, 1) := by decide +kernel
theorem dX7_apart_55 : decode cX7_apart 55 = .ok (.goto 4, 3) := by decide +kernel
theorem dX7_apart_58 : decode cX7_apart 58 = .ok (.iconst 0, 1) := by decide +kernel
theorem dX7_apart_59 : decode cX7_apart 59 = .ok (.iadd, 1) := by decide +kernel
theorem dX7_apart_60 : decode cX7_apart 60 = .ok (.istore_n 2, 1) := by decide +kernel
theorem dX7_apart_61 : decode cX7_apart 61 = .ok (.iinc 3 1, 3) := by decide +kernel
theorem dX7_apart_64 : decode cX7_apart 64 = .ok (.goto (-37), 3) := by decide +kernel
theorem dX7_apart_67 : decode cX7_apart 67 = .ok (.aload_n 0, 1) := by decide +kernel
theorem dX7_apart_68 : decode cX7_apart 68 = .ok (.iconst 0, 1) := by decide +kernel
theorem dX7_apart_69 : decode cX7_apart 69 = .ok (.putfield 11, 3) := by decide +kernel
theorem dX7_apart_72 : decode cX7_apart 72 = .ok (.aload_n 0, 1) := by decide +kernel
theorem dX7_apart_73 : decode cX7_apart 73 = .ok (.iload_n 2, 1) := by decide +kernel
theorem dX7_apart_74 : decode cX7_apart 74 = .ok (.i2l, 1) := by decide +kernel
theorem dX7_apart_75 : decode cX7_apart 75 = .ok (.invokevirtual 191, 3) := by decide +kernel
theorem dX7_apart_78 : decode cX7_apart 78 = .ok (.iload_n 2, 1) := by decide +kernel
theorem dX7_apart_79 : decode cX7_apart 79 = .ok (.ifCond .ne 7, 3) := by decide +kernel
theorem dX7_apart_82 : decode cX7_apart 82 = .ok (.iconst 1, 1) := by decide +kernel
theorem dX7_apart_83 : decode cX7_apart 83 = .ok (.goto 4, 3) := by decide +kernel
theorem dX7_apart_86 : decode cX7_apart 86 = .ok (.iconst 0, 1) := by decide +kernel
theorem dX7_apart_87 : decode cX7_apart 87 = .ok (.invokestatic 45, 3) := by decide +kernel
theorem dX7_apart_90 : decode cX7_apart 90 = .ok (.ireturn, 1) := by decide +kernel
theorem dX7_isItem_0 : decode cX7_isItem 0 = .ok (.iload_n 0, 1) := by decide +kernel
theorem dX7_isItem_1 : decode cX7_isItem 1 = .ok (.i2l, 1) := by decide +kernel
theorem dX7_isItem_2 : decode cX7_isItem 2 = .ok (.lconst 0, 1) := by decide +kernel
theorem dX7_isItem_3 : decode cX7_isItem 3 = .ok (.ldc2_w 275, 3) := by decide +kernel
theorem dX7_isItem_6 : decode cX7_isItem 6 = .ok (.invokestatic 21, 3) := by decide +kernel
theorem dX7_isItem_9 : decode cX7_isItem 9 = .ok (.ireturn, 1) := by decide +kernel
theorem dX7_isPosted_0 : decode cX7_isPosted 0 = .ok (.aload_n 0, 1) := by decide +kernel
theorem dX7_isPosted_1 : decode cX7_isPosted 1 = .ok (.getfield 71, 3) := by decide +kernel
theorem dX7_isPosted_4 : decode cX7_isPosted 4 = .ok (.iload_n 1, 1) := by decide +kernel
theorem dX7_isPosted_5 : decode cX7_isPosted 5 = .ok (.bipush 20, 2) := by decide +kernel
theorem dX7_isPosted_7 : decode cX7_isPosted 7 = .ok (.if_icmp .ge 9, 3) := by decide +kernel
theorem dX7_isPosted_10 : decode cX7_isPosted 10 = .ok (.sipush 131, 3) := by decide +kernel
theorem dX7_isPosted_13 : decode cX7_isPosted 13 = .ok (.goto 6, 3) := by decide +kernel
theorem dX7_isPosted_16 : decode cX7_isPosted 16 = .ok (.sipush 155, 3) := by decide +kernel
theorem dX7_isPosted_19 : decode cX7_isPosted 19 = .ok (.iload_n 2, 1) := by decide +kernel
theorem dX7_isPosted_20 : decode cX7_isPosted 20 = .ok (.iadd, 1) := by decide +kernel
theorem dX7_isPosted_21 : decode cX7_isPosted 21 = .ok (.iaload, 1) := by decide +kernel
theorem dX7_isPosted_22 : decode cX7_isPosted 22 = .ok (.iload_n 1, 1) := by decide +kernel
theorem dX7_isPosted_23 : decode cX7_isPosted 23 = .ok (.bipush 20, 2) := by decide +kernel
theorem dX7_isPosted_25 : decode cX7_isPosted 25 = .ok (.irem, 1) := by decide +kernel
theorem dX7_isPosted_26 : decode cX7_isPosted 26 = .ok (.invokestatic 133, 3) := by decide +kernel
theorem dX7_isPosted_29 : decode cX7_isPosted 29 = .ok (.ireturn, 1) := by decide +kernel
theorem dX7_itemsOf_0 : decode cX7_itemsOf 0 = .ok (.aload_n 0, 1) := by decide +kernel
theorem dX7_itemsOf_1 : decode cX7_itemsOf 1 = .ok (.getfield 71, 3) := by decide +kernel
theorem dX7_itemsOf_4 : decode cX7_itemsOf 4 = .ok (.iload_n 1, 1) := by decide +kernel
theorem dX7_itemsOf_5 : decode cX7_itemsOf 5 = .ok (.sipush 179, 3) := by decide +kernel
theorem dX7_itemsOf_8 : decode cX7_itemsOf 8 = .ok (.imul, 1) := by decide +kernel
theorem dX7_itemsOf_9 : decode cX7_itemsOf 9 = .ok (.sipush 131, 3) := by decide +kernel
theorem dX7_itemsOf_12 : decode cX7_itemsOf 12 = .ok (.iadd, 1) := by decide +kernel
theorem dX7_itemsOf_13 : decode cX7_itemsOf 13 = .ok (.iload_n 2, 1) := by decide +kernel
theorem dX7_itemsOf_14 : decode cX7_itemsOf 14 = .ok (.iadd, 1) := by decide +kernel
theorem dX7_itemsOf_15 : decode cX7_itemsOf 15 = .ok (.iaload, 1) := by decide +kernel
theorem dX7_itemsOf_16 : decode cX7_itemsOf 16 = .ok (.invokestatic 154, 3) := by decide +kernel
theorem dX7_itemsOf_19 : decode cX7_itemsOf 19 = .ok (.aload_n 0, 1) := by decide +kernel
theorem dX7_itemsOf_20 : decode cX7_itemsOf 20 = .ok (.getfield 71, 3) := by decide +kernel
theorem dX7_itemsOf_23 : decode cX7_itemsOf 23 = .ok (.iload_n 1, 1) := by decide +kernel
theorem dX7_itemsOf_24 : decode cX7_itemsOf 24 = .ok (.sipush 179, 3) := by decide +kernel
theorem dX7_itemsOf_27 : decode cX7_itemsOf 27 = .ok (.imul, 1) := by decide +kernel
theorem dX7_itemsOf_28 : decode cX7_itemsOf 28 = .ok (.sipush 155, 3) := by decide +kernel
theorem dX7_itemsOf_31 : decode cX7_itemsOf 31 = .ok (.iadd, 1) := by decide +kernel
theorem dX7_itemsOf_32 : decode cX7_itemsOf 32 = .ok (.iload_n 2, 1) := by decide +kernel
theorem dX7_itemsOf_33 : decode cX7_itemsOf 33 = .ok (.iadd, 1) := by decide +kernel
theorem dX7_itemsOf_34 : decode cX7_itemsOf 34 = .ok (.iaload, 1) := by decide +kernel
theorem dX7_itemsOf_35 : decode cX7_itemsOf 35 = .ok (.invokestatic 154, 3) := by decide +kernel
theorem dX7_itemsOf_38 : decode cX7_itemsOf 38 = .ok (.iadd, 1) := by decide +kernel
theorem dX7_itemsOf_39 : decode cX7_itemsOf 39 = .ok (.ireturn, 1) := by decide +kernel
theorem dX7_postsOne_0 : decode cX7_postsOne 0 = .ok (.iload_n 1, 1) := by decide +kernel
theorem dX7_postsOne_1 : decode cX7_postsOne 1 = .ok (.invokestatic 277, 3) := by decide +kernel
theorem dX7_postsOne_4 : decode cX7_postsOne 4 = .ok (.ifCond .eq 11, 3) := by decide +kernel
theorem dX7_postsOne_7 : decode cX7_postsOne 7 = .ok (.aload_n 0, 1) := by decide +kernel
theorem dX7_postsOne_8 : decode cX7_postsOne 8 = .ok (.iload_n 2, 1) := by decide +kernel
theorem dX7_postsOne_9 : decode cX7_postsOne 9 = .ok (.invokevirtual 137, 3) := by decide +kernel
theorem dX7_postsOne_12 : decode cX7_postsOne 12 = .ok (.ifCond .ne 5, 3) := by decide +kernel
theorem dX7_postsOne_15 : decode cX7_postsOne 15 = .ok (.iconst (-1), 1) := by decide +kernel
theorem dX7_postsOne_16 : decode cX7_postsOne 16 = .ok (.ireturn, 1) := by decide +kernel
theorem dX7_postsOne_17 : decode cX7_postsOne 17 = .ok (.aload_n 0, 1) := by decide +kernel
theorem dX7_postsOne_18 : decode cX7_postsOne 18 = .ok (.iload_n 1, 1) := by decide +kernel
theorem dX7_postsOne_19 : decode cX7_postsOne 19 = .ok (.iload_n 2, 1) := by decide +kernel
theorem dX7_postsOne_20 : decode cX7_postsOne 20 = .ok (.invokevirtual 280, 3) := by decide +kernel
theorem dX7_postsOne_23 : decode cX7_postsOne 23 = .ok (.ifCond .eq 6, 3) := by decide +kernel
theorem dX7_postsOne_26 : decode cX7_postsOne 26 = .ok (.bipush (-2), 2) := by decide +kernel
theorem dX7_postsOne_28 : decode cX7_postsOne 28 = .ok (.ireturn, 1) := by decide +kernel
theorem dX7_postsOne_29 : decode cX7_postsOne 29 = .ok (.aload_n 0, 1) := by decide +kernel
theorem dX7_postsOne_30 : decode cX7_postsOne 30 = .ok (.getfield 71, 3) := by decide +kernel
theorem dX7_postsOne_33 : decode cX7_postsOne 33 = .ok (.iload_n 1, 1) := by decide +kernel
theorem dX7_postsOne_34 : decode cX7_postsOne 34 = .ok (.bipush 20, 2) := by decide +kernel
theorem dX7_postsOne_36 : decode cX7_postsOne 36 = .ok (.if_icmp .ge 9, 3) := by decide +kernel
theorem dX7_postsOne_39 : decode cX7_postsOne 39 = .ok (.sipush 131, 3) := by decide +kernel
theorem dX7_postsOne_42 : decode cX7_postsOne 42 = .ok (.goto 6, 3) := by decide +kernel
theorem dX7_postsOne_45 : decode cX7_postsOne 45 = .ok (.sipush 155, 3) := by decide +kernel
theorem dX7_postsOne_48 : decode cX7_postsOne 48 = .ok (.iload_n 2, 1) := by decide +kernel
theorem dX7_postsOne_49 : decode cX7_postsOne 49 = .ok (.iadd, 1) := by decide +kernel
theorem dX7_postsOne_50 : decode cX7_postsOne 50 = .ok (.dup2, 1) := by decide +kernel
theorem dX7_postsOne_51 : decode cX7_postsOne 51 = .ok (.iaload, 1) := by decide +kernel
theorem dX7_postsOne_52 : decode cX7_postsOne 52 = .ok (.iconst 1, 1) := by decide +kernel
theorem dX7_postsOne_53 : decode cX7_postsOne 53 = .ok (.iload_n 1, 1) := by decide +kernel
theorem dX7_postsOne_54 : decode cX7_postsOne 54 = .ok (.bipush 20, 2) := by decide +kernel
theorem dX7_postsOne_56 : decode cX7_postsOne 56 = .ok (.irem, 1) := by decide +kernel
theorem dX7_postsOne_57 : decode cX7_postsOne 57 = .ok (.ishl, 1) := by decide +kernel
theorem dX7_postsOne_58 : decode cX7_postsOne 58 = .ok (.ior, 1) := by decide +kernel
theorem dX7_postsOne_59 : decode cX7_postsOne 59 = .ok (.iastore, 1) := by decide +kernel
theorem dX7_postsOne_60 : decode cX7_postsOne 60 = .ok (.aload_n 0, 1) := by decide +kernel
theorem dX7_postsOne_61 : decode cX7_postsOne 61 = .ok (.iconst 0, 1) := by decide +kernel
theorem dX7_postsOne_62 : decode cX7_postsOne 62 = .ok (.iload_n 2, 1) := by decide +kernel
theorem dX7_postsOne_63 : decode cX7_postsOne 63 = .ok (.invokevirtual 283, 3) := by decide +kernel
theorem dX7_postsOne_66 : decode cX7_postsOne 66 = .ok (.ireturn, 1) := by decide +kernel
theorem dX7_posts_0 : decode cX7_posts 0 = .ok (.aload_n 0, 1) := by decide +kernel
theorem dX7_posts_1 : decode cX7_posts 1 = .ok (.iconst 0, 1) := by decide +kernel
theorem dX7_posts_2 : decode cX7_posts 2 = .ok (.putfield 1, 3) := by decide +kernel
theorem dX7_posts_5 : decode cX7_posts 5 = .ok (.aload_n 0, 1) := by decide +kernel
theorem dX7_posts_6 : decode cX7_posts 6 = .ok (.iconst 0, 1) := by decide +kernel
theorem dX7_posts_7 : decode cX7_posts 7 = .ok (.iconst 3, 1) := by decide +kernel
theorem dX7_posts_8 : decode cX7_posts 8 = .ok (.invokevirtual 120, 3) := by decide +kernel
theorem dX7_posts_11 : decode cX7_posts 11 = .ok (.aload_n 0, 1) := by decide +kernel
theorem dX7_posts_12 : decode cX7_posts 12 = .ok (.aload_n 0, 1) := by decide +kernel
theorem dX7_posts_13 : decode cX7_posts 13 = .ok (.iload_n 1, 1) := by decide +kernel
theorem dX7_posts_14 : decode cX7_posts 14 = .ok (.iload_n 2, 1) := by decide +kernel
theorem dX7_posts_15 : decode cX7_posts 15 = .ok (.invokevirtual 286, 3) := by decide +kernel
theorem dX7_posts_18 : decode cX7_posts 18 = .ok (.invokevirtual 213, 3) := by decide +kernel
theorem dX7_posts_21 : decode cX7_posts 21 = .ok (.ireturn, 1) := by decide +kernel
theorem dX7_unposts_0 : decode cX7_unposts 0 = .ok (.aload_n 0, 1) := by decide +kernel
theorem dX7_unposts_1 : decode cX7_unposts 1 = .ok (.iconst 0, 1) := by decide +kernel
theorem dX7_unposts_2 : decode cX7_unposts 2 = .ok (.putfield 1, 3) := by decide +kernel
theorem dX7_unposts_5 : decode cX7_unposts 5 = .ok (.iload_n 1, 1) := by decide +kernel
theorem dX7_unposts_6 : decode cX7_unposts 6 = .ok (.invokestatic 277, 3) := by decide +kernel
theorem dX7_unposts_9 : decode cX7_unposts 9 = .ok (.ifCond .eq 11, 3) := by decide +kernel
theorem dX7_unposts_12 : decode cX7_unposts 12 = .ok (.aload_n 0, 1) := by decide +kernel
theorem dX7_unposts_13 : decode cX7_unposts 13 = .ok (.iload_n 2, 1) := by decide +kernel
theorem dX7_unposts_14 : decode cX7_unposts 14 = .ok (.invokevirtual 137, 3) := by decide +kernel
theorem dX7_unposts_17 : decode cX7_unposts 17 = .ok (.ifCond .ne 5, 3) := by decide +kernel
theorem dX7_unposts_20 : decode cX7_unposts 20 = .ok (.iconst (-1), 1) := by decide +kernel
theorem dX7_unposts_21 : decode cX7_unposts 21 = .ok (.ireturn, 1) := by decide +kernel
theorem dX7_unposts_22 : decode cX7_unposts 22 = .ok (.aload_n 0, 1) := by decide +kernel
theorem dX7_unposts_23 : decode cX7_unposts 23 = .ok (.iload_n 1, 1) := by decide +kernel
theorem dX7_unposts_24 : decode cX7_unposts 24 = .ok (.iload_n 2, 1) := by decide +kernel
theorem dX7_unposts_25 : decode cX7_unposts 25 = .ok (.invokevirtual 280, 3) := by decide +kernel
theorem dX7_unposts_28 : decode cX7_unposts 28 = .ok (.ifCond .ne 6, 3) := by decide +kernel
theorem dX7_unposts_31 : decode cX7_unposts 31 = .ok (.bipush (-2), 2) := by decide +kernel
theorem dX7_unposts_33 : decode cX7_unposts 33 = .ok (.ireturn, 1) := by decide +kernel
theorem dX7_unposts_34 : decode cX7_unposts 34 = .ok (.aload_n 0, 1) := by decide +kernel
theorem dX7_unposts_35 : decode cX7_unposts 35 = .ok (.iconst 0, 1) := by decide +kernel
theorem dX7_unposts_36 : decode cX7_unposts 36 = .ok (.iconst 3, 1) := by decide +kernel
theorem dX7_unposts_37 : decode cX7_unposts 37 = .ok (.invokevirtual 120, 3) := by decide +kernel
theorem dX7_unposts_40 : decode cX7_unposts 40 = .ok (.aload_n 0, 1) := by decide +kernel
theorem dX7_unposts_41 : decode cX7_unposts 41 = .ok (.getfield 71, 3) := by decide +kernel
theorem dX7_unposts_44 : decode cX7_unposts 44 = .ok (.iload_n 1, 1) := by decide +kernel
theorem dX7_unposts_45 : decode cX7_unposts 45 = .ok (.bipush 20, 2) := by decide +kernel
theorem dX7_unposts_47 : decode cX7_unposts 47 = .ok (.if_icmp .ge 9, 3) := by decide +kernel
theorem dX7_unposts_50 : decode cX7_unposts 50 = .ok (.sipush 131, 3) := by decide +kernel
theorem dX7_unposts_53 : decode cX7_unposts 53 = .ok (.goto 6, 3) := by decide +kernel
theorem dX7_unposts_56 : decode cX7_unposts 56 = .ok (.sipush 155, 3) := by decide +kernel
theorem dX7_unposts_59 : decode cX7_unposts 59 = .ok (.iload_n 2, 1) := by decide +kernel
theorem dX7_unposts_60 : decode cX7_unposts 60 = .ok (.iadd, 1) := by decide +kernel
theorem dX7_unposts_61 : decode cX7_unposts 61 = .ok (.dup2, 1) := by decide +kernel
theorem dX7_unposts_62 : decode cX7_unposts 62 = .ok (.iaload, 1) := by decide +kernel
theorem dX7_unposts_63 : decode cX7_unposts 63 = .ok (.iconst 1, 1) := by decide +kernel
theorem dX7_unposts_64 : decode cX7_unposts 64 = .ok (.iload_n 1, 1) := by decide +kernel
theorem dX7_unposts_65 : decode cX7_unposts 65 = .ok (.bipush 20, 2) := by decide +kernel
theorem dX7_unposts_67 : decode cX7_unposts 67 = .ok (.irem, 1) := by decide +kernel
theorem dX7_unposts_68 : decode cX7_unposts 68 = .ok (.ishl, 1) := by decide +kernel
theorem dX7_unposts_69 : decode cX7_unposts 69 = .ok (.iconst (-1), 1) := by decide +kernel
theorem dX7_unposts_70 : decode cX7_unposts 70 = .ok (.ixor, 1) := by decide +kernel
theorem dX7_unposts_71 : decode cX7_unposts 71 = .ok (.iand, 1) := by decide +kernel
theorem dX7_unposts_72 : decode cX7_unposts 72 = .ok (.iastore, 1) := by decide +kernel
theorem dX7_unposts_73 : decode cX7_unposts 73 = .ok (.aload_n 0, 1) := by decide +kernel
theorem dX7_unposts_74 : decode cX7_unposts 74 = .ok (.aload_n 0, 1) := by decide +kernel
theorem dX7_unposts_75 : decode cX7_unposts 75 = .ok (.iconst 0, 1) := by decide +kernel
theorem dX7_unposts_76 : decode cX7_unposts 76 = .ok (.iload_n 2, 1) := by decide +kernel
theorem dX7_unposts_77 : decode cX7_unposts 77 = .ok (.invokevirtual 283, 3) := by decide +kernel
theorem dX7_unposts_80 : decode cX7_unposts 80 = .ok (.invokevirtual 213, 3) := by decide +kernel
theorem dX7_unposts_83 : decode cX7_unposts 83 = .ok (.ireturn, 1) := by decide +kernel
theorem dX7_laysNext_0 : decode cX7_laysNext 0 = .ok (.iload_n 2, 1) := by decide +kernel
theorem dX7_laysNext_1 : decode cX7_laysNext 1 = .ok (.ifCond .eq 12, 3) := by decide +kernel
theorem dX7_laysNext_4 : decode cX7_laysNext 4 = .ok (.aload_n 0, 1) := by decide +kernel
theorem dX7_laysNext_5 : decode cX7_laysNext 5 = .ok (.iconst 0, 1) := by decide +kernel
theorem dX7_laysNext_6 : decode cX7_laysNext 6 = .ok (.iload_n 1, 1) := by decide +kernel
theorem dX7_laysNext_7 : decode cX7_laysNext 7 = .ok (.invokevirtual 166, 3) := by decide +kernel
theorem dX7_laysNext_10 : decode cX7_laysNext 10 = .ok (.goto 6, 3) := by decide +kernel
theorem dX7_laysNext_13 : decode cX7_laysNext 13 = .ok (.iconst 1, 1) := by decide +kernel
theorem dX7_laysNext_14 : decode cX7_laysNext 14 = .ok (.iload_n 1, 1) := by decide +kernel
theorem dX7_laysNext_15 : decode cX7_laysNext 15 = .ok (.ishl, 1) := by decide +kernel
theorem dX7_laysNext_16 : decode cX7_laysNext 16 = .ok (.istore_n 3, 1) := by decide +kernel
theorem dX7_laysNext_17 : decode cX7_laysNext 17 = .ok (.aload_n 0, 1) := by decide +kernel
theorem dX7_laysNext_18 : decode cX7_laysNext 18 = .ok (.iconst 0, 1) := by decide +kernel
theorem dX7_laysNext_19 : decode cX7_laysNext 19 = .ok (.putfield 289, 3) := by decide +kernel
theorem dX7_laysNext_22 : decode cX7_laysNext 22 = .ok (.aload_n 0, 1) := by decide +kernel
theorem dX7_laysNext_23 : decode cX7_laysNext 23 = .ok (.iconst 0, 1) := by decide +kernel
theorem dX7_laysNext_24 : decode cX7_laysNext 24 = .ok (.putfield 292, 3) := by decide +kernel
theorem dX7_laysNext_27 : decode cX7_laysNext 27 = .ok (.iconst 0, 1) := by decide +kernel
theorem dX7_laysNext_28 : decode cX7_laysNext 28 = .ok (.istore 4, 2) := by decide +kernel
theorem dX7_laysNext_30 : decode cX7_laysNext 30 = .ok (.iload 4, 2) := by decide +kernel
theorem dX7_laysNext_32 : decode cX7_laysNext 32 = .ok (.bipush 24, 2) := by decide +kernel
theorem dX7_laysNext_34 : decode cX7_laysNext 34 = .ok (.if_icmp .ge 58, 3) := by decide +kernel
theorem dX7_laysNext_37 : decode cX7_laysNext 37 = .ok (.iload_n 3, 1) := by decide +kernel
theorem dX7_laysNext_38 : decode cX7_laysNext 38 = .ok (.iload 4, 2) := by decide +kernel
theorem dX7_laysNext_40 : decode cX7_laysNext 40 = .ok (.invokestatic 133, 3) := by decide +kernel
theorem dX7_laysNext_43 : decode cX7_laysNext 43 = .ok (.ifCond .eq 43, 3) := by decide +kernel
theorem dX7_laysNext_46 : decode cX7_laysNext 46 = .ok (.aload_n 0, 1) := by decide +kernel
theorem dX7_laysNext_47 : decode cX7_laysNext 47 = .ok (.dup, 1) := by decide +kernel
theorem dX7_laysNext_48 : decode cX7_laysNext 48 = .ok (.getfield 289, 3) := by decide +kernel
theorem dX7_laysNext_51 : decode cX7_laysNext 51 = .ok (.aload_n 0, 1) := by decide +kernel
theorem dX7_laysNext_52 : decode cX7_laysNext 52 = .ok (.getfield 71, 3) := by decide +kernel
theorem dX7_laysNext_55 : decode cX7_laysNext 55 = .ok (.sipush 131, 3) := by decide +kernel
theorem dX7_laysNext_58 : decode cX7_laysNext 58 = .ok (.iload 4, 2) := by decide +kernel
theorem dX7_laysNext_60 : decode cX7_laysNext 60 = .ok (.iadd, 1) := by decide +kernel
theorem dX7_laysNext_61 : decode cX7_laysNext 61 = .ok (.iaload, 1) := by decide +kernel
theorem dX7_laysNext_62 : decode cX7_laysNext 62 = .ok (.ior, 1) := by decide +kernel
theorem dX7_laysNext_63 : decode cX7_laysNext 63 = .ok (.putfield 289, 3) := by decide +kernel
theorem dX7_laysNext_66 : decode cX7_laysNext 66 = .ok (.aload_n 0, 1) := by decide +kernel
theorem dX7_laysNext_67 : decode cX7_laysNext 67 = .ok (.dup, 1) := by decide +kernel
theorem dX7_laysNext_68 : decode cX7_laysNext 68 = .ok (.getfield 292, 3) := by decide +kernel
theorem dX7_laysNext_71 : decode cX7_laysNext 71 = .ok (.aload_n 0, 1) := by decide +kernel
theorem dX7_laysNext_72 : decode cX7_laysNext 72 = .ok (.getfield 71, 3) := by decide +kernel
theorem dX7_laysNext_75 : decode cX7_laysNext 75 = .ok (.sipush 155, 3) := by decide +kernel
theorem dX7_laysNext_78 : decode cX7_laysNext 78 = .ok (.iload 4, 2) := by decide +kernel
theorem dX7_laysNext_80 : decode cX7_laysNext 80 = .ok (.iadd, 1) := by decide +kernel
theorem dX7_laysNext_81 : decode cX7_laysNext 81 = .ok (.iaload, 1) := by decide +kernel
theorem dX7_laysNext_82 : decode cX7_laysNext 82 = .ok (.ior, 1) := by decide +kernel
theorem dX7_laysNext_83 : decode cX7_laysNext 83 = .ok (.putfield 292, 3) := by decide +kernel
theorem dX7_laysNext_86 : decode cX7_laysNext 86 = .ok (.iinc 4 1, 3) := by decide +kernel
theorem dX7_laysNext_89 : decode cX7_laysNext 89 = .ok (.goto (-59), 3) := by decide +kernel
theorem dX7_laysNext_92 : decode cX7_laysNext 92 = .ok (.return_, 1) := by decide +kernel
