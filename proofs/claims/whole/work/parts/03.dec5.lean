theorem dX8_nearest_156 : decode cX8_nearest 156 = .ok (.iastore, 1) := by decide +kernel
theorem dX8_nearest_157 : decode cX8_nearest 157 = .ok (.aload_n 0, 1) := by decide +kernel
theorem dX8_nearest_158 : decode cX8_nearest 158 = .ok (.getfield 71, 3) := by decide +kernel
theorem dX8_nearest_161 : decode cX8_nearest 161 = .ok (.iload 5, 2) := by decide +kernel
theorem dX8_nearest_163 : decode cX8_nearest 163 = .ok (.aload_n 0, 1) := by decide +kernel
theorem dX8_nearest_164 : decode cX8_nearest 164 = .ok (.getfield 71, 3) := by decide +kernel
theorem dX8_nearest_167 : decode cX8_nearest 167 = .ok (.aload_n 0, 1) := by decide +kernel
theorem dX8_nearest_168 : decode cX8_nearest 168 = .ok (.getfield 241, 3) := by decide +kernel
theorem dX8_nearest_171 : decode cX8_nearest 171 = .ok (.iaload, 1) := by decide +kernel
theorem dX8_nearest_172 : decode cX8_nearest 172 = .ok (.iastore, 1) := by decide +kernel
theorem dX8_nearest_173 : decode cX8_nearest 173 = .ok (.iload 7, 2) := by decide +kernel
theorem dX8_nearest_175 : decode cX8_nearest 175 = .ok (.ifCond .ge 40, 3) := by decide +kernel
theorem dX8_nearest_178 : decode cX8_nearest 178 = .ok (.iload 4, 2) := by decide +kernel
theorem dX8_nearest_180 : decode cX8_nearest 180 = .ok (.ifCond .ne 29, 3) := by decide +kernel
theorem dX8_nearest_183 : decode cX8_nearest 183 = .ok (.aload_n 0, 1) := by decide +kernel
theorem dX8_nearest_184 : decode cX8_nearest 184 = .ok (.iconst 1, 1) := by decide +kernel
theorem dX8_nearest_185 : decode cX8_nearest 185 = .ok (.putfield 247, 3) := by decide +kernel
theorem dX8_nearest_188 : decode cX8_nearest 188 = .ok (.aload_n 0, 1) := by decide +kernel
theorem dX8_nearest_189 : decode cX8_nearest 189 = .ok (.aload_n 0, 1) := by decide +kernel
theorem dX8_nearest_190 : decode cX8_nearest 190 = .ok (.iconst (-1), 1) := by decide +kernel
theorem dX8_nearest_191 : decode cX8_nearest 191 = .ok (.iload 6, 2) := by decide +kernel
theorem dX8_nearest_193 : decode cX8_nearest 193 = .ok (.iload_n 1, 1) := by decide +kernel
theorem dX8_nearest_194 : decode cX8_nearest 194 = .ok (.iload_n 2, 1) := by decide +kernel
theorem dX8_nearest_195 : decode cX8_nearest 195 = .ok (.invokevirtual 228, 3) := by decide +kernel
theorem dX8_nearest_198 : decode cX8_nearest 198 = .ok (.putfield 250, 3) := by decide +kernel
theorem dX8_nearest_201 : decode cX8_nearest 201 = .ok (.aload_n 0, 1) := by decide +kernel
theorem dX8_nearest_202 : decode cX8_nearest 202 = .ok (.getfield 13, 3) := by decide +kernel
theorem dX8_nearest_205 : decode cX8_nearest 205 = .ok (.iload 6, 2) := by decide +kernel
theorem dX8_nearest_207 : decode cX8_nearest 207 = .ok (.iaload, 1) := by decide +kernel
theorem dX8_nearest_208 : decode cX8_nearest 208 = .ok (.ireturn, 1) := by decide +kernel
theorem dX8_nearest_209 : decode cX8_nearest 209 = .ok (.iinc 4 (-1), 3) := by decide +kernel
theorem dX8_nearest_212 : decode cX8_nearest 212 = .ok (.goto 74, 3) := by decide +kernel
theorem dX8_nearest_215 : decode cX8_nearest 215 = .ok (.aload_n 0, 1) := by decide +kernel
theorem dX8_nearest_216 : decode cX8_nearest 216 = .ok (.dup, 1) := by decide +kernel
theorem dX8_nearest_217 : decode cX8_nearest 217 = .ok (.getfield 238, 3) := by decide +kernel
theorem dX8_nearest_220 : decode cX8_nearest 220 = .ok (.iconst 1, 1) := by decide +kernel
theorem dX8_nearest_221 : decode cX8_nearest 221 = .ok (.iadd, 1) := by decide +kernel
theorem dX8_nearest_222 : decode cX8_nearest 222 = .ok (.putfield 238, 3) := by decide +kernel
theorem dX8_nearest_225 : decode cX8_nearest 225 = .ok (.iconst 0, 1) := by decide +kernel
theorem dX8_nearest_226 : decode cX8_nearest 226 = .ok (.istore 8, 2) := by decide +kernel
theorem dX8_nearest_228 : decode cX8_nearest 228 = .ok (.iload 8, 2) := by decide +kernel
theorem dX8_nearest_230 : decode cX8_nearest 230 = .ok (.aload_n 0, 1) := by decide +kernel
theorem dX8_nearest_231 : decode cX8_nearest 231 = .ok (.getfield 23, 3) := by decide +kernel
theorem dX8_nearest_234 : decode cX8_nearest 234 = .ok (.iload 6, 2) := by decide +kernel
theorem dX8_nearest_236 : decode cX8_nearest 236 = .ok (.iaload, 1) := by decide +kernel
theorem dX8_nearest_237 : decode cX8_nearest 237 = .ok (.if_icmp .ge 49, 3) := by decide +kernel
theorem dX8_nearest_240 : decode cX8_nearest 240 = .ok (.aload_n 0, 1) := by decide +kernel
theorem dX8_nearest_241 : decode cX8_nearest 241 = .ok (.getfield 68, 3) := by decide +kernel
theorem dX8_nearest_244 : decode cX8_nearest 244 = .ok (.aload_n 0, 1) := by decide +kernel
theorem dX8_nearest_245 : decode cX8_nearest 245 = .ok (.getfield 241, 3) := by decide +kernel
theorem dX8_nearest_248 : decode cX8_nearest 248 = .ok (.aload_n 0, 1) := by decide +kernel
theorem dX8_nearest_249 : decode cX8_nearest 249 = .ok (.iload 6, 2) := by decide +kernel
theorem dX8_nearest_251 : decode cX8_nearest 251 = .ok (.iload 8, 2) := by decide +kernel
theorem dX8_nearest_253 : decode cX8_nearest 253 = .ok (.invokevirtual 115, 3) := by decide +kernel
theorem dX8_nearest_256 : decode cX8_nearest 256 = .ok (.iastore, 1) := by decide +kernel
theorem dX8_nearest_257 : decode cX8_nearest 257 = .ok (.aload_n 0, 1) := by decide +kernel
theorem dX8_nearest_258 : decode cX8_nearest 258 = .ok (.getfield 71, 3) := by decide +kernel
theorem dX8_nearest_261 : decode cX8_nearest 261 = .ok (.aload_n 0, 1) := by decide +kernel
theorem dX8_nearest_262 : decode cX8_nearest 262 = .ok (.getfield 241, 3) := by decide +kernel
theorem dX8_nearest_265 : decode cX8_nearest 265 = .ok (.iload 7, 2) := by decide +kernel
theorem dX8_nearest_267 : decode cX8_nearest 267 = .ok (.iconst 1, 1) := by decide +kernel
theorem dX8_nearest_268 : decode cX8_nearest 268 = .ok (.isub, 1) := by decide +kernel
theorem dX8_nearest_269 : decode cX8_nearest 269 = .ok (.iastore, 1) := by decide +kernel
theorem dX8_nearest_270 : decode cX8_nearest 270 = .ok (.aload_n 0, 1) := by decide +kernel
theorem dX8_nearest_271 : decode cX8_nearest 271 = .ok (.dup, 1) := by decide +kernel
theorem dX8_nearest_272 : decode cX8_nearest 272 = .ok (.getfield 241, 3) := by decide +kernel
theorem dX8_nearest_275 : decode cX8_nearest 275 = .ok (.iconst 1, 1) := by decide +kernel
theorem dX8_nearest_276 : decode cX8_nearest 276 = .ok (.iadd, 1) := by decide +kernel
theorem dX8_nearest_277 : decode cX8_nearest 277 = .ok (.putfield 241, 3) := by decide +kernel
theorem dX8_nearest_280 : decode cX8_nearest 280 = .ok (.iinc 8 1, 3) := by decide +kernel
theorem dX8_nearest_283 : decode cX8_nearest 283 = .ok (.goto (-55), 3) := by decide +kernel
theorem dX8_nearest_286 : decode cX8_nearest 286 = .ok (.goto (-216), 3) := by decide +kernel
theorem dX8_distance_0 : decode cX8_distance 0 = .ok (.aload_n 0, 1) := by decide +kernel
theorem dX8_distance_1 : decode cX8_distance 1 = .ok (.getfield 247, 3) := by decide +kernel
theorem dX8_distance_4 : decode cX8_distance 4 = .ok (.ifCond .eq 11, 3) := by decide +kernel
theorem dX8_distance_7 : decode cX8_distance 7 = .ok (.aload_n 0, 1) := by decide +kernel
theorem dX8_distance_8 : decode cX8_distance 8 = .ok (.getfield 250, 3) := by decide +kernel
theorem dX8_distance_11 : decode cX8_distance 11 = .ok (.l2i, 1) := by decide +kernel
theorem dX8_distance_12 : decode cX8_distance 12 = .ok (.goto 4, 3) := by decide +kernel
theorem dX8_distance_15 : decode cX8_distance 15 = .ok (.iconst (-1), 1) := by decide +kernel
theorem dX8_distance_16 : decode cX8_distance 16 = .ok (.ireturn, 1) := by decide +kernel
theorem dX8_pairs_0 : decode cX8_pairs 0 = .ok (.iconst 0, 1) := by decide +kernel
theorem dX8_pairs_1 : decode cX8_pairs 1 = .ok (.istore_n 1, 1) := by decide +kernel
theorem dX8_pairs_2 : decode cX8_pairs 2 = .ok (.iconst 0, 1) := by decide +kernel
theorem dX8_pairs_3 : decode cX8_pairs 3 = .ok (.istore_n 2, 1) := by decide +kernel
theorem dX8_pairs_4 : decode cX8_pairs 4 = .ok (.iload_n 2, 1) := by decide +kernel
theorem dX8_pairs_5 : decode cX8_pairs 5 = .ok (.sipush 400, 3) := by decide +kernel
theorem dX8_pairs_8 : decode cX8_pairs 8 = .ok (.if_icmp .ge 59, 3) := by decide +kernel
theorem dX8_pairs_11 : decode cX8_pairs 11 = .ok (.iconst 0, 1) := by decide +kernel
theorem dX8_pairs_12 : decode cX8_pairs 12 = .ok (.istore_n 3, 1) := by decide +kernel
theorem dX8_pairs_13 : decode cX8_pairs 13 = .ok (.iload_n 3, 1) := by decide +kernel
theorem dX8_pairs_14 : decode cX8_pairs 14 = .ok (.iload_n 2, 1) := by decide +kernel
theorem dX8_pairs_15 : decode cX8_pairs 15 = .ok (.if_icmp .ge 46, 3) := by decide +kernel
theorem dX8_pairs_18 : decode cX8_pairs 18 = .ok (.iload_n 1, 1) := by decide +kernel
theorem dX8_pairs_19 : decode cX8_pairs 19 = .ok (.aload_n 0, 1) := by decide +kernel
theorem dX8_pairs_20 : decode cX8_pairs 20 = .ok (.getfield 13, 3) := by decide +kernel
theorem dX8_pairs_23 : decode cX8_pairs 23 = .ok (.iload_n 2, 1) := by decide +kernel
theorem dX8_pairs_24 : decode cX8_pairs 24 = .ok (.iaload, 1) := by decide +kernel
theorem dX8_pairs_25 : decode cX8_pairs 25 = .ok (.ifCond .lt 27, 3) := by decide +kernel
theorem dX8_pairs_28 : decode cX8_pairs 28 = .ok (.aload_n 0, 1) := by decide +kernel
theorem dX8_pairs_29 : decode cX8_pairs 29 = .ok (.getfield 13, 3) := by decide +kernel
theorem dX8_pairs_32 : decode cX8_pairs 32 = .ok (.iload_n 3, 1) := by decide +kernel
theorem dX8_pairs_33 : decode cX8_pairs 33 = .ok (.iaload, 1) := by decide +kernel
theorem dX8_pairs_34 : decode cX8_pairs 34 = .ok (.ifCond .lt 18, 3) := by decide +kernel
theorem dX8_pairs_37 : decode cX8_pairs 37 = .ok (.aload_n 0, 1) := by decide +kernel
theorem dX8_pairs_38 : decode cX8_pairs 38 = .ok (.iconst (-1), 1) := by decide +kernel
theorem dX8_pairs_39 : decode cX8_pairs 39 = .ok (.iload_n 2, 1) := by decide +kernel
theorem dX8_pairs_40 : decode cX8_pairs 40 = .ok (.iconst (-1), 1) := by decide +kernel
theorem dX8_pairs_41 : decode cX8_pairs 41 = .ok (.iload_n 3, 1) := by decide +kernel
theorem dX8_pairs_42 : decode cX8_pairs 42 = .ok (.invokevirtual 254, 3) := by decide +kernel
theorem dX8_pairs_45 : decode cX8_pairs 45 = .ok (.ifCond .eq 7, 3) := by decide +kernel
theorem dX8_pairs_48 : decode cX8_pairs 48 = .ok (.iconst 1, 1) := by decide +kernel
theorem dX8_pairs_49 : decode cX8_pairs 49 = .ok (.goto 4, 3) := by decide +kernel
theorem dX8_pairs_52 : decode cX8_pairs 52 = .ok (.iconst 0, 1) := by decide +kernel
theorem dX8_pairs_53 : decode cX8_pairs 53 = .ok (.iadd, 1) := by decide +kernel
theorem dX8_pairs_54 : decode cX8_pairs 54 = .ok (.istore_n 1, 1) := by decide +kernel
theorem dX8_pairs_55 : decode cX8_pairs 55 = .ok (.iinc 3 1, 3) := by decide +kernel
theorem dX8_pairs_58 : decode cX8_pairs 58 = .ok (.goto (-45), 3) := by decide +kernel
theorem dX8_pairs_61 : decode cX8_pairs 61 = .ok (.iinc 2 1, 3) := by decide +kernel
theorem dX8_pairs_64 : decode cX8_pairs 64 = .ok (.goto (-60), 3) := by decide +kernel
theorem dX8_pairs_67 : decode cX8_pairs 67 = .ok (.iload_n 1, 1) := by decide +kernel
theorem dX8_pairs_68 : decode cX8_pairs 68 = .ok (.ireturn, 1) := by decide +kernel
theorem dX8_pairsOf_0 : decode cX8_pairsOf 0 = .ok (.iconst 1, 1) := by decide +kernel
theorem dX8_pairsOf_1 : decode cX8_pairsOf 1 = .ok (.istore_n 3, 1) := by decide +kernel
theorem dX8_pairsOf_2 : decode cX8_pairsOf 2 = .ok (.iconst 0, 1) := by decide +kernel
theorem dX8_pairsOf_3 : decode cX8_pairsOf 3 = .ok (.istore 4, 2) := by decide +kernel
theorem dX8_pairsOf_5 : decode cX8_pairsOf 5 = .ok (.aload_n 0, 1) := by decide +kernel
theorem dX8_pairsOf_6 : decode cX8_pairsOf 6 = .ok (.getfield 20, 3) := by decide +kernel
theorem dX8_pairsOf_9 : decode cX8_pairsOf 9 = .ok (.iload_n 1, 1) := by decide +kernel
theorem dX8_pairsOf_10 : decode cX8_pairsOf 10 = .ok (.iaload, 1) := by decide +kernel
theorem dX8_pairsOf_11 : decode cX8_pairsOf 11 = .ok (.ifCond .le 115, 3) := by decide +kernel
theorem dX8_pairsOf_14 : decode cX8_pairsOf 14 = .ok (.iload 4, 2) := by decide +kernel
theorem dX8_pairsOf_16 : decode cX8_pairsOf 16 = .ok (.aload_n 0, 1) := by decide +kernel
theorem dX8_pairsOf_17 : decode cX8_pairsOf 17 = .ok (.getfield 23, 3) := by decide +kernel
theorem dX8_pairsOf_20 : decode cX8_pairsOf 20 = .ok (.iload_n 1, 1) := by decide +kernel
theorem dX8_pairsOf_21 : decode cX8_pairsOf 21 = .ok (.iaload, 1) := by decide +kernel
theorem dX8_pairsOf_22 : decode cX8_pairsOf 22 = .ok (.if_icmp .ge 104, 3) := by decide +kernel
theorem dX8_pairsOf_25 : decode cX8_pairsOf 25 = .ok (.iload_n 1, 1) := by decide +kernel
theorem dX8_pairsOf_26 : decode cX8_pairsOf 26 = .ok (.iload_n 2, 1) := by decide +kernel
theorem dX8_pairsOf_27 : decode cX8_pairsOf 27 = .ok (.if_icmp .ne 8, 3) := by decide +kernel
theorem dX8_pairsOf_30 : decode cX8_pairsOf 30 = .ok (.iload 4, 2) := by decide +kernel
theorem dX8_pairsOf_32 : decode cX8_pairsOf 32 = .ok (.goto 4, 3) := by decide +kernel
theorem dX8_pairsOf_35 : decode cX8_pairsOf 35 = .ok (.iconst 0, 1) := by decide +kernel
theorem dX8_pairsOf_36 : decode cX8_pairsOf 36 = .ok (.istore 5, 2) := by decide +kernel
theorem dX8_pairsOf_38 : decode cX8_pairsOf 38 = .ok (.iload 5, 2) := by decide +kernel
theorem dX8_pairsOf_40 : decode cX8_pairsOf 40 = .ok (.aload_n 0, 1) := by decide +kernel
theorem dX8_pairsOf_41 : decode cX8_pairsOf 41 = .ok (.getfield 23, 3) := by decide +kernel
theorem dX8_pairsOf_44 : decode cX8_pairsOf 44 = .ok (.iload_n 2, 1) := by decide +kernel
theorem dX8_pairsOf_45 : decode cX8_pairsOf 45 = .ok (.iaload, 1) := by decide +kernel
theorem dX8_pairsOf_46 : decode cX8_pairsOf 46 = .ok (.if_icmp .ge 74, 3) := by decide +kernel
theorem dX8_pairsOf_49 : decode cX8_pairsOf 49 = .ok (.aload_n 0, 1) := by decide +kernel
theorem dX8_pairsOf_50 : decode cX8_pairsOf 50 = .ok (.iload_n 1, 1) := by decide +kernel
theorem dX8_pairsOf_51 : decode cX8_pairsOf 51 = .ok (.iload 4, 2) := by decide +kernel
theorem dX8_pairsOf_53 : decode cX8_pairsOf 53 = .ok (.invokevirtual 115, 3) := by decide +kernel
theorem dX8_pairsOf_56 : decode cX8_pairsOf 56 = .ok (.istore 6, 2) := by decide +kernel
theorem dX8_pairsOf_58 : decode cX8_pairsOf 58 = .ok (.aload_n 0, 1) := by decide +kernel
theorem dX8_pairsOf_59 : decode cX8_pairsOf 59 = .ok (.iload_n 2, 1) := by decide +kernel
theorem dX8_pairsOf_60 : decode cX8_pairsOf 60 = .ok (.iload 5, 2) := by decide +kernel
theorem dX8_pairsOf_62 : decode cX8_pairsOf 62 = .ok (.invokevirtual 115, 3) := by decide +kernel
theorem dX8_pairsOf_65 : decode cX8_pairsOf 65 = .ok (.istore 7, 2) := by decide +kernel
theorem dX8_pairsOf_67 : decode cX8_pairsOf 67 = .ok (.iload_n 3, 1) := by decide +kernel
theorem dX8_pairsOf_68 : decode cX8_pairsOf 68 = .ok (.iload 6, 2) := by decide +kernel
theorem dX8_pairsOf_70 : decode cX8_pairsOf 70 = .ok (.iload 7, 2) := by decide +kernel
theorem dX8_pairsOf_72 : decode cX8_pairsOf 72 = .ok (.if_icmp .eq 28, 3) := by decide +kernel
theorem dX8_pairsOf_75 : decode cX8_pairsOf 75 = .ok (.aload_n 0, 1) := by decide +kernel
theorem dX8_pairsOf_76 : decode cX8_pairsOf 76 = .ok (.aload_n 0, 1) := by decide +kernel
theorem dX8_pairsOf_77 : decode cX8_pairsOf 77 = .ok (.getfield 20, 3) := by decide +kernel
theorem dX8_pairsOf_80 : decode cX8_pairsOf 80 = .ok (.iload 6, 2) := by decide +kernel
theorem dX8_pairsOf_82 : decode cX8_pairsOf 82 = .ok (.iaload, 1) := by decide +kernel
theorem dX8_pairsOf_83 : decode cX8_pairsOf 83 = .ok (.iload 6, 2) := by decide +kernel
theorem dX8_pairsOf_85 : decode cX8_pairsOf 85 = .ok (.aload_n 0, 1) := by decide +kernel
theorem dX8_pairsOf_86 : decode cX8_pairsOf 86 = .ok (.getfield 20, 3) := by decide +kernel
theorem dX8_pairsOf_89 : decode cX8_pairsOf 89 = .ok (.iload 7, 2) := by decide +kernel
theorem dX8_pairsOf_91 : decode cX8_pairsOf 91 = .ok (.iaload, 1) := by decide +kernel
theorem dX8_pairsOf_92 : decode cX8_pairsOf 92 = .ok (.iload 7, 2) := by decide +kernel
theorem dX8_pairsOf_94 : decode cX8_pairsOf 94 = .ok (.invokevirtual 254, 3) := by decide +kernel
theorem dX8_pairsOf_97 : decode cX8_pairsOf 97 = .ok (.ifCond .eq 14, 3) := by decide +kernel
theorem dX8_pairsOf_100 : decode cX8_pairsOf 100 = .ok (.aload_n 0, 1) := by decide +kernel
theorem dX8_pairsOf_101 : decode cX8_pairsOf 101 = .ok (.iload 6, 2) := by decide +kernel
theorem dX8_pairsOf_103 : decode cX8_pairsOf 103 = .ok (.iload 7, 2) := by decide +kernel
theorem dX8_pairsOf_105 : decode cX8_pairsOf 105 = .ok (.invokevirtual 257, 3) := by decide +kernel
theorem dX8_pairsOf_108 : decode cX8_pairsOf 108 = .ok (.goto 4, 3) := by decide +kernel
theorem dX8_pairsOf_111 : decode cX8_pairsOf 111 = .ok (.iconst 0, 1) := by decide +kernel
theorem dX8_pairsOf_112 : decode cX8_pairsOf 112 = .ok (.iadd, 1) := by decide +kernel
theorem dX8_pairsOf_113 : decode cX8_pairsOf 113 = .ok (.istore_n 3, 1) := by decide +kernel
theorem dX8_pairsOf_114 : decode cX8_pairsOf 114 = .ok (.iinc 5 1, 3) := by decide +kernel
theorem dX8_pairsOf_117 : decode cX8_pairsOf 117 = .ok (.goto (-79), 3) := by decide +kernel
theorem dX8_pairsOf_120 : decode cX8_pairsOf 120 = .ok (.iinc 4 1, 3) := by decide +kernel
theorem dX8_pairsOf_123 : decode cX8_pairsOf 123 = .ok (.goto (-118), 3) := by decide +kernel
theorem dX8_pairsOf_126 : decode cX8_pairsOf 126 = .ok (.iload_n 3, 1) := by decide +kernel
theorem dX8_pairsOf_127 : decode cX8_pairsOf 127 = .ok (.ireturn, 1) := by decide +kernel
theorem dX8_visited_0 : decode cX8_visited 0 = .ok (.iload_n 1, 1) := by decide +kernel
theorem dX8_visited_1 : decode cX8_visited 1 = .ok (.tableswitch 61 0 2 #[27, 43, 48], 27) := by decide +kernel
theorem dX8_visited_28 : decode cX8_visited 28 = .ok (.aload_n 0, 1) := by decide +kernel
theorem dX8_visited_29 : decode cX8_visited 29 = .ok (.getfield 184, 3) := by decide +kernel
theorem dX8_visited_32 : decode cX8_visited 32 = .ok (.ifCond .eq 10, 3) := by decide +kernel
theorem dX8_visited_35 : decode cX8_visited 35 = .ok (.aload_n 0, 1) := by decide +kernel
theorem dX8_visited_36 : decode cX8_visited 36 = .ok (.getfield 212, 3) := by decide +kernel
theorem dX8_visited_39 : decode cX8_visited 39 = .ok (.goto 4, 3) := by decide +kernel
theorem dX8_visited_42 : decode cX8_visited 42 = .ok (.iconst (-1), 1) := by decide +kernel
theorem dX8_visited_43 : decode cX8_visited 43 = .ok (.ireturn, 1) := by decide +kernel
theorem dX8_visited_44 : decode cX8_visited 44 = .ok (.aload_n 0, 1) := by decide +kernel
theorem dX8_visited_45 : decode cX8_visited 45 = .ok (.getfield 238, 3) := by decide +kernel
theorem dX8_visited_48 : decode cX8_visited 48 = .ok (.ireturn, 1) := by decide +kernel
theorem dX8_visited_49 : decode cX8_visited 49 = .ok (.aload_n 0, 1) := by decide +kernel
theorem dX8_visited_50 : decode cX8_visited 50 = .ok (.aload_n 0, 1) := by decide +kernel
theorem dX8_visited_51 : decode cX8_visited 51 = .ok (.getfield 93, 3) := by decide +kernel
theorem dX8_visited_54 : decode cX8_visited 54 = .ok (.aload_n 0, 1) := by decide +kernel
theorem dX8_visited_55 : decode cX8_visited 55 = .ok (.getfield 93, 3) := by decide +kernel
theorem dX8_visited_58 : decode cX8_visited 58 = .ok (.invokevirtual 257, 3) := by decide +kernel
theorem dX8_visited_61 : decode cX8_visited 61 = .ok (.ireturn, 1) := by decide +kernel
theorem dX8_visited_62 : decode cX8_visited 62 = .ok (.iconst (-1), 1) := by decide +kernel
theorem dX8_visited_63 : decode cX8_visited 63 = .ok (.ireturn, 1) := by decide +kernel
theorem dX8_isPackedBefore_0 : decode cX8_isPackedBefore 0 = .ok (.aload_n 0, 1) := by decide +kernel
theorem dX8_isPackedBefore_1 : decode cX8_isPackedBefore 1 = .ok (.getfield 17, 3) := by decide +kernel
theorem dX8_isPackedBefore_4 : decode cX8_isPackedBefore 4 = .ok (.iconst 4, 1) := by decide +kernel
theorem dX8_isPackedBefore_5 : decode cX8_isPackedBefore 5 = .ok (.iload_n 1, 1) := by decide +kernel
theorem dX8_isPackedBefore_6 : decode cX8_isPackedBefore 6 = .ok (.imul, 1) := by decide +kernel
theorem dX8_isPackedBefore_7 : decode cX8_isPackedBefore 7 = .ok (.iaload, 1) := by decide +kernel
theorem dX8_isPackedBefore_8 : decode cX8_isPackedBefore 8 = .ok (.aload_n 0, 1) := by decide +kernel
theorem dX8_isPackedBefore_9 : decode cX8_isPackedBefore 9 = .ok (.getfield 17, 3) := by decide +kernel
theorem dX8_isPackedBefore_12 : decode cX8_isPackedBefore 12 = .ok (.iconst 4, 1) := by decide +kernel
theorem dX8_isPackedBefore_13 : decode cX8_isPackedBefore 13 = .ok (.iload_n 1, 1) := by decide +kernel
theorem dX8_isPackedBefore_14 : decode cX8_isPackedBefore 14 = .ok (.imul, 1) := by decide +kernel
theorem dX8_isPackedBefore_15 : decode cX8_isPackedBefore 15 = .ok (.iconst 2, 1) := by decide +kernel
theorem dX8_isPackedBefore_16 : decode cX8_isPackedBefore 16 = .ok (.iadd, 1) := by decide +kernel
theorem dX8_isPackedBefore_17 : decode cX8_isPackedBefore 17 = .ok (.iaload, 1) := by decide +kernel
theorem dX8_isPackedBefore_18 : decode cX8_isPackedBefore 18 = .ok (.iadd, 1) := by decide +kernel
theorem dX8_isPackedBefore_19 : decode cX8_isPackedBefore 19 = .ok (.istore 4, 2) := by decide +kernel
theorem dX8_isPackedBefore_21 : decode cX8_isPackedBefore 21 = .ok (.aload_n 0, 1) := by decide +kernel
theorem dX8_isPackedBefore_22 : decode cX8_isPackedBefore 22 = .ok (.getfield 17, 3) := by decide +kernel
theorem dX8_isPackedBefore_25 : decode cX8_isPackedBefore 25 = .ok (.iconst 4, 1) := by decide +kernel
theorem dX8_isPackedBefore_26 : decode cX8_isPackedBefore 26 = .ok (.iload_n 2, 1) := by decide +kernel
theorem dX8_isPackedBefore_27 : decode cX8_isPackedBefore 27 = .ok (.imul, 1) := by decide +kernel
theorem dX8_isPackedBefore_28 : decode cX8_isPackedBefore 28 = .ok (.iaload, 1) := by decide +kernel
theorem dX8_isPackedBefore_29 : decode cX8_isPackedBefore 29 = .ok (.aload_n 0, 1) := by decide +kernel
theorem dX8_isPackedBefore_30 : decode cX8_isPackedBefore 30 = .ok (.getfield 17, 3) := by decide +kernel
theorem dX8_isPackedBefore_33 : decode cX8_isPackedBefore 33 = .ok (.iconst 4, 1) := by decide +kernel
theorem dX8_isPackedBefore_34 : decode cX8_isPackedBefore 34 = .ok (.iload_n 2, 1) := by decide +kernel
theorem dX8_isPackedBefore_35 : decode cX8_isPackedBefore 35 = .ok (.imul, 1) := by decide +kernel
theorem dX8_isPackedBefore_36 : decode cX8_isPackedBefore 36 = .ok (.iconst 2, 1) := by decide +kernel
theorem dX8_isPackedBefore_37 : decode cX8_isPackedBefore 37 = .ok (.iadd, 1) := by decide +kernel
theorem dX8_isPackedBefore_38 : decode cX8_isPackedBefore 38 = .ok (.iaload, 1) := by decide +kernel
theorem dX8_isPackedBefore_39 : decode cX8_isPackedBefore 39 = .ok (.iadd, 1) := by decide +kernel
theorem dX8_isPackedBefore_40 : decode cX8_isPackedBefore 40 = .ok (.istore 5, 2) := by decide +kernel
theorem dX8_isPackedBefore_42 : decode cX8_isPackedBefore 42 = .ok (.aload_n 0, 1) := by decide +kernel
theorem dX8_isPackedBefore_43 : decode cX8_isPackedBefore 43 = .ok (.getfield 17, 3) := by decide +kernel
theorem dX8_isPackedBefore_46 : decode cX8_isPackedBefore 46 = .ok (.iconst 4, 1) := by decide +kernel
theorem dX8_isPackedBefore_47 : decode cX8_isPackedBefore 47 = .ok (.iload_n 1, 1) := by decide +kernel
theorem dX8_isPackedBefore_48 : decode cX8_isPackedBefore 48 = .ok (.imul, 1) := by decide +kernel
theorem dX8_isPackedBefore_49 : decode cX8_isPackedBefore 49 = .ok (.iconst 1, 1) := by decide +kernel
theorem dX8_isPackedBefore_50 : decode cX8_isPackedBefore 50 = .ok (.iadd, 1) := by decide +kernel
theorem dX8_isPackedBefore_51 : decode cX8_isPackedBefore 51 = .ok (.iaload, 1) := by decide +kernel
theorem dX8_isPackedBefore_52 : decode cX8_isPackedBefore 52 = .ok (.aload_n 0, 1) := by decide +kernel
theorem dX8_isPackedBefore_53 : decode cX8_isPackedBefore 53 = .ok (.getfield 17, 3) := by decide +kernel
theorem dX8_isPackedBefore_56 : decode cX8_isPackedBefore 56 = .ok (.iconst 4, 1) := by decide +kernel
theorem dX8_isPackedBefore_57 : decode cX8_isPackedBefore 57 = .ok (.iload_n 1, 1) := by decide +kernel
theorem dX8_isPackedBefore_58 : decode cX8_isPackedBefore 58 = .ok (.imul, 1) := by decide +kernel
theorem dX8_isPackedBefore_59 : decode cX8_isPackedBefore 59 = .ok (.iconst 3, 1) := by decide +kernel
theorem dX8_isPackedBefore_60 : decode cX8_isPackedBefore 60 = .ok (.iadd, 1) := by decide +kernel
theorem dX8_isPackedBefore_61 : decode cX8_isPackedBefore 61 = .ok (.iaload, 1) := by decide +kernel
theorem dX8_isPackedBefore_62 : decode cX8_isPackedBefore 62 = .ok (.iadd, 1) := by decide +kernel
theorem dX8_isPackedBefore_63 : decode cX8_isPackedBefore 63 = .ok (.istore 6, 2) := by decide +kernel
theorem dX8_isPackedBefore_65 : decode cX8_isPackedBefore 65 = .ok (.aload_n 0, 1) := by decide +kernel
theorem dX8_isPackedBefore_66 : decode cX8_isPackedBefore 66 = .ok (.getfield 17, 3) := by decide +kernel
theorem dX8_isPackedBefore_69 : decode cX8_isPackedBefore 69 = .ok (.iconst 4, 1) := by decide +kernel
theorem dX8_isPackedBefore_70 : decode cX8_isPackedBefore 70 = .ok (.iload_n 2, 1) := by decide +kernel
theorem dX8_isPackedBefore_71 : decode cX8_isPackedBefore 71 = .ok (.imul, 1) := by decide +kernel
theorem dX8_isPackedBefore_72 : decode cX8_isPackedBefore 72 = .ok (.iconst 1, 1) := by decide +kernel
theorem dX8_isPackedBefore_73 : decode cX8_isPackedBefore 73 = .ok (.iadd, 1) := by decide +kernel
theorem dX8_isPackedBefore_74 : decode cX8_isPackedBefore 74 = .ok (.iaload, 1) := by decide +kernel
theorem dX8_isPackedBefore_75 : decode cX8_isPackedBefore 75 = .ok (.aload_n 0, 1) := by decide +kernel
theorem dX8_isPackedBefore_76 : decode cX8_isPackedBefore 76 = .ok (.getfield 17, 3) := by decide +kernel
theorem dX8_isPackedBefore_79 : decode cX8_isPackedBefore 79 = .ok (.iconst 4, 1) := by decide +kernel
theorem dX8_isPackedBefore_80 : decode cX8_isPackedBefore 80 = .ok (.iload_n 2, 1) := by decide +kernel
theorem dX8_isPackedBefore_81 : decode cX8_isPackedBefore 81 = .ok (.imul, 1) := by decide +kernel
theorem dX8_isPackedBefore_82 : decode cX8_isPackedBefore 82 = .ok (.iconst 3, 1) := by decide +kernel
theorem dX8_isPackedBefore_83 : decode cX8_isPackedBefore 83 = .ok (.iadd, 1) := by decide +kernel
theorem dX8_isPackedBefore_84 : decode cX8_isPackedBefore 84 = .ok (.iaload, 1) := by decide +kernel
theorem dX8_isPackedBefore_85 : decode cX8_isPackedBefore 85 = .ok (.iadd, 1) := by decide +kernel
theorem dX8_isPackedBefore_86 : decode cX8_isPackedBefore 86 = .ok (.istore 7, 2) := by decide +kernel
theorem dX8_isPackedBefore_88 : decode cX8_isPackedBefore 88 = .ok (.iload_n 3, 1) := by decide +kernel
theorem dX8_isPackedBefore_89 : decode cX8_isPackedBefore 89 = .ok (.ifCond .eq 23, 3) := by decide +kernel
theorem dX8_isPackedBefore_92 : decode cX8_isPackedBefore 92 = .ok (.iload 6, 2) := by decide +kernel
theorem dX8_isPackedBefore_94 : decode cX8_isPackedBefore 94 = .ok (.iload 7, 2) := by decide +kernel
theorem dX8_isPackedBefore_96 : decode cX8_isPackedBefore 96 = .ok (.if_icmp .eq 16, 3) := by decide +kernel
theorem dX8_isPackedBefore_99 : decode cX8_isPackedBefore 99 = .ok (.iload 6, 2) := by decide +kernel
theorem dX8_isPackedBefore_101 : decode cX8_isPackedBefore 101 = .ok (.iload 7, 2) := by decide +kernel
theorem dX8_isPackedBefore_103 : decode cX8_isPackedBefore 103 = .ok (.if_icmp .ge 7, 3) := by decide +kernel
theorem dX8_isPackedBefore_106 : decode cX8_isPackedBefore 106 = .ok (.iconst 1, 1) := by decide +kernel
theorem dX8_isPackedBefore_107 : decode cX8_isPackedBefore 107 = .ok (.goto 4, 3) := by decide +kernel
theorem dX8_isPackedBefore_110 : decode cX8_isPackedBefore 110 = .ok (.iconst 0, 1) := by decide +kernel
theorem dX8_isPackedBefore_111 : decode cX8_isPackedBefore 111 = .ok (.ireturn, 1) := by decide +kernel
theorem dX8_isPackedBefore_112 : decode cX8_isPackedBefore 112 = .ok (.iload 4, 2) := by decide +kernel
theorem dX8_isPackedBefore_114 : decode cX8_isPackedBefore 114 = .ok (.iload 5, 2) := by decide +kernel
theorem dX8_isPackedBefore_116 : decode cX8_isPackedBefore 116 = .ok (.if_icmp .eq 18, 3) := by decide +kernel
theorem dX8_isPackedBefore_119 : decode cX8_isPackedBefore 119 = .ok (.iload 4, 2) := by decide +kernel
theorem dX8_isPackedBefore_121 : decode cX8_isPackedBefore 121 = .ok (.iload 5, 2) := by decide +kernel
theorem dX8_isPackedBefore_123 : decode cX8_isPackedBefore 123 = .ok (.if_icmp .ge 7, 3) := by decide +kernel
theorem dX8_isPackedBefore_126 : decode cX8_isPackedBefore 126 = .ok (.iconst 1, 1) := by decide +kernel
theorem dX8_isPackedBefore_127 : decode cX8_isPackedBefore 127 = .ok (.goto 35, 3) := by decide +kernel
theorem dX8_isPackedBefore_130 : decode cX8_isPackedBefore 130 = .ok (.iconst 0, 1) := by decide +kernel
theorem dX8_isPackedBefore_131 : decode cX8_isPackedBefore 131 = .ok (.goto 31, 3) := by decide +kernel
theorem dX8_isPackedBefore_134 : decode cX8_isPackedBefore 134 = .ok (.iload 6, 2) := by decide +kernel
theorem dX8_isPackedBefore_136 : decode cX8_isPackedBefore 136 = .ok (.iload 7, 2) := by decide +kernel
theorem dX8_isPackedBefore_138 : decode cX8_isPackedBefore 138 = .ok (.if_icmp .eq 18, 3) := by decide +kernel
theorem dX8_isPackedBefore_141 : decode cX8_isPackedBefore 141 = .ok (.iload 6, 2) := by decide +kernel
theorem dX8_isPackedBefore_143 : decode cX8_isPackedBefore 143 = .ok (.iload 7, 2) := by decide +kernel
theorem dX8_isPackedBefore_145 : decode cX8_isPackedBefore 145 = .ok (.if_icmp .ge 7, 3) := by decide +kernel
theorem dX8_isPackedBefore_148 : decode cX8_isPackedBefore 148 = .ok (.iconst 1, 1) := by decide +kernel
theorem dX8_isPackedBefore_149 : decode cX8_isPackedBefore 149 = .ok (.goto 13, 3) := by decide +kernel
theorem dX8_isPackedBefore_152 : decode cX8_isPackedBefore 152 = .ok (.iconst 0, 1) := by decide +kernel
theorem dX8_isPackedBefore_153 : decode cX8_isPackedBefore 153 = .ok (.goto 9, 3) := by decide +kernel
theorem dX8_isPackedBefore_156 : decode cX8_isPackedBefore 156 = .ok (.aload_n 0, 1) := by decide +kernel
theorem dX8_isPackedBefore_157 : decode cX8_isPackedBefore 157 = .ok (.iload_n 1, 1) := by decide +kernel
theorem dX8_isPackedBefore_158 : decode cX8_isPackedBefore 158 = .ok (.iload_n 2, 1) := by decide +kernel
theorem dX8_isPackedBefore_159 : decode cX8_isPackedBefore 159 = .ok (.invokevirtual 231, 3) := by decide +kernel
theorem dX8_isPackedBefore_162 : decode cX8_isPackedBefore 162 = .ok (.ireturn, 1) := by decide +kernel
theorem dX8_sort_0 : decode cX8_sort 0 = .ok (.iload_n 1, 1) := by decide +kernel
theorem dX8_sort_1 : decode cX8_sort 1 = .ok (.istore 4, 2) := by decide +kernel
theorem dX8_sort_3 : decode cX8_sort 3 = .ok (.iload 4, 2) := by decide +kernel
theorem dX8_sort_5 : decode cX8_sort 5 = .ok (.iload_n 2, 1) := by decide +kernel
theorem dX8_sort_6 : decode cX8_sort 6 = .ok (.if_icmp .ge 78, 3) := by decide +kernel
theorem dX8_sort_9 : decode cX8_sort 9 = .ok (.aload_n 0, 1) := by decide +kernel
theorem dX8_sort_10 : decode cX8_sort 10 = .ok (.getfield 77, 3) := by decide +kernel
theorem dX8_sort_13 : decode cX8_sort 13 = .ok (.iload 4, 2) := by decide +kernel
theorem dX8_sort_15 : decode cX8_sort 15 = .ok (.iaload, 1) := by decide +kernel
theorem dX8_sort_16 : decode cX8_sort 16 = .ok (.istore 5, 2) := by decide +kernel
theorem dX8_sort_18 : decode cX8_sort 18 = .ok (.iload 4, 2) := by decide +kernel
theorem dX8_sort_20 : decode cX8_sort 20 = .ok (.istore 6, 2) := by decide +kernel
theorem dX8_sort_22 : decode cX8_sort 22 = .ok (.iload 6, 2) := by decide +kernel
theorem dX8_sort_24 : decode cX8_sort 24 = .ok (.iload_n 1, 1) := by decide +kernel
theorem dX8_sort_25 : decode cX8_sort 25 = .ok (.if_icmp .le 44, 3) := by decide +kernel
theorem dX8_sort_28 : decode cX8_sort 28 = .ok (.aload_n 0, 1) := by decide +kernel
theorem dX8_sort_29 : decode cX8_sort 29 = .ok (.iload 5, 2) := by decide +kernel
theorem dX8_sort_31 : decode cX8_sort 31 = .ok (.aload_n 0, 1) := by decide +kernel
theorem dX8_sort_32 : decode cX8_sort 32 = .ok (.getfield 77, 3) := by decide +kernel
theorem dX8_sort_35 : decode cX8_sort 35 = .ok (.iload 6, 2) := by decide +kernel
theorem dX8_sort_37 : decode cX8_sort 37 = .ok (.iconst 1, 1) := by decide +kernel
theorem dX8_sort_38 : decode cX8_sort 38 = .ok (.isub, 1) := by decide +kernel
theorem dX8_sort_39 : decode cX8_sort 39 = .ok (.iaload, 1) := by decide +kernel
theorem dX8_sort_40 : decode cX8_sort 40 = .ok (.iload_n 3, 1) := by decide +kernel
theorem dX8_sort_41 : decode cX8_sort 41 = .ok (.invokevirtual 260, 3) := by decide +kernel
theorem dX8_sort_44 : decode cX8_sort 44 = .ok (.ifCond .eq 25, 3) := by decide +kernel
theorem dX8_sort_47 : decode cX8_sort 47 = .ok (.aload_n 0, 1) := by decide +kernel
theorem dX8_sort_48 : decode cX8_sort 48 = .ok (.getfield 77, 3) := by decide +kernel
theorem dX8_sort_51 : decode cX8_sort 51 = .ok (.iload 6, 2) := by decide +kernel
theorem dX8_sort_53 : decode cX8_sort 53 = .ok (.aload_n 0, 1) := by decide +kernel
theorem dX8_sort_54 : decode cX8_sort 54 = .ok (.getfield 77, 3) := by decide +kernel
theorem dX8_sort_57 : decode cX8_sort 57 = .ok (.iload 6, 2) := by decide +kernel
theorem dX8_sort_59 : decode cX8_sort 59 = .ok (.iconst 1, 1) := by decide +kernel
theorem dX8_sort_60 : decode cX8_sort 60 = .ok (.isub, 1) := by decide +kernel
theorem dX8_sort_61 : decode cX8_sort 61 = .ok (.iaload, 1) := by decide +kernel
theorem dX8_sort_62 : decode cX8_sort 62 = .ok (.iastore, 1) := by decide +kernel
theorem dX8_sort_63 : decode cX8_sort 63 = .ok (.iinc 6 (-1), 3) := by decide +kernel
theorem dX8_sort_66 : decode cX8_sort 66 = .ok (.goto (-44), 3) := by decide +kernel
theorem dX8_sort_69 : decode cX8_sort 69 = .ok (.aload_n 0, 1) := by decide +kernel
theorem dX8_sort_70 : decode cX8_sort 70 = .ok (.getfield 77, 3) := by decide +kernel
theorem dX8_sort_73 : decode cX8_sort 73 = .ok (.iload 6, 2) := by decide +kernel
theorem dX8_sort_75 : decode cX8_sort 75 = .ok (.iload 5, 2) := by decide +kernel
theorem dX8_sort_77 : decode cX8_sort 77 = .ok (.iastore, 1) := by decide +kernel
theorem dX8_sort_78 : decode cX8_sort 78 = .ok (.iinc 4 1, 3) := by decide +kernel
theorem dX8_sort_81 : decode cX8_sort 81 = .ok (.goto (-78), 3) := by decide +kernel
theorem dX8_sort_84 : decode cX8_sort 84 = .ok (.return_, 1) := by decide +kernel
theorem dX8_pack_0 : decode cX8_pack 0 = .ok (.aload_n 0, 1) := by decide +kernel
theorem dX8_pack_1 : decode cX8_pack 1 = .ok (.iconst 0, 1) := by decide +kernel
theorem dX8_pack_2 : decode cX8_pack 2 = .ok (.putfield 184, 3) := by decide +kernel
theorem dX8_pack_5 : decode cX8_pack 5 = .ok (.iconst 0, 1) := by decide +kernel
theorem dX8_pack_6 : decode cX8_pack 6 = .ok (.istore_n 1, 1) := by decide +kernel
theorem dX8_pack_7 : decode cX8_pack 7 = .ok (.iconst 0, 1) := by decide +kernel
theorem dX8_pack_8 : decode cX8_pack 8 = .ok (.istore_n 2, 1) := by decide +kernel
theorem dX8_pack_9 : decode cX8_pack 9 = .ok (.iload_n 2, 1) := by decide +kernel
theorem dX8_pack_10 : decode cX8_pack 10 = .ok (.sipush 400, 3) := by decide +kernel
theorem dX8_pack_13 : decode cX8_pack 13 = .ok (.if_icmp .ge 28, 3) := by decide +kernel
theorem dX8_pack_16 : decode cX8_pack 16 = .ok (.aload_n 0, 1) := by decide +kernel
theorem dX8_pack_17 : decode cX8_pack 17 = .ok (.getfield 13, 3) := by decide +kernel
theorem dX8_pack_20 : decode cX8_pack 20 = .ok (.iload_n 2, 1) := by decide +kernel
theorem dX8_pack_21 : decode cX8_pack 21 = .ok (.iaload, 1) := by decide +kernel
theorem dX8_pack_22 : decode cX8_pack 22 = .ok (.ifCond .lt 13, 3) := by decide +kernel
theorem dX8_pack_25 : decode cX8_pack 25 = .ok (.aload_n 0, 1) := by decide +kernel
theorem dX8_pack_26 : decode cX8_pack 26 = .ok (.getfield 77, 3) := by decide +kernel
theorem dX8_pack_29 : decode cX8_pack 29 = .ok (.iload_n 1, 1) := by decide +kernel
theorem dX8_pack_30 : decode cX8_pack 30 = .ok (.iload_n 2, 1) := by decide +kernel
theorem dX8_pack_31 : decode cX8_pack 31 = .ok (.iastore, 1) := by decide +kernel
theorem dX8_pack_32 : decode cX8_pack 32 = .ok (.iinc 1 1, 3) := by decide +kernel
theorem dX8_pack_35 : decode cX8_pack 35 = .ok (.iinc 2 1, 3) := by decide +kernel
theorem dX8_pack_38 : decode cX8_pack 38 = .ok (.goto (-29), 3) := by decide +kernel
theorem dX8_pack_41 : decode cX8_pack 41 = .ok (.iconst 0, 1) := by decide +kernel
theorem dX8_pack_42 : decode cX8_pack 42 = .ok (.istore_n 2, 1) := by decide +kernel
theorem dX8_pack_43 : decode cX8_pack 43 = .ok (.iload_n 2, 1) := by decide +kernel
theorem dX8_pack_44 : decode cX8_pack 44 = .ok (.sipush 500, 3) := by decide +kernel
theorem dX8_pack_47 : decode cX8_pack 47 = .ok (.if_icmp .ge 17, 3) := by decide +kernel
theorem dX8_pack_50 : decode cX8_pack 50 = .ok (.aload_n 0, 1) := by decide +kernel
theorem dX8_pack_51 : decode cX8_pack 51 = .ok (.getfield 20, 3) := by decide +kernel
theorem dX8_pack_54 : decode cX8_pack 54 = .ok (.iload_n 2, 1) := by decide +kernel
theorem dX8_pack_55 : decode cX8_pack 55 = .ok (.bipush (-2), 2) := by decide +kernel
theorem dX8_pack_57 : decode cX8_pack 57 = .ok (.iastore, 1) := by decide +kernel
theorem dX8_pack_58 : decode cX8_pack 58 = .ok (.iinc 2 1, 3) := by decide +kernel
theorem dX8_pack_61 : decode cX8_pack 61 = .ok (.goto (-18), 3) := by decide +kernel
theorem dX8_pack_64 : decode cX8_pack 64 = .ok (.iload_n 1, 1) := by decide +kernel
theorem dX8_pack_65 : decode cX8_pack 65 = .ok (.ifCond .ne 14, 3) := by decide +kernel
theorem dX8_pack_68 : decode cX8_pack 68 = .ok (.aload_n 0, 1) := by decide +kernel
theorem dX8_pack_69 : decode cX8_pack 69 = .ok (.aload_n 0, 1) := by decide +kernel
theorem dX8_pack_70 : decode cX8_pack 70 = .ok (.iconst 0, 1) := by decide +kernel
theorem dX8_pack_71 : decode cX8_pack 71 = .ok (.invokevirtual 89, 3) := by decide +kernel
theorem dX8_pack_74 : decode cX8_pack 74 = .ok (.putfield 93, 3) := by decide +kernel
theorem dX8_pack_77 : decode cX8_pack 77 = .ok (.iconst 1, 1) := by decide +kernel
theorem dX8_pack_78 : decode cX8_pack 78 = .ok (.ireturn, 1) := by decide +kernel
theorem dX8_pack_79 : decode cX8_pack 79 = .ok (.aload_n 0, 1) := by decide +kernel
theorem dX8_pack_80 : decode cX8_pack 80 = .ok (.iconst 0, 1) := by decide +kernel
theorem dX8_pack_81 : decode cX8_pack 81 = .ok (.iload_n 1, 1) := by decide +kernel
theorem dX8_pack_82 : decode cX8_pack 82 = .ok (.iconst 0, 1) := by decide +kernel
theorem dX8_pack_83 : decode cX8_pack 83 = .ok (.invokevirtual 264, 3) := by decide +kernel
theorem dX8_pack_86 : decode cX8_pack 86 = .ok (.iload_n 1, 1) := by decide +kernel
theorem dX8_pack_87 : decode cX8_pack 87 = .ok (.aload_n 0, 1) := by decide +kernel
theorem dX8_pack_88 : decode cX8_pack 88 = .ok (.getfield 83, 3) := by decide +kernel
theorem dX8_pack_91 : decode cX8_pack 91 = .ok (.iadd, 1) := by decide +kernel
theorem dX8_pack_92 : decode cX8_pack 92 = .ok (.iconst 1, 1) := by decide +kernel
theorem dX8_pack_93 : decode cX8_pack 93 = .ok (.isub, 1) := by decide +kernel
theorem dX8_pack_94 : decode cX8_pack 94 = .ok (.aload_n 0, 1) := by decide +kernel
theorem dX8_pack_95 : decode cX8_pack 95 = .ok (.getfield 83, 3) := by decide +kernel
theorem dX8_pack_98 : decode cX8_pack 98 = .ok (.idiv, 1) := by decide +kernel
theorem dX8_pack_99 : decode cX8_pack 99 = .ok (.istore_n 2, 1) := by decide +kernel
theorem dX8_pack_100 : decode cX8_pack 100 = .ok (.iconst 1, 1) := by decide +kernel
theorem dX8_pack_101 : decode cX8_pack 101 = .ok (.istore_n 3, 1) := by decide +kernel
theorem dX8_pack_102 : decode cX8_pack 102 = .ok (.iload_n 3, 1) := by decide +kernel
theorem dX8_pack_103 : decode cX8_pack 103 = .ok (.iload_n 3, 1) := by decide +kernel
theorem dX8_pack_104 : decode cX8_pack 104 = .ok (.imul, 1) := by decide +kernel
theorem dX8_pack_105 : decode cX8_pack 105 = .ok (.iload_n 2, 1) := by decide +kernel
theorem dX8_pack_106 : decode cX8_pack 106 = .ok (.if_icmp .ge 9, 3) := by decide +kernel
theorem dX8_pack_109 : decode cX8_pack 109 = .ok (.iinc 3 1, 3) := by decide +kernel
theorem dX8_pack_112 : decode cX8_pack 112 = .ok (.goto (-10), 3) := by decide +kernel
theorem dX8_pack_115 : decode cX8_pack 115 = .ok (.iconst 0, 1) := by decide +kernel
theorem dX8_pack_116 : decode cX8_pack 116 = .ok (.istore 4, 2) := by decide +kernel
theorem dX8_pack_118 : decode cX8_pack 118 = .ok (.iload 4, 2) := by decide +kernel
theorem dX8_pack_120 : decode cX8_pack 120 = .ok (.iload_n 1, 1) := by decide +kernel
theorem dX8_pack_121 : decode cX8_pack 121 = .ok (.if_icmp .ge 37, 3) := by decide +kernel
theorem dX8_pack_124 : decode cX8_pack 124 = .ok (.aload_n 0, 1) := by decide +kernel
theorem dX8_pack_125 : decode cX8_pack 125 = .ok (.iload 4, 2) := by decide +kernel
theorem dX8_pack_127 : decode cX8_pack 127 = .ok (.iload_n 1, 1) := by decide +kernel
theorem dX8_pack_128 : decode cX8_pack 128 = .ok (.iload 4, 2) := by decide +kernel
theorem dX8_pack_130 : decode cX8_pack 130 = .ok (.iload_n 3, 1) := by decide +kernel
theorem dX8_pack_131 : decode cX8_pack 131 = .ok (.aload_n 0, 1) := by decide +kernel
theorem dX8_pack_132 : decode cX8_pack 132 = .ok (.getfield 83, 3) := by decide +kernel
theorem dX8_pack_135 : decode cX8_pack 135 = .ok (.imul, 1) := by decide +kernel
theorem dX8_pack_136 : decode cX8_pack 136 = .ok (.iadd, 1) := by decide +kernel
theorem dX8_pack_137 : decode cX8_pack 137 = .ok (.invokestatic 104, 3) := by decide +kernel
theorem dX8_pack_140 : decode cX8_pack 140 = .ok (.iconst 1, 1) := by decide +kernel
theorem dX8_pack_141 : decode cX8_pack 141 = .ok (.invokevirtual 264, 3) := by decide +kernel
theorem dX8_pack_144 : decode cX8_pack 144 = .ok (.iload 4, 2) := by decide +kernel
theorem dX8_pack_146 : decode cX8_pack 146 = .ok (.iload_n 3, 1) := by decide +kernel
theorem dX8_pack_147 : decode cX8_pack 147 = .ok (.aload_n 0, 1) := by decide +kernel
theorem dX8_pack_148 : decode cX8_pack 148 = .ok (.getfield 83, 3) := by decide +kernel
theorem dX8_pack_151 : decode cX8_pack 151 = .ok (.imul, 1) := by decide +kernel
theorem dX8_pack_152 : decode cX8_pack 152 = .ok (.iadd, 1) := by decide +kernel
theorem dX8_pack_153 : decode cX8_pack 153 = .ok (.istore 4, 2) := by decide +kernel
theorem dX8_pack_155 : decode cX8_pack 155 = .ok (.goto (-37), 3) := by decide +kernel
theorem dX8_pack_158 : decode cX8_pack 158 = .ok (.iconst 0, 1) := by decide +kernel
theorem dX8_pack_159 : decode cX8_pack 159 = .ok (.istore 4, 2) := by decide +kernel
theorem dX8_pack_161 : decode cX8_pack 161 = .ok (.iconst 0, 1) := by decide +kernel
theorem dX8_pack_162 : decode cX8_pack 162 = .ok (.istore 5, 2) := by decide +kernel
theorem dX8_pack_164 : decode cX8_pack 164 = .ok (.iload_n 1, 1) := by decide +kernel
theorem dX8_pack_165 : decode cX8_pack 165 = .ok (.istore 6, 2) := by decide +kernel
theorem dX8_pack_167 : decode cX8_pack 167 = .ok (.aload_n 0, 1) := by decide +kernel
theorem dX8_pack_168 : decode cX8_pack 168 = .ok (.iload 5, 2) := by decide +kernel
theorem dX8_pack_170 : decode cX8_pack 170 = .ok (.iload 6, 2) := by decide +kernel
theorem dX8_pack_172 : decode cX8_pack 172 = .ok (.invokevirtual 268, 3) := by decide +kernel
theorem dX8_pack_175 : decode cX8_pack 175 = .ok (.istore 6, 2) := by decide +kernel
theorem dX8_pack_177 : decode cX8_pack 177 = .ok (.iload 4, 2) := by decide +kernel
theorem dX8_pack_179 : decode cX8_pack 179 = .ok (.iload 6, 2) := by decide +kernel
theorem dX8_pack_181 : decode cX8_pack 181 = .ok (.iadd, 1) := by decide +kernel
theorem dX8_pack_182 : decode cX8_pack 182 = .ok (.istore 4, 2) := by decide +kernel
theorem dX8_pack_184 : decode cX8_pack 184 = .ok (.iinc 5 1, 3) := by decide +kernel
theorem dX8_pack_187 : decode cX8_pack 187 = .ok (.iload 6, 2) := by decide +kernel
theorem dX8_pack_189 : decode cX8_pack 189 = .ok (.iconst 1, 1) := by decide +kernel
theorem dX8_pack_190 : decode cX8_pack 190 = .ok (.if_icmp .gt (-23), 3) := by decide +kernel
theorem dX8_pack_193 : decode cX8_pack 193 = .ok (.aload_n 0, 1) := by decide +kernel
theorem dX8_pack_194 : decode cX8_pack 194 = .ok (.aload_n 0, 1) := by decide +kernel
theorem dX8_pack_195 : decode cX8_pack 195 = .ok (.getfield 77, 3) := by decide +kernel
theorem dX8_pack_198 : decode cX8_pack 198 = .ok (.iconst 0, 1) := by decide +kernel
theorem dX8_pack_199 : decode cX8_pack 199 = .ok (.iaload, 1) := by decide +kernel
theorem dX8_pack_200 : decode cX8_pack 200 = .ok (.putfield 93, 3) := by decide +kernel
theorem dX8_pack_203 : decode cX8_pack 203 = .ok (.aload_n 0, 1) := by decide +kernel
theorem dX8_pack_204 : decode cX8_pack 204 = .ok (.getfield 32, 3) := by decide +kernel
theorem dX8_pack_207 : decode cX8_pack 207 = .ok (.aload_n 0, 1) := by decide +kernel
theorem dX8_pack_208 : decode cX8_pack 208 = .ok (.getfield 93, 3) := by decide +kernel
theorem dX8_pack_211 : decode cX8_pack 211 = .ok (.bipush (-2), 2) := by decide +kernel
theorem dX8_pack_213 : decode cX8_pack 213 = .ok (.iastore, 1) := by decide +kernel
theorem dX8_pack_214 : decode cX8_pack 214 = .ok (.iload 4, 2) := by decide +kernel
theorem dX8_pack_216 : decode cX8_pack 216 = .ok (.ireturn, 1) := by decide +kernel
theorem dX8_layer_0 : decode cX8_layer 0 = .ok (.iconst 0, 1) := by decide +kernel
theorem dX8_layer_1 : decode cX8_layer 1 = .ok (.istore_n 3, 1) := by decide +kernel
theorem dX8_layer_2 : decode cX8_layer 2 = .ok (.iconst 0, 1) := by decide +kernel
theorem dX8_layer_3 : decode cX8_layer 3 = .ok (.istore 4, 2) := by decide +kernel
theorem dX8_layer_5 : decode cX8_layer 5 = .ok (.iload_n 2, 1) := by decide +kernel
theorem dX8_layer_6 : decode cX8_layer 6 = .ok (.istore 5, 2) := by decide +kernel
theorem dX8_layer_8 : decode cX8_layer 8 = .ok (.iload 5, 2) := by decide +kernel
theorem dX8_layer_10 : decode cX8_layer 10 = .ok (.ifCond .le 129, 3) := by decide +kernel
theorem dX8_layer_13 : decode cX8_layer 13 = .ok (.iload 5, 2) := by decide +kernel
theorem dX8_layer_15 : decode cX8_layer 15 = .ok (.aload_n 0, 1) := by decide +kernel
theorem dX8_layer_16 : decode cX8_layer 16 = .ok (.getfield 83, 3) := by decide +kernel
theorem dX8_layer_19 : decode cX8_layer 19 = .ok (.isub, 1) := by decide +kernel
theorem dX8_layer_20 : decode cX8_layer 20 = .ok (.istore 6, 2) := by decide +kernel
theorem dX8_layer_22 : decode cX8_layer 22 = .ok (.iload 5, 2) := by decide +kernel
theorem dX8_layer_24 : decode cX8_layer 24 = .ok (.aload_n 0, 1) := by decide +kernel
theorem dX8_layer_25 : decode cX8_layer 25 = .ok (.getfield 83, 3) := by decide +kernel
theorem dX8_layer_28 : decode cX8_layer 28 = .ok (.if_icmp .gt 8, 3) := by decide +kernel
theorem dX8_layer_31 : decode cX8_layer 31 = .ok (.iload 5, 2) := by decide +kernel
theorem dX8_layer_33 : decode cX8_layer 33 = .ok (.goto 31, 3) := by decide +kernel
theorem dX8_layer_36 : decode cX8_layer 36 = .ok (.iload 6, 2) := by decide +kernel
theorem dX8_layer_38 : decode cX8_layer 38 = .ok (.aload_n 0, 1) := by decide +kernel
theorem dX8_layer_39 : decode cX8_layer 39 = .ok (.getfield 86, 3) := by decide +kernel
theorem dX8_layer_42 : decode cX8_layer 42 = .ok (.if_icmp .ge 18, 3) := by decide +kernel
theorem dX8_layer_45 : decode cX8_layer 45 = .ok (.iload 6, 2) := by decide +kernel
theorem dX8_layer_47 : decode cX8_layer 47 = .ok (.ifCond .le 13, 3) := by decide +kernel
theorem dX8_layer_50 : decode cX8_layer 50 = .ok (.iload 5, 2) := by decide +kernel
theorem dX8_layer_52 : decode cX8_layer 52 = .ok (.aload_n 0, 1) := by decide +kernel
theorem dX8_layer_53 : decode cX8_layer 53 = .ok (.getfield 86, 3) := by decide +kernel
theorem dX8_layer_56 : decode cX8_layer 56 = .ok (.isub, 1) := by decide +kernel
theorem dX8_layer_57 : decode cX8_layer 57 = .ok (.goto 7, 3) := by decide +kernel
theorem dX8_layer_60 : decode cX8_layer 60 = .ok (.aload_n 0, 1) := by decide +kernel
theorem dX8_layer_61 : decode cX8_layer 61 = .ok (.getfield 83, 3) := by decide +kernel
theorem dX8_layer_64 : decode cX8_layer 64 = .ok (.istore 7, 2) := by decide +kernel
theorem dX8_layer_66 : decode cX8_layer 66 = .ok (.aload_n 0, 1) := by decide +kernel
theorem dX8_layer_67 : decode cX8_layer 67 = .ok (.iload_n 1, 1) := by decide +kernel
theorem dX8_layer_68 : decode cX8_layer 68 = .ok (.invokevirtual 89, 3) := by decide +kernel
theorem dX8_layer_71 : decode cX8_layer 71 = .ok (.istore 8, 2) := by decide +kernel
theorem dX8_layer_73 : decode cX8_layer 73 = .ok (.iconst 0, 1) := by decide +kernel
theorem dX8_layer_74 : decode cX8_layer 74 = .ok (.istore 9, 2) := by decide +kernel
theorem dX8_layer_76 : decode cX8_layer 76 = .ok (.iload 9, 2) := by decide +kernel
theorem dX8_layer_78 : decode cX8_layer 78 = .ok (.iload 7, 2) := by decide +kernel
theorem dX8_layer_80 : decode cX8_layer 80 = .ok (.if_icmp .ge 25, 3) := by decide +kernel
theorem dX8_layer_83 : decode cX8_layer 83 = .ok (.aload_n 0, 1) := by decide +kernel
theorem dX8_layer_84 : decode cX8_layer 84 = .ok (.iload 8, 2) := by decide +kernel
theorem dX8_layer_86 : decode cX8_layer 86 = .ok (.aload_n 0, 1) := by decide +kernel
theorem dX8_layer_87 : decode cX8_layer 87 = .ok (.getfield 77, 3) := by decide +kernel
theorem dX8_layer_90 : decode cX8_layer 90 = .ok (.iload 4, 2) := by decide +kernel
theorem dX8_layer_92 : decode cX8_layer 92 = .ok (.iload 9, 2) := by decide +kernel
theorem dX8_layer_94 : decode cX8_layer 94 = .ok (.iadd, 1) := by decide +kernel
theorem dX8_layer_95 : decode cX8_layer 95 = .ok (.iaload, 1) := by decide +kernel
theorem dX8_layer_96 : decode cX8_layer 96 = .ok (.invokevirtual 135, 3) := by decide +kernel
theorem dX8_layer_99 : decode cX8_layer 99 = .ok (.iinc 9 1, 3) := by decide +kernel
theorem dX8_layer_102 : decode cX8_layer 102 = .ok (.goto (-26), 3) := by decide +kernel
theorem dX8_layer_105 : decode cX8_layer 105 = .ok (.aload_n 0, 1) := by decide +kernel
theorem dX8_layer_106 : decode cX8_layer 106 = .ok (.iload 8, 2) := by decide +kernel
theorem dX8_layer_108 : decode cX8_layer 108 = .ok (.invokevirtual 118, 3) := by decide +kernel
theorem dX8_layer_111 : decode cX8_layer 111 = .ok (.iload 4, 2) := by decide +kernel
theorem dX8_layer_113 : decode cX8_layer 113 = .ok (.iload 7, 2) := by decide +kernel
theorem dX8_layer_115 : decode cX8_layer 115 = .ok (.iadd, 1) := by decide +kernel
theorem dX8_layer_116 : decode cX8_layer 116 = .ok (.istore 4, 2) := by decide +kernel
theorem dX8_layer_118 : decode cX8_layer 118 = .ok (.iload 5, 2) := by decide +kernel
theorem dX8_layer_120 : decode cX8_layer 120 = .ok (.iload 7, 2) := by decide +kernel
theorem dX8_layer_122 : decode cX8_layer 122 = .ok (.isub, 1) := by decide +kernel
theorem dX8_layer_123 : decode cX8_layer 123 = .ok (.istore 5, 2) := by decide +kernel
theorem dX8_layer_125 : decode cX8_layer 125 = .ok (.aload_n 0, 1) := by decide +kernel
theorem dX8_layer_126 : decode cX8_layer 126 = .ok (.getfield 80, 3) := by decide +kernel
theorem dX8_layer_129 : decode cX8_layer 129 = .ok (.iload_n 3, 1) := by decide +kernel
theorem dX8_layer_130 : decode cX8_layer 130 = .ok (.iload 8, 2) := by decide +kernel
theorem dX8_layer_132 : decode cX8_layer 132 = .ok (.iastore, 1) := by decide +kernel
theorem dX8_layer_133 : decode cX8_layer 133 = .ok (.iinc 3 1, 3) := by decide +kernel
theorem dX8_layer_136 : decode cX8_layer 136 = .ok (.goto (-128), 3) := by decide +kernel
theorem dX8_layer_139 : decode cX8_layer 139 = .ok (.iconst 0, 1) := by decide +kernel
theorem dX8_layer_140 : decode cX8_layer 140 = .ok (.istore 6, 2) := by decide +kernel
theorem dX8_layer_142 : decode cX8_layer 142 = .ok (.iload 6, 2) := by decide +kernel
theorem dX8_layer_144 : decode cX8_layer 144 = .ok (.iload_n 3, 1) := by decide +kernel
theorem dX8_layer_145 : decode cX8_layer 145 = .ok (.if_icmp .ge 23, 3) := by decide +kernel
theorem dX8_layer_148 : decode cX8_layer 148 = .ok (.aload_n 0, 1) := by decide +kernel
theorem dX8_layer_149 : decode cX8_layer 149 = .ok (.getfield 77, 3) := by decide +kernel
theorem dX8_layer_152 : decode cX8_layer 152 = .ok (.iload 6, 2) := by decide +kernel
theorem dX8_layer_154 : decode cX8_layer 154 = .ok (.aload_n 0, 1) := by decide +kernel
theorem dX8_layer_155 : decode cX8_layer 155 = .ok (.getfield 80, 3) := by decide +kernel
theorem dX8_layer_158 : decode cX8_layer 158 = .ok (.iload 6, 2) := by decide +kernel
theorem dX8_layer_160 : decode cX8_layer 160 = .ok (.iaload, 1) := by decide +kernel
theorem dX8_layer_161 : decode cX8_layer 161 = .ok (.iastore, 1) := by decide +kernel
theorem dX8_layer_162 : decode cX8_layer 162 = .ok (.iinc 6 1, 3) := by decide +kernel
theorem dX8_layer_165 : decode cX8_layer 165 = .ok (.goto (-23), 3) := by decide +kernel
theorem dX8_layer_168 : decode cX8_layer 168 = .ok (.iload_n 3, 1) := by decide +kernel
theorem dX8_layer_169 : decode cX8_layer 169 = .ok (.ireturn, 1) := by decide +kernel
theorem dX8_clear_0 : decode cX8_clear 0 = .ok (.aload_n 0, 1) := by decide +kernel
theorem dX8_clear_1 : decode cX8_clear 1 = .ok (.getfield 181, 3) := by decide +kernel
theorem dX8_clear_4 : decode cX8_clear 4 = .ok (.istore_n 1, 1) := by decide +kernel
theorem dX8_clear_5 : decode cX8_clear 5 = .ok (.aload_n 0, 1) := by decide +kernel
theorem dX8_clear_6 : decode cX8_clear 6 = .ok (.iconst 0, 1) := by decide +kernel
theorem dX8_clear_7 : decode cX8_clear 7 = .ok (.putfield 181, 3) := by decide +kernel
theorem dX8_clear_10 : decode cX8_clear 10 = .ok (.aload_n 0, 1) := by decide +kernel
theorem dX8_clear_11 : decode cX8_clear 11 = .ok (.iconst 0, 1) := by decide +kernel
theorem dX8_clear_12 : decode cX8_clear 12 = .ok (.putfield 184, 3) := by decide +kernel
theorem dX8_clear_15 : decode cX8_clear 15 = .ok (.iconst 0, 1) := by decide +kernel
theorem dX8_clear_16 : decode cX8_clear 16 = .ok (.istore_n 2, 1) := by decide +kernel
theorem dX8_clear_17 : decode cX8_clear 17 = .ok (.iload_n 2, 1) := by decide +kernel
theorem dX8_clear_18 : decode cX8_clear 18 = .ok (.sipush 400, 3) := by decide +kernel
theorem dX8_clear_21 : decode cX8_clear 21 = .ok (.if_icmp .gt 17, 3) := by decide +kernel
theorem dX8_clear_24 : decode cX8_clear 24 = .ok (.aload_n 0, 1) := by decide +kernel
theorem dX8_clear_25 : decode cX8_clear 25 = .ok (.getfield 13, 3) := by decide +kernel
theorem dX8_clear_28 : decode cX8_clear 28 = .ok (.iload_n 2, 1) := by decide +kernel
theorem dX8_clear_29 : decode cX8_clear 29 = .ok (.bipush (-2), 2) := by decide +kernel
theorem dX8_clear_31 : decode cX8_clear 31 = .ok (.iastore, 1) := by decide +kernel
theorem dX8_clear_32 : decode cX8_clear 32 = .ok (.iinc 2 1, 3) := by decide +kernel
theorem dX8_clear_35 : decode cX8_clear 35 = .ok (.goto (-18), 3) := by decide +kernel
theorem dX8_clear_38 : decode cX8_clear 38 = .ok (.iconst 0, 1) := by decide +kernel
theorem dX8_clear_39 : decode cX8_clear 39 = .ok (.istore_n 2, 1) := by decide +kernel
theorem dX8_clear_40 : decode cX8_clear 40 = .ok (.iload_n 2, 1) := by decide +kernel
theorem dX8_clear_41 : decode cX8_clear 41 = .ok (.sipush 500, 3) := by decide +kernel
theorem dX8_clear_44 : decode cX8_clear 44 = .ok (.if_icmp .ge 17, 3) := by decide +kernel
theorem dX8_clear_47 : decode cX8_clear 47 = .ok (.aload_n 0, 1) := by decide +kernel
theorem dX8_clear_48 : decode cX8_clear 48 = .ok (.getfield 20, 3) := by decide +kernel
theorem dX8_clear_51 : decode cX8_clear 51 = .ok (.iload_n 2, 1) := by decide +kernel
theorem dX8_clear_52 : decode cX8_clear 52 = .ok (.bipush (-2), 2) := by decide +kernel
theorem dX8_clear_54 : decode cX8_clear 54 = .ok (.iastore, 1) := by decide +kernel
theorem dX8_clear_55 : decode cX8_clear 55 = .ok (.iinc 2 1, 3) := by decide +kernel
theorem dX8_clear_58 : decode cX8_clear 58 = .ok (.goto (-18), 3) := by decide +kernel
theorem dX8_clear_61 : decode cX8_clear 61 = .ok (.aload_n 0, 1) := by decide +kernel
theorem dX8_clear_62 : decode cX8_clear 62 = .ok (.aload_n 0, 1) := by decide +kernel
theorem dX8_clear_63 : decode cX8_clear 63 = .ok (.iconst 0, 1) := by decide +kernel
theorem dX8_clear_64 : decode cX8_clear 64 = .ok (.invokevirtual 89, 3) := by decide +kernel
theorem dX8_clear_67 : decode cX8_clear 67 = .ok (.putfield 93, 3) := by decide +kernel
theorem dX8_clear_70 : decode cX8_clear 70 = .ok (.iload_n 1, 1) := by decide +kernel
theorem dX8_clear_71 : decode cX8_clear 71 = .ok (.ireturn, 1) := by decide +kernel
theorem dX8_count_0 : decode cX8_count 0 = .ok (.iload_n 1, 1) := by decide +kernel
theorem dX8_count_1 : decode cX8_count 1 = .ok (.tableswitch 98 0 7 #[47, 52, 64, 73, 78, 83, 88, 93], 47) := by decide +kernel
theorem dX8_count_48 : decode cX8_count 48 = .ok (.aload_n 0, 1) := by decide +kernel
theorem dX8_count_49 : decode cX8_count 49 = .ok (.getfield 181, 3) := by decide +kernel
theorem dX8_count_52 : decode cX8_count 52 = .ok (.ireturn, 1) := by decide +kernel
theorem dX8_count_53 : decode cX8_count 53 = .ok (.aload_n 0, 1) := by decide +kernel
theorem dX8_count_54 : decode cX8_count 54 = .ok (.getfield 20, 3) := by decide +kernel
theorem dX8_count_57 : decode cX8_count 57 = .ok (.aload_n 0, 1) := by decide +kernel
theorem dX8_count_58 : decode cX8_count 58 = .ok (.getfield 93, 3) := by decide +kernel
theorem dX8_count_61 : decode cX8_count 61 = .ok (.iaload, 1) := by decide +kernel
theorem dX8_count_62 : decode cX8_count 62 = .ok (.iconst 1, 1) := by decide +kernel
theorem dX8_count_63 : decode cX8_count 63 = .ok (.iadd, 1) := by decide +kernel
theorem dX8_count_64 : decode cX8_count 64 = .ok (.ireturn, 1) := by decide +kernel
theorem dX8_count_65 : decode cX8_count 65 = .ok (.aload_n 0, 1) := by decide +kernel
theorem dX8_count_66 : decode cX8_count 66 = .ok (.invokevirtual 235, 3) := by decide +kernel
theorem dX8_count_69 : decode cX8_count 69 = .ok (.aload_n 0, 1) := by decide +kernel
theorem dX8_count_70 : decode cX8_count 70 = .ok (.getfield 222, 3) := by decide +kernel
theorem dX8_count_73 : decode cX8_count 73 = .ok (.ireturn, 1) := by decide +kernel
theorem dX8_count_74 : decode cX8_count 74 = .ok (.aload_n 0, 1) := by decide +kernel
theorem dX8_count_75 : decode cX8_count 75 = .ok (.getfield 145, 3) := by decide +kernel
theorem dX8_count_78 : decode cX8_count 78 = .ok (.ireturn, 1) := by decide +kernel
theorem dX8_count_79 : decode cX8_count 79 = .ok (.aload_n 0, 1) := by decide +kernel
theorem dX8_count_80 : decode cX8_count 80 = .ok (.getfield 200, 3) := by decide +kernel
theorem dX8_count_83 : decode cX8_count 83 = .ok (.ireturn, 1) := by decide +kernel
theorem dX8_count_84 : decode cX8_count 84 = .ok (.aload_n 0, 1) := by decide +kernel
theorem dX8_count_85 : decode cX8_count 85 = .ok (.getfield 203, 3) := by decide +kernel
theorem dX8_count_88 : decode cX8_count 88 = .ok (.ireturn, 1) := by decide +kernel
theorem dX8_count_89 : decode cX8_count 89 = .ok (.aload_n 0, 1) := by decide +kernel
theorem dX8_count_90 : decode cX8_count 90 = .ok (.getfield 83, 3) := by decide +kernel
theorem dX8_count_93 : decode cX8_count 93 = .ok (.ireturn, 1) := by decide +kernel
theorem dX8_count_94 : decode cX8_count 94 = .ok (.aload_n 0, 1) := by decide +kernel
theorem dX8_count_95 : decode cX8_count 95 = .ok (.getfield 86, 3) := by decide +kernel
theorem dX8_count_98 : decode cX8_count 98 = .ok (.ireturn, 1) := by decide +kernel
theorem dX8_count_99 : decode cX8_count 99 = .ok (.iconst (-1), 1) := by decide +kernel
theorem dX8_count_100 : decode cX8_count 100 = .ok (.ireturn, 1) := by decide +kernel
theorem dX8_node__0 : decode cX8_node_ 0 = .ok (.aload_n 0, 1) := by decide +kernel
theorem dX8_node__1 : decode cX8_node_ 1 = .ok (.invokevirtual 235, 3) := by decide +kernel
theorem dX8_node__4 : decode cX8_node_ 4 = .ok (.iload_n 1, 1) := by decide +kernel
theorem dX8_node__5 : decode cX8_node_ 5 = .ok (.ifCond .lt 21, 3) := by decide +kernel
theorem dX8_node__8 : decode cX8_node_ 8 = .ok (.iload_n 1, 1) := by decide +kernel
theorem dX8_node__9 : decode cX8_node_ 9 = .ok (.aload_n 0, 1) := by decide +kernel
theorem dX8_node__10 : decode cX8_node_ 10 = .ok (.getfield 222, 3) := by decide +kernel
theorem dX8_node__13 : decode cX8_node_ 13 = .ok (.if_icmp .ge 13, 3) := by decide +kernel
theorem dX8_node__16 : decode cX8_node_ 16 = .ok (.iload_n 2, 1) := by decide +kernel
theorem dX8_node__17 : decode cX8_node_ 17 = .ok (.ifCond .lt 9, 3) := by decide +kernel
theorem dX8_node__20 : decode cX8_node_ 20 = .ok (.iload_n 2, 1) := by decide +kernel
theorem dX8_node__21 : decode cX8_node_ 21 = .ok (.bipush 6, 2) := by decide +kernel
theorem dX8_node__23 : decode cX8_node_ 23 = .ok (.if_icmp .le 5, 3) := by decide +kernel
theorem dX8_node__26 : decode cX8_node_ 26 = .ok (.iconst (-1), 1) := by decide +kernel
theorem dX8_node__27 : decode cX8_node_ 27 = .ok (.ireturn, 1) := by decide +kernel
theorem dX8_node__28 : decode cX8_node_ 28 = .ok (.aload_n 0, 1) := by decide +kernel
theorem dX8_node__29 : decode cX8_node_ 29 = .ok (.getfield 41, 3) := by decide +kernel
theorem dX8_node__32 : decode cX8_node_ 32 = .ok (.iload_n 1, 1) := by decide +kernel
theorem dX8_node__33 : decode cX8_node_ 33 = .ok (.iaload, 1) := by decide +kernel
theorem dX8_node__34 : decode cX8_node_ 34 = .ok (.istore_n 3, 1) := by decide +kernel
theorem dX8_node__35 : decode cX8_node_ 35 = .ok (.iload_n 2, 1) := by decide +kernel
theorem dX8_node__36 : decode cX8_node_ 36 = .ok (.iconst 1, 1) := by decide +kernel
theorem dX8_node__37 : decode cX8_node_ 37 = .ok (.if_icmp .le 35, 3) := by decide +kernel
theorem dX8_node__40 : decode cX8_node_ 40 = .ok (.iload_n 2, 1) := by decide +kernel
theorem dX8_node__41 : decode cX8_node_ 41 = .ok (.bipush 6, 2) := by decide +kernel
theorem dX8_node__43 : decode cX8_node_ 43 = .ok (.if_icmp .ge 29, 3) := by decide +kernel
theorem dX8_node__46 : decode cX8_node_ 46 = .ok (.aload_n 0, 1) := by decide +kernel
theorem dX8_node__47 : decode cX8_node_ 47 = .ok (.getfield 23, 3) := by decide +kernel
theorem dX8_node__50 : decode cX8_node_ 50 = .ok (.iload_n 3, 1) := by decide +kernel
theorem dX8_node__51 : decode cX8_node_ 51 = .ok (.iaload, 1) := by decide +kernel
theorem dX8_node__52 : decode cX8_node_ 52 = .ok (.ifCond .ne 7, 3) := by decide +kernel
theorem dX8_node__55 : decode cX8_node_ 55 = .ok (.iconst (-1), 1) := by decide +kernel
theorem dX8_node__56 : decode cX8_node_ 56 = .ok (.goto 15, 3) := by decide +kernel
theorem dX8_node__59 : decode cX8_node_ 59 = .ok (.aload_n 0, 1) := by decide +kernel
theorem dX8_node__60 : decode cX8_node_ 60 = .ok (.getfield 29, 3) := by decide +kernel
theorem dX8_node__63 : decode cX8_node_ 63 = .ok (.iconst 4, 1) := by decide +kernel
theorem dX8_node__64 : decode cX8_node_ 64 = .ok (.iload_n 3, 1) := by decide +kernel
theorem dX8_node__65 : decode cX8_node_ 65 = .ok (.imul, 1) := by decide +kernel
theorem dX8_node__66 : decode cX8_node_ 66 = .ok (.iload_n 2, 1) := by decide +kernel
theorem dX8_node__67 : decode cX8_node_ 67 = .ok (.iadd, 1) := by decide +kernel
theorem dX8_node__68 : decode cX8_node_ 68 = .ok (.iconst 2, 1) := by decide +kernel
theorem dX8_node__69 : decode cX8_node_ 69 = .ok (.isub, 1) := by decide +kernel
theorem dX8_node__70 : decode cX8_node_ 70 = .ok (.iaload, 1) := by decide +kernel
theorem dX8_node__71 : decode cX8_node_ 71 = .ok (.ireturn, 1) := by decide +kernel
theorem dX8_node__72 : decode cX8_node_ 72 = .ok (.iload_n 2, 1) := by decide +kernel
theorem dX8_node__73 : decode cX8_node_ 73 = .ok (.ifCond .ne 12, 3) := by decide +kernel
theorem dX8_node__76 : decode cX8_node_ 76 = .ok (.aload_n 0, 1) := by decide +kernel
theorem dX8_node__77 : decode cX8_node_ 77 = .ok (.getfield 20, 3) := by decide +kernel
theorem dX8_node__80 : decode cX8_node_ 80 = .ok (.iload_n 3, 1) := by decide +kernel
theorem dX8_node__81 : decode cX8_node_ 81 = .ok (.iaload, 1) := by decide +kernel
theorem dX8_node__82 : decode cX8_node_ 82 = .ok (.goto 41, 3) := by decide +kernel
theorem dX8_node__85 : decode cX8_node_ 85 = .ok (.iload_n 2, 1) := by decide +kernel
theorem dX8_node__86 : decode cX8_node_ 86 = .ok (.iconst 1, 1) := by decide +kernel
theorem dX8_node__87 : decode cX8_node_ 87 = .ok (.if_icmp .ne 12, 3) := by decide +kernel
theorem dX8_node__90 : decode cX8_node_ 90 = .ok (.aload_n 0, 1) := by decide +kernel
theorem dX8_node__91 : decode cX8_node_ 91 = .ok (.getfield 23, 3) := by decide +kernel
theorem dX8_node__94 : decode cX8_node_ 94 = .ok (.iload_n 3, 1) := by decide +kernel
theorem dX8_node__95 : decode cX8_node_ 95 = .ok (.iaload, 1) := by decide +kernel
theorem dX8_node__96 : decode cX8_node_ 96 = .ok (.goto 27, 3) := by decide +kernel
theorem dX8_node__99 : decode cX8_node_ 99 = .ok (.iload_n 3, 1) := by decide +kernel
theorem dX8_node__100 : decode cX8_node_ 100 = .ok (.aload_n 0, 1) := by decide +kernel
theorem dX8_node__101 : decode cX8_node_ 101 = .ok (.getfield 93, 3) := by decide +kernel
theorem dX8_node__104 : decode cX8_node_ 104 = .ok (.if_icmp .ne 8, 3) := by decide +kernel
theorem dX8_node__107 : decode cX8_node_ 107 = .ok (.bipush (-2), 2) := by decide +kernel
theorem dX8_node__109 : decode cX8_node_ 109 = .ok (.goto 14, 3) := by decide +kernel
theorem dX8_node__112 : decode cX8_node_ 112 = .ok (.aload_n 0, 1) := by decide +kernel
theorem dX8_node__113 : decode cX8_node_ 113 = .ok (.getfield 74, 3) := by decide +kernel
theorem dX8_node__116 : decode cX8_node_ 116 = .ok (.aload_n 0, 1) := by decide +kernel
theorem dX8_node__117 : decode cX8_node_ 117 = .ok (.getfield 32, 3) := by decide +kernel
theorem dX8_node__120 : decode cX8_node_ 120 = .ok (.iload_n 3, 1) := by decide +kernel
theorem dX8_node__121 : decode cX8_node_ 121 = .ok (.iaload, 1) := by decide +kernel
theorem dX8_node__122 : decode cX8_node_ 122 = .ok (.iaload, 1) := by decide +kernel
theorem dX8_node__123 : decode cX8_node_ 123 = .ok (.ireturn, 1) := by decide +kernel
theorem dX8_held_0 : decode cX8_held 0 = .ok (.aload_n 0, 1) := by decide +kernel
theorem dX8_held_1 : decode cX8_held 1 = .ok (.invokevirtual 235, 3) := by decide +kernel
theorem dX8_held_4 : decode cX8_held 4 = .ok (.iload_n 1, 1) := by decide +kernel
theorem dX8_held_5 : decode cX8_held 5 = .ok (.ifCond .lt 39, 3) := by decide +kernel
theorem dX8_held_8 : decode cX8_held 8 = .ok (.iload_n 1, 1) := by decide +kernel
theorem dX8_held_9 : decode cX8_held 9 = .ok (.aload_n 0, 1) := by decide +kernel
theorem dX8_held_10 : decode cX8_held 10 = .ok (.getfield 222, 3) := by decide +kernel
theorem dX8_held_13 : decode cX8_held 13 = .ok (.if_icmp .ge 31, 3) := by decide +kernel
theorem dX8_held_16 : decode cX8_held 16 = .ok (.iload_n 2, 1) := by decide +kernel
theorem dX8_held_17 : decode cX8_held 17 = .ok (.ifCond .lt 27, 3) := by decide +kernel
theorem dX8_held_20 : decode cX8_held 20 = .ok (.iload_n 2, 1) := by decide +kernel
theorem dX8_held_21 : decode cX8_held 21 = .ok (.aload_n 0, 1) := by decide +kernel
theorem dX8_held_22 : decode cX8_held 22 = .ok (.getfield 23, 3) := by decide +kernel
theorem dX8_held_25 : decode cX8_held 25 = .ok (.aload_n 0, 1) := by decide +kernel
theorem dX8_held_26 : decode cX8_held 26 = .ok (.getfield 41, 3) := by decide +kernel
theorem dX8_held_29 : decode cX8_held 29 = .ok (.iload_n 1, 1) := by decide +kernel
theorem dX8_held_30 : decode cX8_held 30 = .ok (.iaload, 1) := by decide +kernel
theorem dX8_held_31 : decode cX8_held 31 = .ok (.iaload, 1) := by decide +kernel
theorem dX8_held_32 : decode cX8_held 32 = .ok (.if_icmp .ge 12, 3) := by decide +kernel
theorem dX8_held_35 : decode cX8_held 35 = .ok (.iload_n 3, 1) := by decide +kernel
theorem dX8_held_36 : decode cX8_held 36 = .ok (.ifCond .lt 8, 3) := by decide +kernel
theorem dX8_held_39 : decode cX8_held 39 = .ok (.iload_n 3, 1) := by decide +kernel
theorem dX8_held_40 : decode cX8_held 40 = .ok (.iconst 4, 1) := by decide +kernel
theorem dX8_held_41 : decode cX8_held 41 = .ok (.if_icmp .le 5, 3) := by decide +kernel
theorem dX8_held_44 : decode cX8_held 44 = .ok (.iconst (-1), 1) := by decide +kernel
theorem dX8_held_45 : decode cX8_held 45 = .ok (.ireturn, 1) := by decide +kernel
theorem dX8_held_46 : decode cX8_held 46 = .ok (.aload_n 0, 1) := by decide +kernel
theorem dX8_held_47 : decode cX8_held 47 = .ok (.getfield 41, 3) := by decide +kernel
theorem dX8_held_50 : decode cX8_held 50 = .ok (.iload_n 1, 1) := by decide +kernel
theorem dX8_held_51 : decode cX8_held 51 = .ok (.iaload, 1) := by decide +kernel
theorem dX8_held_52 : decode cX8_held 52 = .ok (.istore 4, 2) := by decide +kernel
theorem dX8_held_54 : decode cX8_held 54 = .ok (.aload_n 0, 1) := by decide +kernel
theorem dX8_held_55 : decode cX8_held 55 = .ok (.iload 4, 2) := by decide +kernel
theorem dX8_held_57 : decode cX8_held 57 = .ok (.iload_n 2, 1) := by decide +kernel
theorem dX8_held_58 : decode cX8_held 58 = .ok (.invokevirtual 115, 3) := by decide +kernel
theorem dX8_held_61 : decode cX8_held 61 = .ok (.istore 5, 2) := by decide +kernel
theorem dX8_held_63 : decode cX8_held 63 = .ok (.iload_n 3, 1) := by decide +kernel
theorem dX8_held_64 : decode cX8_held 64 = .ok (.ifCond .le 24, 3) := by decide +kernel
theorem dX8_held_67 : decode cX8_held 67 = .ok (.aload_n 0, 1) := by decide +kernel
theorem dX8_held_68 : decode cX8_held 68 = .ok (.aload_n 0, 1) := by decide +kernel
theorem dX8_held_69 : decode cX8_held 69 = .ok (.getfield 20, 3) := by decide +kernel
theorem dX8_held_72 : decode cX8_held 72 = .ok (.iload 4, 2) := by decide +kernel
theorem dX8_held_74 : decode cX8_held 74 = .ok (.iaload, 1) := by decide +kernel
theorem dX8_held_75 : decode cX8_held 75 = .ok (.iconst 1, 1) := by decide +kernel
theorem dX8_held_76 : decode cX8_held 76 = .ok (.isub, 1) := by decide +kernel
theorem dX8_held_77 : decode cX8_held 77 = .ok (.iload 5, 2) := by decide +kernel
theorem dX8_held_79 : decode cX8_held 79 = .ok (.iload_n 3, 1) := by decide +kernel
theorem dX8_held_80 : decode cX8_held 80 = .ok (.iconst 1, 1) := by decide +kernel
theorem dX8_held_81 : decode cX8_held 81 = .ok (.isub, 1) := by decide +kernel
theorem dX8_held_82 : decode cX8_held 82 = .ok (.invokevirtual 96, 3) := by decide +kernel
theorem dX8_held_85 : decode cX8_held 85 = .ok (.goto 30, 3) := by decide +kernel
theorem dX8_held_88 : decode cX8_held 88 = .ok (.aload_n 0, 1) := by decide +kernel
theorem dX8_held_89 : decode cX8_held 89 = .ok (.getfield 20, 3) := by decide +kernel
theorem dX8_held_92 : decode cX8_held 92 = .ok (.iload 4, 2) := by decide +kernel
theorem dX8_held_94 : decode cX8_held 94 = .ok (.iaload, 1) := by decide +kernel
theorem dX8_held_95 : decode cX8_held 95 = .ok (.ifCond .ne 13, 3) := by decide +kernel
theorem dX8_held_98 : decode cX8_held 98 = .ok (.aload_n 0, 1) := by decide +kernel
theorem dX8_held_99 : decode cX8_held 99 = .ok (.getfield 13, 3) := by decide +kernel
theorem dX8_held_102 : decode cX8_held 102 = .ok (.iload 5, 2) := by decide +kernel
theorem dX8_held_104 : decode cX8_held 104 = .ok (.iaload, 1) := by decide +kernel
theorem dX8_held_105 : decode cX8_held 105 = .ok (.goto 10, 3) := by decide +kernel
theorem dX8_held_108 : decode cX8_held 108 = .ok (.aload_n 0, 1) := by decide +kernel
theorem dX8_held_109 : decode cX8_held 109 = .ok (.getfield 74, 3) := by decide +kernel
theorem dX8_held_112 : decode cX8_held 112 = .ok (.iload 5, 2) := by decide +kernel
theorem dX8_held_114 : decode cX8_held 114 = .ok (.iaload, 1) := by decide +kernel
theorem dX8_held_115 : decode cX8_held 115 = .ok (.ireturn, 1) := by decide +kernel
theorem dX8_audit_0 : decode cX8_audit 0 = .ok (.aload_n 0, 1) := by decide +kernel
theorem dX8_audit_1 : decode cX8_audit 1 = .ok (.invokevirtual 235, 3) := by decide +kernel
theorem dX8_audit_4 : decode cX8_audit 4 = .ok (.iconst 0, 1) := by decide +kernel
theorem dX8_audit_5 : decode cX8_audit 5 = .ok (.istore_n 1, 1) := by decide +kernel
theorem dX8_audit_6 : decode cX8_audit 6 = .ok (.iconst 0, 1) := by decide +kernel
theorem dX8_audit_7 : decode cX8_audit 7 = .ok (.istore_n 2, 1) := by decide +kernel
theorem dX8_audit_8 : decode cX8_audit 8 = .ok (.iload_n 2, 1) := by decide +kernel
theorem dX8_audit_9 : decode cX8_audit 9 = .ok (.aload_n 0, 1) := by decide +kernel
theorem dX8_audit_10 : decode cX8_audit 10 = .ok (.getfield 222, 3) := by decide +kernel
theorem dX8_audit_13 : decode cX8_audit 13 = .ok (.if_icmp .ge 213, 3) := by decide +kernel
theorem dX8_audit_16 : decode cX8_audit 16 = .ok (.aload_n 0, 1) := by decide +kernel
theorem dX8_audit_17 : decode cX8_audit 17 = .ok (.getfield 41, 3) := by decide +kernel
theorem dX8_audit_20 : decode cX8_audit 20 = .ok (.iload_n 2, 1) := by decide +kernel
theorem dX8_audit_21 : decode cX8_audit 21 = .ok (.iaload, 1) := by decide +kernel
theorem dX8_audit_22 : decode cX8_audit 22 = .ok (.istore_n 3, 1) := by decide +kernel
theorem dX8_audit_23 : decode cX8_audit 23 = .ok (.aload_n 0, 1) := by decide +kernel
theorem dX8_audit_24 : decode cX8_audit 24 = .ok (.getfield 23, 3) := by decide +kernel
theorem dX8_audit_27 : decode cX8_audit 27 = .ok (.iload_n 3, 1) := by decide +kernel
theorem dX8_audit_28 : decode cX8_audit 28 = .ok (.iaload, 1) := by decide +kernel
theorem dX8_audit_29 : decode cX8_audit 29 = .ok (.aload_n 0, 1) := by decide +kernel
theorem dX8_audit_30 : decode cX8_audit 30 = .ok (.getfield 83, 3) := by decide +kernel
theorem dX8_audit_33 : decode cX8_audit 33 = .ok (.if_icmp .gt 50, 3) := by decide +kernel
theorem dX8_audit_36 : decode cX8_audit 36 = .ok (.iload_n 3, 1) := by decide +kernel
theorem dX8_audit_37 : decode cX8_audit 37 = .ok (.aload_n 0, 1) := by decide +kernel
theorem dX8_audit_38 : decode cX8_audit 38 = .ok (.getfield 93, 3) := by decide +kernel
theorem dX8_audit_41 : decode cX8_audit 41 = .ok (.if_icmp .ne 25, 3) := by decide +kernel
theorem dX8_audit_44 : decode cX8_audit 44 = .ok (.aload_n 0, 1) := by decide +kernel
theorem dX8_audit_45 : decode cX8_audit 45 = .ok (.getfield 20, 3) := by decide +kernel
theorem dX8_audit_48 : decode cX8_audit 48 = .ok (.iload_n 3, 1) := by decide +kernel
theorem dX8_audit_49 : decode cX8_audit 49 = .ok (.iaload, 1) := by decide +kernel
theorem dX8_audit_50 : decode cX8_audit 50 = .ok (.ifCond .eq 29, 3) := by decide +kernel
theorem dX8_audit_53 : decode cX8_audit 53 = .ok (.aload_n 0, 1) := by decide +kernel
theorem dX8_audit_54 : decode cX8_audit 54 = .ok (.getfield 23, 3) := by decide +kernel
theorem dX8_audit_57 : decode cX8_audit 57 = .ok (.iload_n 3, 1) := by decide +kernel
theorem dX8_audit_58 : decode cX8_audit 58 = .ok (.iaload, 1) := by decide +kernel
theorem dX8_audit_59 : decode cX8_audit 59 = .ok (.iconst 2, 1) := by decide +kernel
theorem dX8_audit_60 : decode cX8_audit 60 = .ok (.if_icmp .lt 23, 3) := by decide +kernel
theorem dX8_audit_63 : decode cX8_audit 63 = .ok (.goto 16, 3) := by decide +kernel
theorem dX8_audit_66 : decode cX8_audit 66 = .ok (.aload_n 0, 1) := by decide +kernel
theorem dX8_audit_67 : decode cX8_audit 67 = .ok (.getfield 23, 3) := by decide +kernel
theorem dX8_audit_70 : decode cX8_audit 70 = .ok (.iload_n 3, 1) := by decide +kernel
theorem dX8_audit_71 : decode cX8_audit 71 = .ok (.iaload, 1) := by decide +kernel
theorem dX8_audit_72 : decode cX8_audit 72 = .ok (.aload_n 0, 1) := by decide +kernel
theorem dX8_audit_73 : decode cX8_audit 73 = .ok (.getfield 86, 3) := by decide +kernel
theorem dX8_audit_76 : decode cX8_audit 76 = .ok (.if_icmp .lt 7, 3) := by decide +kernel
theorem dX8_audit_79 : decode cX8_audit 79 = .ok (.iconst 1, 1) := by decide +kernel
theorem dX8_audit_80 : decode cX8_audit 80 = .ok (.goto 4, 3) := by decide +kernel
theorem dX8_audit_83 : decode cX8_audit 83 = .ok (.iconst 0, 1) := by decide +kernel
theorem dX8_audit_84 : decode cX8_audit 84 = .ok (.istore 4, 2) := by decide +kernel
theorem dX8_audit_86 : decode cX8_audit 86 = .ok (.iload 4, 2) := by decide +kernel
theorem dX8_audit_88 : decode cX8_audit 88 = .ok (.ifCond .ne 5, 3) := by decide +kernel
theorem dX8_audit_91 : decode cX8_audit 91 = .ok (.iconst 0, 1) := by decide +kernel
theorem dX8_audit_92 : decode cX8_audit 92 = .ok (.ireturn, 1) := by decide +kernel
theorem dX8_audit_93 : decode cX8_audit 93 = .ok (.iload_n 1, 1) := by decide +kernel
theorem dX8_audit_94 : decode cX8_audit 94 = .ok (.aload_n 0, 1) := by decide +kernel
theorem dX8_audit_95 : decode cX8_audit 95 = .ok (.getfield 20, 3) := by decide +kernel
theorem dX8_audit_98 : decode cX8_audit 98 = .ok (.iload_n 3, 1) := by decide +kernel
theorem dX8_audit_99 : decode cX8_audit 99 = .ok (.iaload, 1) := by decide +kernel
theorem dX8_audit_100 : decode cX8_audit 100 = .ok (.ifCond .ne 12, 3) := by decide +kernel
theorem dX8_audit_103 : decode cX8_audit 103 = .ok (.aload_n 0, 1) := by decide +kernel
theorem dX8_audit_104 : decode cX8_audit 104 = .ok (.getfield 23, 3) := by decide +kernel
theorem dX8_audit_107 : decode cX8_audit 107 = .ok (.iload_n 3, 1) := by decide +kernel
theorem dX8_audit_108 : decode cX8_audit 108 = .ok (.iaload, 1) := by decide +kernel
theorem dX8_audit_109 : decode cX8_audit 109 = .ok (.goto 4, 3) := by decide +kernel
theorem dX8_audit_112 : decode cX8_audit 112 = .ok (.iconst 0, 1) := by decide +kernel
theorem dX8_audit_113 : decode cX8_audit 113 = .ok (.iadd, 1) := by decide +kernel
theorem dX8_audit_114 : decode cX8_audit 114 = .ok (.istore_n 1, 1) := by decide +kernel
theorem dX8_audit_115 : decode cX8_audit 115 = .ok (.iconst 0, 1) := by decide +kernel
theorem dX8_audit_116 : decode cX8_audit 116 = .ok (.istore 5, 2) := by decide +kernel
theorem dX8_audit_118 : decode cX8_audit 118 = .ok (.iload 5, 2) := by decide +kernel
theorem dX8_audit_120 : decode cX8_audit 120 = .ok (.aload_n 0, 1) := by decide +kernel
theorem dX8_audit_121 : decode cX8_audit 121 = .ok (.getfield 23, 3) := by decide +kernel
theorem dX8_audit_124 : decode cX8_audit 124 = .ok (.iload_n 3, 1) := by decide +kernel
theorem dX8_audit_125 : decode cX8_audit 125 = .ok (.iaload, 1) := by decide +kernel
theorem dX8_audit_126 : decode cX8_audit 126 = .ok (.if_icmp .ge 94, 3) := by decide +kernel
theorem dX8_audit_129 : decode cX8_audit 129 = .ok (.aload_n 0, 1) := by decide +kernel
theorem dX8_audit_130 : decode cX8_audit 130 = .ok (.iload_n 3, 1) := by decide +kernel
theorem dX8_audit_131 : decode cX8_audit 131 = .ok (.iload 5, 2) := by decide +kernel
theorem dX8_audit_133 : decode cX8_audit 133 = .ok (.invokevirtual 115, 3) := by decide +kernel
theorem dX8_audit_136 : decode cX8_audit 136 = .ok (.istore 6, 2) := by decide +kernel
theorem dX8_audit_138 : decode cX8_audit 138 = .ok (.aload_n 0, 1) := by decide +kernel
theorem dX8_audit_139 : decode cX8_audit 139 = .ok (.getfield 20, 3) := by decide +kernel
theorem dX8_audit_142 : decode cX8_audit 142 = .ok (.iload_n 3, 1) := by decide +kernel
theorem dX8_audit_143 : decode cX8_audit 143 = .ok (.iaload, 1) := by decide +kernel
theorem dX8_audit_144 : decode cX8_audit 144 = .ok (.ifCond .le 32, 3) := by decide +kernel
theorem dX8_audit_147 : decode cX8_audit 147 = .ok (.aload_n 0, 1) := by decide +kernel
theorem dX8_audit_148 : decode cX8_audit 148 = .ok (.getfield 20, 3) := by decide +kernel
theorem dX8_audit_151 : decode cX8_audit 151 = .ok (.iload 6, 2) := by decide +kernel
theorem dX8_audit_153 : decode cX8_audit 153 = .ok (.iaload, 1) := by decide +kernel
theorem dX8_audit_154 : decode cX8_audit 154 = .ok (.aload_n 0, 1) := by decide +kernel
theorem dX8_audit_155 : decode cX8_audit 155 = .ok (.getfield 20, 3) := by decide +kernel
theorem dX8_audit_158 : decode cX8_audit 158 = .ok (.iload_n 3, 1) := by decide +kernel
theorem dX8_audit_159 : decode cX8_audit 159 = .ok (.iaload, 1) := by decide +kernel
theorem dX8_audit_160 : decode cX8_audit 160 = .ok (.iconst 1, 1) := by decide +kernel
theorem dX8_audit_161 : decode cX8_audit 161 = .ok (.isub, 1) := by decide +kernel
theorem dX8_audit_162 : decode cX8_audit 162 = .ok (.if_icmp .ne 50, 3) := by decide +kernel
theorem dX8_audit_165 : decode cX8_audit 165 = .ok (.aload_n 0, 1) := by decide +kernel
theorem dX8_audit_166 : decode cX8_audit 166 = .ok (.getfield 32, 3) := by decide +kernel
theorem dX8_audit_169 : decode cX8_audit 169 = .ok (.iload 6, 2) := by decide +kernel
theorem dX8_audit_171 : decode cX8_audit 171 = .ok (.iaload, 1) := by decide +kernel
theorem dX8_audit_172 : decode cX8_audit 172 = .ok (.iload_n 3, 1) := by decide +kernel
theorem dX8_audit_173 : decode cX8_audit 173 = .ok (.if_icmp .ne 39, 3) := by decide +kernel
theorem dX8_audit_176 : decode cX8_audit 176 = .ok (.aload_n 0, 1) := by decide +kernel
theorem dX8_audit_177 : decode cX8_audit 177 = .ok (.aload_n 0, 1) := by decide +kernel
theorem dX8_audit_178 : decode cX8_audit 178 = .ok (.getfield 20, 3) := by decide +kernel
theorem dX8_audit_181 : decode cX8_audit 181 = .ok (.iload_n 3, 1) := by decide +kernel
theorem dX8_audit_182 : decode cX8_audit 182 = .ok (.iaload, 1) := by decide +kernel
theorem dX8_audit_183 : decode cX8_audit 183 = .ok (.iload_n 3, 1) := by decide +kernel
theorem dX8_audit_184 : decode cX8_audit 184 = .ok (.aload_n 0, 1) := by decide +kernel
theorem dX8_audit_185 : decode cX8_audit 185 = .ok (.getfield 20, 3) := by decide +kernel
theorem dX8_audit_188 : decode cX8_audit 188 = .ok (.iload_n 3, 1) := by decide +kernel
theorem dX8_audit_189 : decode cX8_audit 189 = .ok (.iaload, 1) := by decide +kernel
theorem dX8_audit_190 : decode cX8_audit 190 = .ok (.iconst 1, 1) := by decide +kernel
theorem dX8_audit_191 : decode cX8_audit 191 = .ok (.isub, 1) := by decide +kernel
theorem dX8_audit_192 : decode cX8_audit 192 = .ok (.iload 6, 2) := by decide +kernel
theorem dX8_audit_194 : decode cX8_audit 194 = .ok (.invokevirtual 129, 3) := by decide +kernel
theorem dX8_audit_197 : decode cX8_audit 197 = .ok (.aload_n 0, 1) := by decide +kernel
theorem dX8_audit_198 : decode cX8_audit 198 = .ok (.aload_n 0, 1) := by decide +kernel
theorem dX8_audit_199 : decode cX8_audit 199 = .ok (.getfield 20, 3) := by decide +kernel
theorem dX8_audit_202 : decode cX8_audit 202 = .ok (.iload_n 3, 1) := by decide +kernel
theorem dX8_audit_203 : decode cX8_audit 203 = .ok (.iaload, 1) := by decide +kernel
theorem dX8_audit_204 : decode cX8_audit 204 = .ok (.iload_n 3, 1) := by decide +kernel
theorem dX8_audit_205 : decode cX8_audit 205 = .ok (.invokevirtual 125, 3) := by decide +kernel
theorem dX8_audit_208 : decode cX8_audit 208 = .ok (.lcmp, 1) := by decide +kernel
theorem dX8_audit_209 : decode cX8_audit 209 = .ok (.ifCond .eq 5, 3) := by decide +kernel
theorem dX8_audit_212 : decode cX8_audit 212 = .ok (.iconst 0, 1) := by decide +kernel
theorem dX8_audit_213 : decode cX8_audit 213 = .ok (.ireturn, 1) := by decide +kernel
theorem dX8_audit_214 : decode cX8_audit 214 = .ok (.iinc 5 1, 3) := by decide +kernel
theorem dX8_audit_217 : decode cX8_audit 217 = .ok (.goto (-99), 3) := by decide +kernel
theorem dX8_audit_220 : decode cX8_audit 220 = .ok (.iinc 2 1, 3) := by decide +kernel
theorem dX8_audit_223 : decode cX8_audit 223 = .ok (.goto (-215), 3) := by decide +kernel
theorem dX8_audit_226 : decode cX8_audit 226 = .ok (.iload_n 1, 1) := by decide +kernel
theorem dX8_audit_227 : decode cX8_audit 227 = .ok (.aload_n 0, 1) := by decide +kernel
theorem dX8_audit_228 : decode cX8_audit 228 = .ok (.getfield 181, 3) := by decide +kernel
theorem dX8_audit_231 : decode cX8_audit 231 = .ok (.if_icmp .ne 7, 3) := by decide +kernel
theorem dX8_audit_234 : decode cX8_audit 234 = .ok (.iconst 1, 1) := by decide +kernel
theorem dX8_audit_235 : decode cX8_audit 235 = .ok (.goto 4, 3) := by decide +kernel
theorem dX8_audit_238 : decode cX8_audit 238 = .ok (.iconst 0, 1) := by decide +kernel
theorem dX8_audit_239 : decode cX8_audit 239 = .ok (.ireturn, 1) := by decide +kernel
theorem dJ6_compare_7cf53_0 : decode cJ6_compare_7cf53 0 = .ok (.iload_n 0, 1) := by decide +kernel
theorem dJ6_compare_7cf53_1 : decode cJ6_compare_7cf53 1 = .ok (.iload_n 1, 1) := by decide +kernel
theorem dJ6_compare_7cf53_2 : decode cJ6_compare_7cf53 2 = .ok (.if_icmp .ge 7, 3) := by decide +kernel
theorem dJ6_compare_7cf53_5 : decode cJ6_compare_7cf53 5 = .ok (.iconst (-1), 1) := by decide +kernel
theorem dJ6_compare_7cf53_6 : decode cJ6_compare_7cf53 6 = .ok (.goto 13, 3) := by decide +kernel
theorem dJ6_compare_7cf53_9 : decode cJ6_compare_7cf53 9 = .ok (.iload_n 0, 1) := by decide +kernel
theorem dJ6_compare_7cf53_10 : decode cJ6_compare_7cf53 10 = .ok (.iload_n 1, 1) := by decide +kernel
theorem dJ6_compare_7cf53_11 : decode cJ6_compare_7cf53 11 = .ok (.if_icmp .ne 7, 3) := by decide +kernel
theorem dJ6_compare_7cf53_14 : decode cJ6_compare_7cf53 14 = .ok (.iconst 0, 1) := by decide +kernel
theorem dJ6_compare_7cf53_15 : decode cJ6_compare_7cf53 15 = .ok (.goto 4, 3) := by decide +kernel
theorem dJ6_compare_7cf53_18 : decode cJ6_compare_7cf53 18 = .ok (.iconst 1, 1) := by decide +kernel
theorem dJ6_compare_7cf53_19 : decode cJ6_compare_7cf53 19 = .ok (.ireturn, 1) := by decide +kernel
theorem dJ9_abs_0f7a4_0 : decode cJ9_abs_0f7a4 0 = .ok (.iload_n 0, 1) := by decide +kernel
theorem dJ9_abs_0f7a4_1 : decode cJ9_abs_0f7a4 1 = .ok (.ifCond .ge 8, 3) := by decide +kernel
theorem dJ9_abs_0f7a4_4 : decode cJ9_abs_0f7a4 4 = .ok (.iload_n 0, 1) := by decide +kernel
theorem dJ9_abs_0f7a4_5 : decode cJ9_abs_0f7a4 5 = .ok (.ineg, 1) := by decide +kernel
theorem dJ9_abs_0f7a4_6 : decode cJ9_abs_0f7a4 6 = .ok (.goto 4, 3) := by decide +kernel
theorem dJ9_abs_0f7a4_9 : decode cJ9_abs_0f7a4 9 = .ok (.iload_n 0, 1) := by decide +kernel
theorem dJ9_abs_0f7a4_10 : decode cJ9_abs_0f7a4 10 = .ok (.ireturn, 1) := by decide +kernel
theorem dJ9_max_7cf53_0 : decode cJ9_max_7cf53 0 = .ok (.iload_n 0, 1) := by decide +kernel
theorem dJ9_max_7cf53_1 : decode cJ9_max_7cf53 1 = .ok (.iload_n 1, 1) := by decide +kernel
theorem dJ9_max_7cf53_2 : decode cJ9_max_7cf53 2 = .ok (.if_icmp .lt 7, 3) := by decide +kernel
theorem dJ9_max_7cf53_5 : decode cJ9_max_7cf53 5 = .ok (.iload_n 0, 1) := by decide +kernel
theorem dJ9_max_7cf53_6 : decode cJ9_max_7cf53 6 = .ok (.goto 4, 3) := by decide +kernel
theorem dJ9_max_7cf53_9 : decode cJ9_max_7cf53 9 = .ok (.iload_n 1, 1) := by decide +kernel
theorem dJ9_max_7cf53_10 : decode cJ9_max_7cf53 10 = .ok (.ireturn, 1) := by decide +kernel
theorem dJ9_min_7cf53_0 : decode cJ9_min_7cf53 0 = .ok (.iload_n 0, 1) := by decide +kernel
theorem dJ9_min_7cf53_1 : decode cJ9_min_7cf53 1 = .ok (.iload_n 1, 1) := by decide +kernel
theorem dJ9_min_7cf53_2 : decode cJ9_min_7cf53 2 = .ok (.if_icmp .gt 7, 3) := by decide +kernel
theorem dJ9_min_7cf53_5 : decode cJ9_min_7cf53 5 = .ok (.iload_n 0, 1) := by decide +kernel
theorem dJ9_min_7cf53_6 : decode cJ9_min_7cf53 6 = .ok (.goto 4, 3) := by decide +kernel
theorem dJ9_min_7cf53_9 : decode cJ9_min_7cf53 9 = .ok (.iload_n 1, 1) := by decide +kernel
theorem dJ9_min_7cf53_10 : decode cJ9_min_7cf53 10 = .ok (.ireturn, 1) := by decide +kernel
theorem dL_cell_0 : decode cL_cell 0 = .ok (.iload_n 1, 1) := by decide +kernel
theorem dL_cell_1 : decode cL_cell 1 = .ok (.aload_n 0, 1) := by decide +kernel
theorem dL_cell_2 : decode cL_cell 2 = .ok (.arraylength, 1) := by decide +kernel
theorem dL_cell_3 : decode cL_cell 3 = .ok (.if_icmp .ge 9, 3) := by decide +kernel
theorem dL_cell_6 : decode cL_cell 6 = .ok (.aload_n 0, 1) := by decide +kernel
theorem dL_cell_7 : decode cL_cell 7 = .ok (.iload_n 1, 1) := by decide +kernel
theorem dL_cell_8 : decode cL_cell 8 = .ok (.iaload, 1) := by decide +kernel
theorem dL_cell_9 : decode cL_cell 9 = .ok (.goto 4, 3) := by decide +kernel
theorem dL_cell_12 : decode cL_cell 12 = .ok (.iconst 0, 1) := by decide +kernel
theorem dL_cell_13 : decode cL_cell 13 = .ok (.ireturn, 1) := by decide +kernel
theorem dL_law_0 : decode cL_law 0 = .ok (.new 7, 3) := by decide +kernel
theorem dL_law_3 : decode cL_law 3 = .ok (.dup, 1) := by decide +kernel
theorem dL_law_4 : decode cL_law 4 = .ok (.aload_n 0, 1) := by decide +kernel
theorem dL_law_5 : decode cL_law 5 = .ok (.iconst 0, 1) := by decide +kernel
theorem dL_law_6 : decode cL_law 6 = .ok (.invokestatic 9, 3) := by decide +kernel
theorem dL_law_9 : decode cL_law 9 = .ok (.aload_n 0, 1) := by decide +kernel
theorem dL_law_10 : decode cL_law 10 = .ok (.iconst 1, 1) := by decide +kernel
theorem dL_law_11 : decode cL_law 11 = .ok (.invokestatic 9, 3) := by decide +kernel
theorem dL_law_14 : decode cL_law 14 = .ok (.invokespecial 15, 3) := by decide +kernel
theorem dL_law_17 : decode cL_law 17 = .ok (.astore_n 1, 1) := by decide +kernel
theorem dL_law_18 : decode cL_law 18 = .ok (.new 18, 3) := by decide +kernel
theorem dL_law_21 : decode cL_law 21 = .ok (.dup, 1) := by decide +kernel
theorem dL_law_22 : decode cL_law 22 = .ok (.aload_n 0, 1) := by decide +kernel
theorem dL_law_23 : decode cL_law 23 = .ok (.iconst 0, 1) := by decide +kernel
theorem dL_law_24 : decode cL_law 24 = .ok (.invokestatic 9, 3) := by decide +kernel
theorem dL_law_27 : decode cL_law 27 = .ok (.aload_n 0, 1) := by decide +kernel
theorem dL_law_28 : decode cL_law 28 = .ok (.iconst 1, 1) := by decide +kernel
theorem dL_law_29 : decode cL_law 29 = .ok (.invokestatic 9, 3) := by decide +kernel
theorem dL_law_32 : decode cL_law 32 = .ok (.invokespecial 20, 3) := by decide +kernel
theorem dL_law_35 : decode cL_law 35 = .ok (.astore_n 2, 1) := by decide +kernel
theorem dL_law_36 : decode cL_law 36 = .ok (.iconst 2, 1) := by decide +kernel
theorem dL_law_37 : decode cL_law 37 = .ok (.istore_n 3, 1) := by decide +kernel
theorem dL_law_38 : decode cL_law 38 = .ok (.iload_n 3, 1) := by decide +kernel
theorem dL_law_39 : decode cL_law 39 = .ok (.aload_n 0, 1) := by decide +kernel
theorem dL_law_40 : decode cL_law 40 = .ok (.arraylength, 1) := by decide +kernel
theorem dL_law_41 : decode cL_law 41 = .ok (.bipush 6, 2) := by decide +kernel
theorem dL_law_43 : decode cL_law 43 = .ok (.isub, 1) := by decide +kernel
theorem dL_law_44 : decode cL_law 44 = .ok (.if_icmp .gt 565, 3) := by decide +kernel
theorem dL_law_47 : decode cL_law 47 = .ok (.aload_n 0, 1) := by decide +kernel
theorem dL_law_48 : decode cL_law 48 = .ok (.iload_n 3, 1) := by decide +kernel
theorem dL_law_49 : decode cL_law 49 = .ok (.iaload, 1) := by decide +kernel
theorem dL_law_50 : decode cL_law 50 = .ok (.bipush 15, 2) := by decide +kernel
theorem dL_law_52 : decode cL_law 52 = .ok (.iand, 1) := by decide +kernel
theorem dL_law_53 : decode cL_law 53 = .ok (.tableswitch 550 0 14 #[75, 138, 201, 254, 267, 320, 363, 376, 389, 412, 425, 438, 461, 494, 537], 75) := by decide +kernel
theorem dL_law_128 : decode cL_law 128 = .ok (.aload_n 1, 1) := by decide +kernel
theorem dL_law_129 : decode cL_law 129 = .ok (.aload_n 0, 1) := by decide +kernel
theorem dL_law_130 : decode cL_law 130 = .ok (.iload_n 3, 1) := by decide +kernel
theorem dL_law_131 : decode cL_law 131 = .ok (.iconst 1, 1) := by decide +kernel
theorem dL_law_132 : decode cL_law 132 = .ok (.iadd, 1) := by decide +kernel
theorem dL_law_133 : decode cL_law 133 = .ok (.iaload, 1) := by decide +kernel
theorem dL_law_134 : decode cL_law 134 = .ok (.aload_n 0, 1) := by decide +kernel
theorem dL_law_135 : decode cL_law 135 = .ok (.iload_n 3, 1) := by decide +kernel
theorem dL_law_136 : decode cL_law 136 = .ok (.iconst 2, 1) := by decide +kernel
theorem dL_law_137 : decode cL_law 137 = .ok (.iadd, 1) := by decide +kernel
theorem dL_law_138 : decode cL_law 138 = .ok (.iaload, 1) := by decide +kernel
theorem dL_law_139 : decode cL_law 139 = .ok (.aload_n 0, 1) := by decide +kernel
theorem dL_law_140 : decode cL_law 140 = .ok (.iload_n 3, 1) := by decide +kernel
theorem dL_law_141 : decode cL_law 141 = .ok (.iconst 3, 1) := by decide +kernel
theorem dL_law_142 : decode cL_law 142 = .ok (.iadd, 1) := by decide +kernel
theorem dL_law_143 : decode cL_law 143 = .ok (.iaload, 1) := by decide +kernel
theorem dL_law_144 : decode cL_law 144 = .ok (.aload_n 0, 1) := by decide +kernel
theorem dL_law_145 : decode cL_law 145 = .ok (.iload_n 3, 1) := by decide +kernel
theorem dL_law_146 : decode cL_law 146 = .ok (.iconst 4, 1) := by decide +kernel
theorem dL_law_147 : decode cL_law 147 = .ok (.iadd, 1) := by decide +kernel
theorem dL_law_148 : decode cL_law 148 = .ok (.iaload, 1) := by decide +kernel
theorem dL_law_149 : decode cL_law 149 = .ok (.aload_n 0, 1) := by decide +kernel
theorem dL_law_150 : decode cL_law 150 = .ok (.iload_n 3, 1) := by decide +kernel
theorem dL_law_151 : decode cL_law 151 = .ok (.iconst 5, 1) := by decide +kernel
theorem dL_law_152 : decode cL_law 152 = .ok (.iadd, 1) := by decide +kernel
theorem dL_law_153 : decode cL_law 153 = .ok (.iaload, 1) := by decide +kernel
theorem dL_law_154 : decode cL_law 154 = .ok (.invokevirtual 21, 3) := by decide +kernel
theorem dL_law_157 : decode cL_law 157 = .ok (.aload_n 2, 1) := by decide +kernel
theorem dL_law_158 : decode cL_law 158 = .ok (.aload_n 0, 1) := by decide +kernel
theorem dL_law_159 : decode cL_law 159 = .ok (.iload_n 3, 1) := by decide +kernel
theorem dL_law_160 : decode cL_law 160 = .ok (.iconst 1, 1) := by decide +kernel
theorem dL_law_161 : decode cL_law 161 = .ok (.iadd, 1) := by decide +kernel
theorem dL_law_162 : decode cL_law 162 = .ok (.iaload, 1) := by decide +kernel
theorem dL_law_163 : decode cL_law 163 = .ok (.aload_n 0, 1) := by decide +kernel
theorem dL_law_164 : decode cL_law 164 = .ok (.iload_n 3, 1) := by decide +kernel
theorem dL_law_165 : decode cL_law 165 = .ok (.iconst 2, 1) := by decide +kernel
theorem dL_law_166 : decode cL_law 166 = .ok (.iadd, 1) := by decide +kernel
theorem dL_law_167 : decode cL_law 167 = .ok (.iaload, 1) := by decide +kernel
theorem dL_law_168 : decode cL_law 168 = .ok (.aload_n 0, 1) := by decide +kernel
theorem dL_law_169 : decode cL_law 169 = .ok (.iload_n 3, 1) := by decide +kernel
theorem dL_law_170 : decode cL_law 170 = .ok (.iconst 3, 1) := by decide +kernel
theorem dL_law_171 : decode cL_law 171 = .ok (.iadd, 1) := by decide +kernel
theorem dL_law_172 : decode cL_law 172 = .ok (.iaload, 1) := by decide +kernel
theorem dL_law_173 : decode cL_law 173 = .ok (.aload_n 0, 1) := by decide +kernel
theorem dL_law_174 : decode cL_law 174 = .ok (.iload_n 3, 1) := by decide +kernel
theorem dL_law_175 : decode cL_law 175 = .ok (.iconst 4, 1) := by decide +kernel
theorem dL_law_176 : decode cL_law 176 = .ok (.iadd, 1) := by decide +kernel
theorem dL_law_177 : decode cL_law 177 = .ok (.iaload, 1) := by decide +kernel
theorem dL_law_178 : decode cL_law 178 = .ok (.aload_n 0, 1) := by decide +kernel
theorem dL_law_179 : decode cL_law 179 = .ok (.iload_n 3, 1) := by decide +kernel
theorem dL_law_180 : decode cL_law 180 = .ok (.iconst 5, 1) := by decide +kernel
theorem dL_law_181 : decode cL_law 181 = .ok (.iadd, 1) := by decide +kernel
theorem dL_law_182 : decode cL_law 182 = .ok (.iaload, 1) := by decide +kernel
theorem dL_law_183 : decode cL_law 183 = .ok (.invokevirtual 25, 3) := by decide +kernel
theorem dL_law_186 : decode cL_law 186 = .ok (.if_icmp .eq 417, 3) := by decide +kernel
theorem dL_law_189 : decode cL_law 189 = .ok (.iconst 0, 1) := by decide +kernel
theorem dL_law_190 : decode cL_law 190 = .ok (.ireturn, 1) := by decide +kernel
theorem dL_law_191 : decode cL_law 191 = .ok (.aload_n 1, 1) := by decide +kernel
theorem dL_law_192 : decode cL_law 192 = .ok (.aload_n 0, 1) := by decide +kernel
theorem dL_law_193 : decode cL_law 193 = .ok (.iload_n 3, 1) := by decide +kernel
theorem dL_law_194 : decode cL_law 194 = .ok (.iconst 1, 1) := by decide +kernel
theorem dL_law_195 : decode cL_law 195 = .ok (.iadd, 1) := by decide +kernel
theorem dL_law_196 : decode cL_law 196 = .ok (.iaload, 1) := by decide +kernel
theorem dL_law_197 : decode cL_law 197 = .ok (.aload_n 0, 1) := by decide +kernel
theorem dL_law_198 : decode cL_law 198 = .ok (.iload_n 3, 1) := by decide +kernel
theorem dL_law_199 : decode cL_law 199 = .ok (.iconst 2, 1) := by decide +kernel
theorem dL_law_200 : decode cL_law 200 = .ok (.iadd, 1) := by decide +kernel
theorem dL_law_201 : decode cL_law 201 = .ok (.iaload, 1) := by decide +kernel
theorem dL_law_202 : decode cL_law 202 = .ok (.aload_n 0, 1) := by decide +kernel
theorem dL_law_203 : decode cL_law 203 = .ok (.iload_n 3, 1) := by decide +kernel
theorem dL_law_204 : decode cL_law 204 = .ok (.iconst 3, 1) := by decide +kernel
theorem dL_law_205 : decode cL_law 205 = .ok (.iadd, 1) := by decide +kernel
theorem dL_law_206 : decode cL_law 206 = .ok (.iaload, 1) := by decide +kernel
theorem dL_law_207 : decode cL_law 207 = .ok (.aload_n 0, 1) := by decide +kernel
theorem dL_law_208 : decode cL_law 208 = .ok (.iload_n 3, 1) := by decide +kernel
theorem dL_law_209 : decode cL_law 209 = .ok (.iconst 4, 1) := by decide +kernel
theorem dL_law_210 : decode cL_law 210 = .ok (.iadd, 1) := by decide +kernel
theorem dL_law_211 : decode cL_law 211 = .ok (.iaload, 1) := by decide +kernel
theorem dL_law_212 : decode cL_law 212 = .ok (.aload_n 0, 1) := by decide +kernel
theorem dL_law_213 : decode cL_law 213 = .ok (.iload_n 3, 1) := by decide +kernel
theorem dL_law_214 : decode cL_law 214 = .ok (.iconst 5, 1) := by decide +kernel
theorem dL_law_215 : decode cL_law 215 = .ok (.iadd, 1) := by decide +kernel
theorem dL_law_216 : decode cL_law 216 = .ok (.iaload, 1) := by decide +kernel
theorem dL_law_217 : decode cL_law 217 = .ok (.invokevirtual 26, 3) := by decide +kernel
theorem dL_law_220 : decode cL_law 220 = .ok (.aload_n 2, 1) := by decide +kernel
theorem dL_law_221 : decode cL_law 221 = .ok (.aload_n 0, 1) := by decide +kernel
theorem dL_law_222 : decode cL_law 222 = .ok (.iload_n 3, 1) := by decide +kernel
theorem dL_law_223 : decode cL_law 223 = .ok (.iconst 1, 1) := by decide +kernel
theorem dL_law_224 : decode cL_law 224 = .ok (.iadd, 1) := by decide +kernel
theorem dL_law_225 : decode cL_law 225 = .ok (.iaload, 1) := by decide +kernel
theorem dL_law_226 : decode cL_law 226 = .ok (.aload_n 0, 1) := by decide +kernel
theorem dL_law_227 : decode cL_law 227 = .ok (.iload_n 3, 1) := by decide +kernel
theorem dL_law_228 : decode cL_law 228 = .ok (.iconst 2, 1) := by decide +kernel
theorem dL_law_229 : decode cL_law 229 = .ok (.iadd, 1) := by decide +kernel
theorem dL_law_230 : decode cL_law 230 = .ok (.iaload, 1) := by decide +kernel
theorem dL_law_231 : decode cL_law 231 = .ok (.aload_n 0, 1) := by decide +kernel
theorem dL_law_232 : decode cL_law 232 = .ok (.iload_n 3, 1) := by decide +kernel
theorem dL_law_233 : decode cL_law 233 = .ok (.iconst 3, 1) := by decide +kernel
theorem dL_law_234 : decode cL_law 234 = .ok (.iadd, 1) := by decide +kernel
theorem dL_law_235 : decode cL_law 235 = .ok (.iaload, 1) := by decide +kernel
theorem dL_law_236 : decode cL_law 236 = .ok (.aload_n 0, 1) := by decide +kernel
theorem dL_law_237 : decode cL_law 237 = .ok (.iload_n 3, 1) := by decide +kernel
theorem dL_law_238 : decode cL_law 238 = .ok (.iconst 4, 1) := by decide +kernel
theorem dL_law_239 : decode cL_law 239 = .ok (.iadd, 1) := by decide +kernel
theorem dL_law_240 : decode cL_law 240 = .ok (.iaload, 1) := by decide +kernel
theorem dL_law_241 : decode cL_law 241 = .ok (.aload_n 0, 1) := by decide +kernel
theorem dL_law_242 : decode cL_law 242 = .ok (.iload_n 3, 1) := by decide +kernel
theorem dL_law_243 : decode cL_law 243 = .ok (.iconst 5, 1) := by decide +kernel
theorem dL_law_244 : decode cL_law 244 = .ok (.iadd, 1) := by decide +kernel
theorem dL_law_245 : decode cL_law 245 = .ok (.iaload, 1) := by decide +kernel
theorem dL_law_246 : decode cL_law 246 = .ok (.invokevirtual 29, 3) := by decide +kernel
theorem dL_law_249 : decode cL_law 249 = .ok (.if_icmp .eq 354, 3) := by decide +kernel
theorem dL_law_252 : decode cL_law 252 = .ok (.iconst 0, 1) := by decide +kernel
theorem dL_law_253 : decode cL_law 253 = .ok (.ireturn, 1) := by decide +kernel
theorem dL_law_254 : decode cL_law 254 = .ok (.aload_n 1, 1) := by decide +kernel
theorem dL_law_255 : decode cL_law 255 = .ok (.aload_n 0, 1) := by decide +kernel
theorem dL_law_256 : decode cL_law 256 = .ok (.iload_n 3, 1) := by decide +kernel
theorem dL_law_257 : decode cL_law 257 = .ok (.iconst 1, 1) := by decide +kernel
theorem dL_law_258 : decode cL_law 258 = .ok (.iadd, 1) := by decide +kernel
theorem dL_law_259 : decode cL_law 259 = .ok (.iaload, 1) := by decide +kernel
theorem dL_law_260 : decode cL_law 260 = .ok (.aload_n 0, 1) := by decide +kernel
theorem dL_law_261 : decode cL_law 261 = .ok (.iload_n 3, 1) := by decide +kernel
theorem dL_law_262 : decode cL_law 262 = .ok (.iconst 2, 1) := by decide +kernel
theorem dL_law_263 : decode cL_law 263 = .ok (.iadd, 1) := by decide +kernel
theorem dL_law_264 : decode cL_law 264 = .ok (.iaload, 1) := by decide +kernel
theorem dL_law_265 : decode cL_law 265 = .ok (.aload_n 0, 1) := by decide +kernel
theorem dL_law_266 : decode cL_law 266 = .ok (.iload_n 3, 1) := by decide +kernel
theorem dL_law_267 : decode cL_law 267 = .ok (.iconst 3, 1) := by decide +kernel
theorem dL_law_268 : decode cL_law 268 = .ok (.iadd, 1) := by decide +kernel
theorem dL_law_269 : decode cL_law 269 = .ok (.iaload, 1) := by decide +kernel
theorem dL_law_270 : decode cL_law 270 = .ok (.aload_n 0, 1) := by decide +kernel
theorem dL_law_271 : decode cL_law 271 = .ok (.iload_n 3, 1) := by decide +kernel
theorem dL_law_272 : decode cL_law 272 = .ok (.iconst 4, 1) := by decide +kernel
theorem dL_law_273 : decode cL_law 273 = .ok (.iadd, 1) := by decide +kernel
theorem dL_law_274 : decode cL_law 274 = .ok (.iaload, 1) := by decide +kernel
theorem dL_law_275 : decode cL_law 275 = .ok (.invokevirtual 30, 3) := by decide +kernel
theorem dL_law_278 : decode cL_law 278 = .ok (.aload_n 2, 1) := by decide +kernel
theorem dL_law_279 : decode cL_law 279 = .ok (.aload_n 0, 1) := by decide +kernel
theorem dL_law_280 : decode cL_law 280 = .ok (.iload_n 3, 1) := by decide +kernel
theorem dL_law_281 : decode cL_law 281 = .ok (.iconst 1, 1) := by decide +kernel
theorem dL_law_282 : decode cL_law 282 = .ok (.iadd, 1) := by decide +kernel
theorem dL_law_283 : decode cL_law 283 = .ok (.iaload, 1) := by decide +kernel
theorem dL_law_284 : decode cL_law 284 = .ok (.aload_n 0, 1) := by decide +kernel
theorem dL_law_285 : decode cL_law 285 = .ok (.iload_n 3, 1) := by decide +kernel
theorem dL_law_286 : decode cL_law 286 = .ok (.iconst 2, 1) := by decide +kernel
theorem dL_law_287 : decode cL_law 287 = .ok (.iadd, 1) := by decide +kernel
theorem dL_law_288 : decode cL_law 288 = .ok (.iaload, 1) := by decide +kernel
theorem dL_law_289 : decode cL_law 289 = .ok (.aload_n 0, 1) := by decide +kernel
theorem dL_law_290 : decode cL_law 290 = .ok (.iload_n 3, 1) := by decide +kernel
theorem dL_law_291 : decode cL_law 291 = .ok (.iconst 3, 1) := by decide +kernel
theorem dL_law_292 : decode cL_law 292 = .ok (.iadd, 1) := by decide +kernel
theorem dL_law_293 : decode cL_law 293 = .ok (.iaload, 1) := by decide +kernel
theorem dL_law_294 : decode cL_law 294 = .ok (.aload_n 0, 1) := by decide +kernel
theorem dL_law_295 : decode cL_law 295 = .ok (.iload_n 3, 1) := by decide +kernel
theorem dL_law_296 : decode cL_law 296 = .ok (.iconst 4, 1) := by decide +kernel
theorem dL_law_297 : decode cL_law 297 = .ok (.iadd, 1) := by decide +kernel
theorem dL_law_298 : decode cL_law 298 = .ok (.iaload, 1) := by decide +kernel
theorem dL_law_299 : decode cL_law 299 = .ok (.invokevirtual 34, 3) := by decide +kernel
theorem dL_law_302 : decode cL_law 302 = .ok (.if_icmp .eq 301, 3) := by decide +kernel
theorem dL_law_305 : decode cL_law 305 = .ok (.iconst 0, 1) := by decide +kernel
theorem dL_law_306 : decode cL_law 306 = .ok (.ireturn, 1) := by decide +kernel
theorem dL_law_307 : decode cL_law 307 = .ok (.aload_n 1, 1) := by decide +kernel
theorem dL_law_308 : decode cL_law 308 = .ok (.invokevirtual 35, 3) := by decide +kernel
theorem dL_law_311 : decode cL_law 311 = .ok (.aload_n 2, 1) := by decide +kernel
theorem dL_law_312 : decode cL_law 312 = .ok (.invokevirtual 39, 3) := by decide +kernel
theorem dL_law_315 : decode cL_law 315 = .ok (.if_icmp .eq 288, 3) := by decide +kernel
theorem dL_law_318 : decode cL_law 318 = .ok (.iconst 0, 1) := by decide +kernel
theorem dL_law_319 : decode cL_law 319 = .ok (.ireturn, 1) := by decide +kernel
theorem dL_law_320 : decode cL_law 320 = .ok (.aload_n 1, 1) := by decide +kernel
theorem dL_law_321 : decode cL_law 321 = .ok (.aload_n 0, 1) := by decide +kernel
theorem dL_law_322 : decode cL_law 322 = .ok (.iload_n 3, 1) := by decide +kernel
theorem dL_law_323 : decode cL_law 323 = .ok (.iconst 1, 1) := by decide +kernel
theorem dL_law_324 : decode cL_law 324 = .ok (.iadd, 1) := by decide +kernel
theorem dL_law_325 : decode cL_law 325 = .ok (.iaload, 1) := by decide +kernel
theorem dL_law_326 : decode cL_law 326 = .ok (.aload_n 0, 1) := by decide +kernel
theorem dL_law_327 : decode cL_law 327 = .ok (.iload_n 3, 1) := by decide +kernel
theorem dL_law_328 : decode cL_law 328 = .ok (.iconst 2, 1) := by decide +kernel
theorem dL_law_329 : decode cL_law 329 = .ok (.iadd, 1) := by decide +kernel
theorem dL_law_330 : decode cL_law 330 = .ok (.iaload, 1) := by decide +kernel
theorem dL_law_331 : decode cL_law 331 = .ok (.aload_n 0, 1) := by decide +kernel
theorem dL_law_332 : decode cL_law 332 = .ok (.iload_n 3, 1) := by decide +kernel
theorem dL_law_333 : decode cL_law 333 = .ok (.iconst 3, 1) := by decide +kernel
theorem dL_law_334 : decode cL_law 334 = .ok (.iadd, 1) := by decide +kernel
theorem dL_law_335 : decode cL_law 335 = .ok (.iaload, 1) := by decide +kernel
theorem dL_law_336 : decode cL_law 336 = .ok (.aload_n 0, 1) := by decide +kernel
theorem dL_law_337 : decode cL_law 337 = .ok (.iload_n 3, 1) := by decide +kernel
theorem dL_law_338 : decode cL_law 338 = .ok (.iconst 4, 1) := by decide +kernel
theorem dL_law_339 : decode cL_law 339 = .ok (.iadd, 1) := by decide +kernel
theorem dL_law_340 : decode cL_law 340 = .ok (.iaload, 1) := by decide +kernel
theorem dL_law_341 : decode cL_law 341 = .ok (.invokevirtual 40, 3) := by decide +kernel
theorem dL_law_344 : decode cL_law 344 = .ok (.aload_n 2, 1) := by decide +kernel
theorem dL_law_345 : decode cL_law 345 = .ok (.aload_n 0, 1) := by decide +kernel
theorem dL_law_346 : decode cL_law 346 = .ok (.iload_n 3, 1) := by decide +kernel
theorem dL_law_347 : decode cL_law 347 = .ok (.iconst 1, 1) := by decide +kernel
theorem dL_law_348 : decode cL_law 348 = .ok (.iadd, 1) := by decide +kernel
theorem dL_law_349 : decode cL_law 349 = .ok (.iaload, 1) := by decide +kernel
theorem dL_law_350 : decode cL_law 350 = .ok (.aload_n 0, 1) := by decide +kernel
theorem dL_law_351 : decode cL_law 351 = .ok (.iload_n 3, 1) := by decide +kernel
theorem dL_law_352 : decode cL_law 352 = .ok (.iconst 2, 1) := by decide +kernel
theorem dL_law_353 : decode cL_law 353 = .ok (.iadd, 1) := by decide +kernel
theorem dL_law_354 : decode cL_law 354 = .ok (.iaload, 1) := by decide +kernel
theorem dL_law_355 : decode cL_law 355 = .ok (.aload_n 0, 1) := by decide +kernel
theorem dL_law_356 : decode cL_law 356 = .ok (.iload_n 3, 1) := by decide +kernel
theorem dL_law_357 : decode cL_law 357 = .ok (.iconst 3, 1) := by decide +kernel
theorem dL_law_358 : decode cL_law 358 = .ok (.iadd, 1) := by decide +kernel
theorem dL_law_359 : decode cL_law 359 = .ok (.iaload, 1) := by decide +kernel
theorem dL_law_360 : decode cL_law 360 = .ok (.aload_n 0, 1) := by decide +kernel
theorem dL_law_361 : decode cL_law 361 = .ok (.iload_n 3, 1) := by decide +kernel
theorem dL_law_362 : decode cL_law 362 = .ok (.iconst 4, 1) := by decide +kernel
theorem dL_law_363 : decode cL_law 363 = .ok (.iadd, 1) := by decide +kernel
theorem dL_law_364 : decode cL_law 364 = .ok (.iaload, 1) := by decide +kernel
theorem dL_law_365 : decode cL_law 365 = .ok (.invokevirtual 43, 3) := by decide +kernel
theorem dL_law_368 : decode cL_law 368 = .ok (.if_icmp .eq 235, 3) := by decide +kernel
theorem dL_law_371 : decode cL_law 371 = .ok (.iconst 0, 1) := by decide +kernel
theorem dL_law_372 : decode cL_law 372 = .ok (.ireturn, 1) := by decide +kernel
theorem dL_law_373 : decode cL_law 373 = .ok (.aload_n 1, 1) := by decide +kernel
theorem dL_law_374 : decode cL_law 374 = .ok (.aload_n 0, 1) := by decide +kernel
theorem dL_law_375 : decode cL_law 375 = .ok (.iload_n 3, 1) := by decide +kernel
theorem dL_law_376 : decode cL_law 376 = .ok (.iconst 1, 1) := by decide +kernel
theorem dL_law_377 : decode cL_law 377 = .ok (.iadd, 1) := by decide +kernel
theorem dL_law_378 : decode cL_law 378 = .ok (.iaload, 1) := by decide +kernel
theorem dL_law_379 : decode cL_law 379 = .ok (.aload_n 0, 1) := by decide +kernel
theorem dL_law_380 : decode cL_law 380 = .ok (.iload_n 3, 1) := by decide +kernel
theorem dL_law_381 : decode cL_law 381 = .ok (.iconst 2, 1) := by decide +kernel
theorem dL_law_382 : decode cL_law 382 = .ok (.iadd, 1) := by decide +kernel
theorem dL_law_383 : decode cL_law 383 = .ok (.iaload, 1) := by decide +kernel
theorem dL_law_384 : decode cL_law 384 = .ok (.aload_n 0, 1) := by decide +kernel
theorem dL_law_385 : decode cL_law 385 = .ok (.iload_n 3, 1) := by decide +kernel
theorem dL_law_386 : decode cL_law 386 = .ok (.iconst 3, 1) := by decide +kernel
theorem dL_law_387 : decode cL_law 387 = .ok (.iadd, 1) := by decide +kernel
theorem dL_law_388 : decode cL_law 388 = .ok (.iaload, 1) := by decide +kernel
theorem dL_law_389 : decode cL_law 389 = .ok (.invokevirtual 44, 3) := by decide +kernel
theorem dL_law_392 : decode cL_law 392 = .ok (.aload_n 2, 1) := by decide +kernel
theorem dL_law_393 : decode cL_law 393 = .ok (.aload_n 0, 1) := by decide +kernel
theorem dL_law_394 : decode cL_law 394 = .ok (.iload_n 3, 1) := by decide +kernel
theorem dL_law_395 : decode cL_law 395 = .ok (.iconst 1, 1) := by decide +kernel
theorem dL_law_396 : decode cL_law 396 = .ok (.iadd, 1) := by decide +kernel
theorem dL_law_397 : decode cL_law 397 = .ok (.iaload, 1) := by decide +kernel
theorem dL_law_398 : decode cL_law 398 = .ok (.aload_n 0, 1) := by decide +kernel
theorem dL_law_399 : decode cL_law 399 = .ok (.iload_n 3, 1) := by decide +kernel
theorem dL_law_400 : decode cL_law 400 = .ok (.iconst 2, 1) := by decide +kernel
theorem dL_law_401 : decode cL_law 401 = .ok (.iadd, 1) := by decide +kernel
theorem dL_law_402 : decode cL_law 402 = .ok (.iaload, 1) := by decide +kernel
theorem dL_law_403 : decode cL_law 403 = .ok (.aload_n 0, 1) := by decide +kernel
theorem dL_law_404 : decode cL_law 404 = .ok (.iload_n 3, 1) := by decide +kernel
theorem dL_law_405 : decode cL_law 405 = .ok (.iconst 3, 1) := by decide +kernel
theorem dL_law_406 : decode cL_law 406 = .ok (.iadd, 1) := by decide +kernel
theorem dL_law_407 : decode cL_law 407 = .ok (.iaload, 1) := by decide +kernel
theorem dL_law_408 : decode cL_law 408 = .ok (.invokevirtual 48, 3) := by decide +kernel
theorem dL_law_411 : decode cL_law 411 = .ok (.if_icmp .eq 192, 3) := by decide +kernel
theorem dL_law_414 : decode cL_law 414 = .ok (.iconst 0, 1) := by decide +kernel
theorem dL_law_415 : decode cL_law 415 = .ok (.ireturn, 1) := by decide +kernel
theorem dL_law_416 : decode cL_law 416 = .ok (.aload_n 1, 1) := by decide +kernel
theorem dL_law_417 : decode cL_law 417 = .ok (.invokevirtual 49, 3) := by decide +kernel
theorem dL_law_420 : decode cL_law 420 = .ok (.aload_n 2, 1) := by decide +kernel
theorem dL_law_421 : decode cL_law 421 = .ok (.invokevirtual 52, 3) := by decide +kernel
theorem dL_law_424 : decode cL_law 424 = .ok (.if_icmp .eq 179, 3) := by decide +kernel
theorem dL_law_427 : decode cL_law 427 = .ok (.iconst 0, 1) := by decide +kernel
theorem dL_law_428 : decode cL_law 428 = .ok (.ireturn, 1) := by decide +kernel
theorem dL_law_429 : decode cL_law 429 = .ok (.aload_n 1, 1) := by decide +kernel
theorem dL_law_430 : decode cL_law 430 = .ok (.invokevirtual 53, 3) := by decide +kernel
theorem dL_law_433 : decode cL_law 433 = .ok (.aload_n 2, 1) := by decide +kernel
theorem dL_law_434 : decode cL_law 434 = .ok (.invokevirtual 56, 3) := by decide +kernel
theorem dL_law_437 : decode cL_law 437 = .ok (.if_icmp .eq 166, 3) := by decide +kernel
theorem dL_law_440 : decode cL_law 440 = .ok (.iconst 0, 1) := by decide +kernel
theorem dL_law_441 : decode cL_law 441 = .ok (.ireturn, 1) := by decide +kernel
theorem dL_law_442 : decode cL_law 442 = .ok (.aload_n 1, 1) := by decide +kernel
theorem dL_law_443 : decode cL_law 443 = .ok (.aload_n 0, 1) := by decide +kernel
theorem dL_law_444 : decode cL_law 444 = .ok (.iload_n 3, 1) := by decide +kernel
theorem dL_law_445 : decode cL_law 445 = .ok (.iconst 1, 1) := by decide +kernel
theorem dL_law_446 : decode cL_law 446 = .ok (.iadd, 1) := by decide +kernel
theorem dL_law_447 : decode cL_law 447 = .ok (.iaload, 1) := by decide +kernel
theorem dL_law_448 : decode cL_law 448 = .ok (.invokevirtual 57, 3) := by decide +kernel
theorem dL_law_451 : decode cL_law 451 = .ok (.aload_n 2, 1) := by decide +kernel
theorem dL_law_452 : decode cL_law 452 = .ok (.aload_n 0, 1) := by decide +kernel
theorem dL_law_453 : decode cL_law 453 = .ok (.iload_n 3, 1) := by decide +kernel
theorem dL_law_454 : decode cL_law 454 = .ok (.iconst 1, 1) := by decide +kernel
theorem dL_law_455 : decode cL_law 455 = .ok (.iadd, 1) := by decide +kernel
theorem dL_law_456 : decode cL_law 456 = .ok (.iaload, 1) := by decide +kernel
theorem dL_law_457 : decode cL_law 457 = .ok (.invokevirtual 61, 3) := by decide +kernel
theorem dL_law_460 : decode cL_law 460 = .ok (.if_icmp .eq 143, 3) := by decide +kernel
theorem dL_law_463 : decode cL_law 463 = .ok (.iconst 0, 1) := by decide +kernel
theorem dL_law_464 : decode cL_law 464 = .ok (.ireturn, 1) := by decide +kernel
theorem dL_law_465 : decode cL_law 465 = .ok (.aload_n 1, 1) := by decide +kernel
theorem dL_law_466 : decode cL_law 466 = .ok (.invokevirtual 62, 3) := by decide +kernel
theorem dL_law_469 : decode cL_law 469 = .ok (.aload_n 2, 1) := by decide +kernel
theorem dL_law_470 : decode cL_law 470 = .ok (.invokevirtual 65, 3) := by decide +kernel
theorem dL_law_473 : decode cL_law 473 = .ok (.if_icmp .eq 130, 3) := by decide +kernel
theorem dL_law_476 : decode cL_law 476 = .ok (.iconst 0, 1) := by decide +kernel
theorem dL_law_477 : decode cL_law 477 = .ok (.ireturn, 1) := by decide +kernel
theorem dL_law_478 : decode cL_law 478 = .ok (.aload_n 1, 1) := by decide +kernel
theorem dL_law_479 : decode cL_law 479 = .ok (.invokevirtual 66, 3) := by decide +kernel
theorem dL_law_482 : decode cL_law 482 = .ok (.aload_n 2, 1) := by decide +kernel
theorem dL_law_483 : decode cL_law 483 = .ok (.invokevirtual 69, 3) := by decide +kernel
theorem dL_law_486 : decode cL_law 486 = .ok (.if_icmp .eq 117, 3) := by decide +kernel
theorem dL_law_489 : decode cL_law 489 = .ok (.iconst 0, 1) := by decide +kernel
theorem dL_law_490 : decode cL_law 490 = .ok (.ireturn, 1) := by decide +kernel
theorem dL_law_491 : decode cL_law 491 = .ok (.aload_n 1, 1) := by decide +kernel
theorem dL_law_492 : decode cL_law 492 = .ok (.aload_n 0, 1) := by decide +kernel
theorem dL_law_493 : decode cL_law 493 = .ok (.iload_n 3, 1) := by decide +kernel
theorem dL_law_494 : decode cL_law 494 = .ok (.iconst 1, 1) := by decide +kernel
theorem dL_law_495 : decode cL_law 495 = .ok (.iadd, 1) := by decide +kernel
theorem dL_law_496 : decode cL_law 496 = .ok (.iaload, 1) := by decide +kernel
theorem dL_law_497 : decode cL_law 497 = .ok (.invokevirtual 70, 3) := by decide +kernel
theorem dL_law_500 : decode cL_law 500 = .ok (.aload_n 2, 1) := by decide +kernel
theorem dL_law_501 : decode cL_law 501 = .ok (.aload_n 0, 1) := by decide +kernel
theorem dL_law_502 : decode cL_law 502 = .ok (.iload_n 3, 1) := by decide +kernel
theorem dL_law_503 : decode cL_law 503 = .ok (.iconst 1, 1) := by decide +kernel
theorem dL_law_504 : decode cL_law 504 = .ok (.iadd, 1) := by decide +kernel
theorem dL_law_505 : decode cL_law 505 = .ok (.iaload, 1) := by decide +kernel
theorem dL_law_506 : decode cL_law 506 = .ok (.invokevirtual 73, 3) := by decide +kernel
theorem dL_law_509 : decode cL_law 509 = .ok (.if_icmp .eq 94, 3) := by decide +kernel
theorem dL_law_512 : decode cL_law 512 = .ok (.iconst 0, 1) := by decide +kernel
theorem dL_law_513 : decode cL_law 513 = .ok (.ireturn, 1) := by decide +kernel
theorem dL_law_514 : decode cL_law 514 = .ok (.aload_n 1, 1) := by decide +kernel
theorem dL_law_515 : decode cL_law 515 = .ok (.aload_n 0, 1) := by decide +kernel
theorem dL_law_516 : decode cL_law 516 = .ok (.iload_n 3, 1) := by decide +kernel
theorem dL_law_517 : decode cL_law 517 = .ok (.iconst 1, 1) := by decide +kernel
theorem dL_law_518 : decode cL_law 518 = .ok (.iadd, 1) := by decide +kernel
theorem dL_law_519 : decode cL_law 519 = .ok (.iaload, 1) := by decide +kernel
theorem dL_law_520 : decode cL_law 520 = .ok (.aload_n 0, 1) := by decide +kernel
theorem dL_law_521 : decode cL_law 521 = .ok (.iload_n 3, 1) := by decide +kernel
theorem dL_law_522 : decode cL_law 522 = .ok (.iconst 2, 1) := by decide +kernel
theorem dL_law_523 : decode cL_law 523 = .ok (.iadd, 1) := by decide +kernel
theorem dL_law_524 : decode cL_law 524 = .ok (.iaload, 1) := by decide +kernel
theorem dL_law_525 : decode cL_law 525 = .ok (.invokevirtual 74, 3) := by decide +kernel
theorem dL_law_528 : decode cL_law 528 = .ok (.aload_n 2, 1) := by decide +kernel
theorem dL_law_529 : decode cL_law 529 = .ok (.aload_n 0, 1) := by decide +kernel
theorem dL_law_530 : decode cL_law 530 = .ok (.iload_n 3, 1) := by decide +kernel
theorem dL_law_531 : decode cL_law 531 = .ok (.iconst 1, 1) := by decide +kernel
theorem dL_law_532 : decode cL_law 532 = .ok (.iadd, 1) := by decide +kernel
theorem dL_law_533 : decode cL_law 533 = .ok (.iaload, 1) := by decide +kernel
theorem dL_law_534 : decode cL_law 534 = .ok (.aload_n 0, 1) := by decide +kernel
theorem dL_law_535 : decode cL_law 535 = .ok (.iload_n 3, 1) := by decide +kernel
theorem dL_law_536 : decode cL_law 536 = .ok (.iconst 2, 1) := by decide +kernel
theorem dL_law_537 : decode cL_law 537 = .ok (.iadd, 1) := by decide +kernel
theorem dL_law_538 : decode cL_law 538 = .ok (.iaload, 1) := by decide +kernel
theorem dL_law_539 : decode cL_law 539 = .ok (.invokevirtual 78, 3) := by decide +kernel
theorem dL_law_542 : decode cL_law 542 = .ok (.if_icmp .eq 61, 3) := by decide +kernel
theorem dL_law_545 : decode cL_law 545 = .ok (.iconst 0, 1) := by decide +kernel
theorem dL_law_546 : decode cL_law 546 = .ok (.ireturn, 1) := by decide +kernel
theorem dL_law_547 : decode cL_law 547 = .ok (.aload_n 1, 1) := by decide +kernel
theorem dL_law_548 : decode cL_law 548 = .ok (.aload_n 0, 1) := by decide +kernel
theorem dL_law_549 : decode cL_law 549 = .ok (.iload_n 3, 1) := by decide +kernel
theorem dL_law_550 : decode cL_law 550 = .ok (.iconst 1, 1) := by decide +kernel
theorem dL_law_551 : decode cL_law 551 = .ok (.iadd, 1) := by decide +kernel
theorem dL_law_552 : decode cL_law 552 = .ok (.iaload, 1) := by decide +kernel
theorem dL_law_553 : decode cL_law 553 = .ok (.aload_n 0, 1) := by decide +kernel
theorem dL_law_554 : decode cL_law 554 = .ok (.iload_n 3, 1) := by decide +kernel
theorem dL_law_555 : decode cL_law 555 = .ok (.iconst 2, 1) := by decide +kernel
theorem dL_law_556 : decode cL_law 556 = .ok (.iadd, 1) := by decide +kernel
theorem dL_law_557 : decode cL_law 557 = .ok (.iaload, 1) := by decide +kernel
theorem dL_law_558 : decode cL_law 558 = .ok (.aload_n 0, 1) := by decide +kernel
theorem dL_law_559 : decode cL_law 559 = .ok (.iload_n 3, 1) := by decide +kernel
theorem dL_law_560 : decode cL_law 560 = .ok (.iconst 3, 1) := by decide +kernel
theorem dL_law_561 : decode cL_law 561 = .ok (.iadd, 1) := by decide +kernel
theorem dL_law_562 : decode cL_law 562 = .ok (.iaload, 1) := by decide +kernel
theorem dL_law_563 : decode cL_law 563 = .ok (.invokevirtual 79, 3) := by decide +kernel
theorem dL_law_566 : decode cL_law 566 = .ok (.aload_n 2, 1) := by decide +kernel
theorem dL_law_567 : decode cL_law 567 = .ok (.aload_n 0, 1) := by decide +kernel
theorem dL_law_568 : decode cL_law 568 = .ok (.iload_n 3, 1) := by decide +kernel
theorem dL_law_569 : decode cL_law 569 = .ok (.iconst 1, 1) := by decide +kernel
theorem dL_law_570 : decode cL_law 570 = .ok (.iadd, 1) := by decide +kernel
theorem dL_law_571 : decode cL_law 571 = .ok (.iaload, 1) := by decide +kernel
theorem dL_law_572 : decode cL_law 572 = .ok (.aload_n 0, 1) := by decide +kernel
theorem dL_law_573 : decode cL_law 573 = .ok (.iload_n 3, 1) := by decide +kernel
theorem dL_law_574 : decode cL_law 574 = .ok (.iconst 2, 1) := by decide +kernel
theorem dL_law_575 : decode cL_law 575 = .ok (.iadd, 1) := by decide +kernel
theorem dL_law_576 : decode cL_law 576 = .ok (.iaload, 1) := by decide +kernel
theorem dL_law_577 : decode cL_law 577 = .ok (.aload_n 0, 1) := by decide +kernel
theorem dL_law_578 : decode cL_law 578 = .ok (.iload_n 3, 1) := by decide +kernel
theorem dL_law_579 : decode cL_law 579 = .ok (.iconst 3, 1) := by decide +kernel
theorem dL_law_580 : decode cL_law 580 = .ok (.iadd, 1) := by decide +kernel
theorem dL_law_581 : decode cL_law 581 = .ok (.iaload, 1) := by decide +kernel
theorem dL_law_582 : decode cL_law 582 = .ok (.invokevirtual 82, 3) := by decide +kernel
theorem dL_law_585 : decode cL_law 585 = .ok (.if_icmp .eq 18, 3) := by decide +kernel
theorem dL_law_588 : decode cL_law 588 = .ok (.iconst 0, 1) := by decide +kernel
theorem dL_law_589 : decode cL_law 589 = .ok (.ireturn, 1) := by decide +kernel
theorem dL_law_590 : decode cL_law 590 = .ok (.aload_n 1, 1) := by decide +kernel
theorem dL_law_591 : decode cL_law 591 = .ok (.invokevirtual 83, 3) := by decide +kernel
theorem dL_law_594 : decode cL_law 594 = .ok (.aload_n 2, 1) := by decide +kernel
theorem dL_law_595 : decode cL_law 595 = .ok (.invokevirtual 87, 3) := by decide +kernel
theorem dL_law_598 : decode cL_law 598 = .ok (.if_icmp .eq 5, 3) := by decide +kernel
theorem dL_law_601 : decode cL_law 601 = .ok (.iconst 0, 1) := by decide +kernel
theorem dL_law_602 : decode cL_law 602 = .ok (.ireturn, 1) := by decide +kernel
theorem dL_law_603 : decode cL_law 603 = .ok (.iinc 3 6, 3) := by decide +kernel
theorem dL_law_606 : decode cL_law 606 = .ok (.goto (-568), 3) := by decide +kernel
theorem dL_law_609 : decode cL_law 609 = .ok (.iconst 1, 1) := by decide +kernel
theorem dL_law_610 : decode cL_law 610 = .ok (.ireturn, 1) := by decide +kernel
