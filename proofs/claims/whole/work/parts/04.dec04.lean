theorem dX12_isTrue_169 : decode cX12_isTrue 169 = .ok (.iload 6, 2) := by decide +kernel
theorem dX12_isTrue_171 : decode cX12_isTrue 171 = .ok (.iadd, 1) := by decide +kernel
theorem dX12_isTrue_172 : decode cX12_isTrue 172 = .ok (.istore 4, 2) := by decide +kernel
theorem dX12_isTrue_174 : decode cX12_isTrue 174 = .ok (.goto 65, 3) := by decide +kernel
theorem dX12_isTrue_177 : decode cX12_isTrue 177 = .ok (.iload_n 2, 1) := by decide +kernel
theorem dX12_isTrue_178 : decode cX12_isTrue 178 = .ok (.iconst 1, 1) := by decide +kernel
theorem dX12_isTrue_179 : decode cX12_isTrue 179 = .ok (.isub, 1) := by decide +kernel
theorem dX12_isTrue_180 : decode cX12_isTrue 180 = .ok (.istore_n 2, 1) := by decide +kernel
theorem dX12_isTrue_181 : decode cX12_isTrue 181 = .ok (.goto 58, 3) := by decide +kernel
theorem dX12_isTrue_184 : decode cX12_isTrue 184 = .ok (.iload_n 2, 1) := by decide +kernel
theorem dX12_isTrue_185 : decode cX12_isTrue 185 = .ok (.iconst 1, 1) := by decide +kernel
theorem dX12_isTrue_186 : decode cX12_isTrue 186 = .ok (.isub, 1) := by decide +kernel
theorem dX12_isTrue_187 : decode cX12_isTrue 187 = .ok (.istore_n 2, 1) := by decide +kernel
theorem dX12_isTrue_188 : decode cX12_isTrue 188 = .ok (.iload 5, 2) := by decide +kernel
theorem dX12_isTrue_190 : decode cX12_isTrue 190 = .ok (.iconst 5, 1) := by decide +kernel
theorem dX12_isTrue_191 : decode cX12_isTrue 191 = .ok (.if_icmp .eq 10, 3) := by decide +kernel
theorem dX12_isTrue_194 : decode cX12_isTrue 194 = .ok (.iload 5, 2) := by decide +kernel
theorem dX12_isTrue_196 : decode cX12_isTrue 196 = .ok (.bipush 6, 2) := by decide +kernel
theorem dX12_isTrue_198 : decode cX12_isTrue 198 = .ok (.if_icmp .ne 14, 3) := by decide +kernel
theorem dX12_isTrue_201 : decode cX12_isTrue 201 = .ok (.aload_n 0, 1) := by decide +kernel
theorem dX12_isTrue_202 : decode cX12_isTrue 202 = .ok (.getfield 126, 3) := by decide +kernel
theorem dX12_isTrue_205 : decode cX12_isTrue 205 = .ok (.iload_n 2, 1) := by decide +kernel
theorem dX12_isTrue_206 : decode cX12_isTrue 206 = .ok (.iaload, 1) := by decide +kernel
theorem dX12_isTrue_207 : decode cX12_isTrue 207 = .ok (.ifCond .ne 5, 3) := by decide +kernel
theorem dX12_isTrue_210 : decode cX12_isTrue 210 = .ok (.iconst 0, 1) := by decide +kernel
theorem dX12_isTrue_211 : decode cX12_isTrue 211 = .ok (.ireturn, 1) := by decide +kernel
theorem dX12_isTrue_212 : decode cX12_isTrue 212 = .ok (.aload_n 0, 1) := by decide +kernel
theorem dX12_isTrue_213 : decode cX12_isTrue 213 = .ok (.getfield 126, 3) := by decide +kernel
theorem dX12_isTrue_216 : decode cX12_isTrue 216 = .ok (.iload_n 2, 1) := by decide +kernel
theorem dX12_isTrue_217 : decode cX12_isTrue 217 = .ok (.iconst 1, 1) := by decide +kernel
theorem dX12_isTrue_218 : decode cX12_isTrue 218 = .ok (.isub, 1) := by decide +kernel
theorem dX12_isTrue_219 : decode cX12_isTrue 219 = .ok (.iload 5, 2) := by decide +kernel
theorem dX12_isTrue_221 : decode cX12_isTrue 221 = .ok (.aload_n 0, 1) := by decide +kernel
theorem dX12_isTrue_222 : decode cX12_isTrue 222 = .ok (.getfield 126, 3) := by decide +kernel
theorem dX12_isTrue_225 : decode cX12_isTrue 225 = .ok (.iload_n 2, 1) := by decide +kernel
theorem dX12_isTrue_226 : decode cX12_isTrue 226 = .ok (.iconst 1, 1) := by decide +kernel
theorem dX12_isTrue_227 : decode cX12_isTrue 227 = .ok (.isub, 1) := by decide +kernel
theorem dX12_isTrue_228 : decode cX12_isTrue 228 = .ok (.iaload, 1) := by decide +kernel
theorem dX12_isTrue_229 : decode cX12_isTrue 229 = .ok (.aload_n 0, 1) := by decide +kernel
theorem dX12_isTrue_230 : decode cX12_isTrue 230 = .ok (.getfield 126, 3) := by decide +kernel
theorem dX12_isTrue_233 : decode cX12_isTrue 233 = .ok (.iload_n 2, 1) := by decide +kernel
theorem dX12_isTrue_234 : decode cX12_isTrue 234 = .ok (.iaload, 1) := by decide +kernel
theorem dX12_isTrue_235 : decode cX12_isTrue 235 = .ok (.invokestatic 450, 3) := by decide +kernel
theorem dX12_isTrue_238 : decode cX12_isTrue 238 = .ok (.iastore, 1) := by decide +kernel
theorem dX12_isTrue_239 : decode cX12_isTrue 239 = .ok (.goto (-220), 3) := by decide +kernel
theorem dX12_isTrue_242 : decode cX12_isTrue 242 = .ok (.iload_n 2, 1) := by decide +kernel
theorem dX12_isTrue_243 : decode cX12_isTrue 243 = .ok (.ifCond .eq 13, 3) := by decide +kernel
theorem dX12_isTrue_246 : decode cX12_isTrue 246 = .ok (.aload_n 0, 1) := by decide +kernel
theorem dX12_isTrue_247 : decode cX12_isTrue 247 = .ok (.getfield 126, 3) := by decide +kernel
theorem dX12_isTrue_250 : decode cX12_isTrue 250 = .ok (.iconst 0, 1) := by decide +kernel
theorem dX12_isTrue_251 : decode cX12_isTrue 251 = .ok (.iaload, 1) := by decide +kernel
theorem dX12_isTrue_252 : decode cX12_isTrue 252 = .ok (.iconst 1, 1) := by decide +kernel
theorem dX12_isTrue_253 : decode cX12_isTrue 253 = .ok (.if_icmp .ne 7, 3) := by decide +kernel
theorem dX12_isTrue_256 : decode cX12_isTrue 256 = .ok (.iconst 1, 1) := by decide +kernel
theorem dX12_isTrue_257 : decode cX12_isTrue 257 = .ok (.goto 4, 3) := by decide +kernel
theorem dX12_isTrue_260 : decode cX12_isTrue 260 = .ok (.iconst 0, 1) := by decide +kernel
theorem dX12_isTrue_261 : decode cX12_isTrue 261 = .ok (.ireturn, 1) := by decide +kernel
theorem dX12_setsFacts_0 : decode cX12_setsFacts 0 = .ok (.aload_n 0, 1) := by decide +kernel
theorem dX12_setsFacts_1 : decode cX12_setsFacts 1 = .ok (.getfield 129, 3) := by decide +kernel
theorem dX12_setsFacts_4 : decode cX12_setsFacts 4 = .ok (.iconst 0, 1) := by decide +kernel
theorem dX12_setsFacts_5 : decode cX12_setsFacts 5 = .ok (.iload_n 1, 1) := by decide +kernel
theorem dX12_setsFacts_6 : decode cX12_setsFacts 6 = .ok (.iastore, 1) := by decide +kernel
theorem dX12_setsFacts_7 : decode cX12_setsFacts 7 = .ok (.aload_n 0, 1) := by decide +kernel
theorem dX12_setsFacts_8 : decode cX12_setsFacts 8 = .ok (.getfield 129, 3) := by decide +kernel
theorem dX12_setsFacts_11 : decode cX12_setsFacts 11 = .ok (.iconst 1, 1) := by decide +kernel
theorem dX12_setsFacts_12 : decode cX12_setsFacts 12 = .ok (.iload_n 2, 1) := by decide +kernel
theorem dX12_setsFacts_13 : decode cX12_setsFacts 13 = .ok (.iastore, 1) := by decide +kernel
theorem dX12_setsFacts_14 : decode cX12_setsFacts 14 = .ok (.aload_n 0, 1) := by decide +kernel
theorem dX12_setsFacts_15 : decode cX12_setsFacts 15 = .ok (.getfield 129, 3) := by decide +kernel
theorem dX12_setsFacts_18 : decode cX12_setsFacts 18 = .ok (.iconst 2, 1) := by decide +kernel
theorem dX12_setsFacts_19 : decode cX12_setsFacts 19 = .ok (.iload_n 3, 1) := by decide +kernel
theorem dX12_setsFacts_20 : decode cX12_setsFacts 20 = .ok (.iastore, 1) := by decide +kernel
theorem dX12_setsFacts_21 : decode cX12_setsFacts 21 = .ok (.aload_n 0, 1) := by decide +kernel
theorem dX12_setsFacts_22 : decode cX12_setsFacts 22 = .ok (.getfield 129, 3) := by decide +kernel
theorem dX12_setsFacts_25 : decode cX12_setsFacts 25 = .ok (.iconst 3, 1) := by decide +kernel
theorem dX12_setsFacts_26 : decode cX12_setsFacts 26 = .ok (.iload 4, 2) := by decide +kernel
theorem dX12_setsFacts_28 : decode cX12_setsFacts 28 = .ok (.iastore, 1) := by decide +kernel
theorem dX12_setsFacts_29 : decode cX12_setsFacts 29 = .ok (.aload_n 0, 1) := by decide +kernel
theorem dX12_setsFacts_30 : decode cX12_setsFacts 30 = .ok (.getfield 129, 3) := by decide +kernel
theorem dX12_setsFacts_33 : decode cX12_setsFacts 33 = .ok (.iconst 4, 1) := by decide +kernel
theorem dX12_setsFacts_34 : decode cX12_setsFacts 34 = .ok (.iload 5, 2) := by decide +kernel
theorem dX12_setsFacts_36 : decode cX12_setsFacts 36 = .ok (.iconst (-1), 1) := by decide +kernel
theorem dX12_setsFacts_37 : decode cX12_setsFacts 37 = .ok (.if_icmp .ne 7, 3) := by decide +kernel
theorem dX12_setsFacts_40 : decode cX12_setsFacts 40 = .ok (.iconst (-1), 1) := by decide +kernel
theorem dX12_setsFacts_41 : decode cX12_setsFacts 41 = .ok (.goto 10, 3) := by decide +kernel
theorem dX12_setsFacts_44 : decode cX12_setsFacts 44 = .ok (.aload_n 0, 1) := by decide +kernel
theorem dX12_setsFacts_45 : decode cX12_setsFacts 45 = .ok (.getfield 16, 3) := by decide +kernel
theorem dX12_setsFacts_48 : decode cX12_setsFacts 48 = .ok (.iload 5, 2) := by decide +kernel
theorem dX12_setsFacts_50 : decode cX12_setsFacts 50 = .ok (.iaload, 1) := by decide +kernel
theorem dX12_setsFacts_51 : decode cX12_setsFacts 51 = .ok (.iastore, 1) := by decide +kernel
theorem dX12_setsFacts_52 : decode cX12_setsFacts 52 = .ok (.return_, 1) := by decide +kernel
theorem dX12_numberBy_0 : decode cX12_numberBy 0 = .ok (.aload_n 0, 1) := by decide +kernel
theorem dX12_numberBy_1 : decode cX12_numberBy 1 = .ok (.aload_n 0, 1) := by decide +kernel
theorem dX12_numberBy_2 : decode cX12_numberBy 2 = .ok (.getfield 129, 3) := by decide +kernel
theorem dX12_numberBy_5 : decode cX12_numberBy 5 = .ok (.iconst 0, 1) := by decide +kernel
theorem dX12_numberBy_6 : decode cX12_numberBy 6 = .ok (.iaload, 1) := by decide +kernel
theorem dX12_numberBy_7 : decode cX12_numberBy 7 = .ok (.invokevirtual 453, 3) := by decide +kernel
theorem dX12_numberBy_10 : decode cX12_numberBy 10 = .ok (.aload_n 0, 1) := by decide +kernel
theorem dX12_numberBy_11 : decode cX12_numberBy 11 = .ok (.getfield 441, 3) := by decide +kernel
theorem dX12_numberBy_14 : decode cX12_numberBy 14 = .ok (.iconst 1, 1) := by decide +kernel
theorem dX12_numberBy_15 : decode cX12_numberBy 15 = .ok (.isub, 1) := by decide +kernel
theorem dX12_numberBy_16 : decode cX12_numberBy 16 = .ok (.istore_n 3, 1) := by decide +kernel
theorem dX12_numberBy_17 : decode cX12_numberBy 17 = .ok (.iload_n 3, 1) := by decide +kernel
theorem dX12_numberBy_18 : decode cX12_numberBy 18 = .ok (.ifCond .lt 91, 3) := by decide +kernel
theorem dX12_numberBy_21 : decode cX12_numberBy 21 = .ok (.aload_n 0, 1) := by decide +kernel
theorem dX12_numberBy_22 : decode cX12_numberBy 22 = .ok (.getfield 104, 3) := by decide +kernel
theorem dX12_numberBy_25 : decode cX12_numberBy 25 = .ok (.iload_n 3, 1) := by decide +kernel
theorem dX12_numberBy_26 : decode cX12_numberBy 26 = .ok (.iaload, 1) := by decide +kernel
theorem dX12_numberBy_27 : decode cX12_numberBy 27 = .ok (.iconst 1, 1) := by decide +kernel
theorem dX12_numberBy_28 : decode cX12_numberBy 28 = .ok (.isub, 1) := by decide +kernel
theorem dX12_numberBy_29 : decode cX12_numberBy 29 = .ok (.istore 4, 2) := by decide +kernel
theorem dX12_numberBy_31 : decode cX12_numberBy 31 = .ok (.iload 4, 2) := by decide +kernel
theorem dX12_numberBy_33 : decode cX12_numberBy 33 = .ok (.ifCond .lt 70, 3) := by decide +kernel
theorem dX12_numberBy_36 : decode cX12_numberBy 36 = .ok (.aload_n 0, 1) := by decide +kernel
theorem dX12_numberBy_37 : decode cX12_numberBy 37 = .ok (.iload_n 3, 1) := by decide +kernel
theorem dX12_numberBy_38 : decode cX12_numberBy 38 = .ok (.aload_n 0, 1) := by decide +kernel
theorem dX12_numberBy_39 : decode cX12_numberBy 39 = .ok (.getfield 129, 3) := by decide +kernel
theorem dX12_numberBy_42 : decode cX12_numberBy 42 = .ok (.iconst 0, 1) := by decide +kernel
theorem dX12_numberBy_43 : decode cX12_numberBy 43 = .ok (.iaload, 1) := by decide +kernel
theorem dX12_numberBy_44 : decode cX12_numberBy 44 = .ok (.invokevirtual 447, 3) := by decide +kernel
theorem dX12_numberBy_47 : decode cX12_numberBy 47 = .ok (.ifCond .eq 56, 3) := by decide +kernel
theorem dX12_numberBy_50 : decode cX12_numberBy 50 = .ok (.bipush 10, 2) := by decide +kernel
theorem dX12_numberBy_52 : decode cX12_numberBy 52 = .ok (.iload_n 3, 1) := by decide +kernel
theorem dX12_numberBy_53 : decode cX12_numberBy 53 = .ok (.imul, 1) := by decide +kernel
theorem dX12_numberBy_54 : decode cX12_numberBy 54 = .ok (.iload 4, 2) := by decide +kernel
theorem dX12_numberBy_56 : decode cX12_numberBy 56 = .ok (.iadd, 1) := by decide +kernel
theorem dX12_numberBy_57 : decode cX12_numberBy 57 = .ok (.istore 5, 2) := by decide +kernel
theorem dX12_numberBy_59 : decode cX12_numberBy 59 = .ok (.aload_n 0, 1) := by decide +kernel
theorem dX12_numberBy_60 : decode cX12_numberBy 60 = .ok (.getfield 107, 3) := by decide +kernel
theorem dX12_numberBy_63 : decode cX12_numberBy 63 = .ok (.iload 5, 2) := by decide +kernel
theorem dX12_numberBy_65 : decode cX12_numberBy 65 = .ok (.iaload, 1) := by decide +kernel
theorem dX12_numberBy_66 : decode cX12_numberBy 66 = .ok (.iload_n 1, 1) := by decide +kernel
theorem dX12_numberBy_67 : decode cX12_numberBy 67 = .ok (.if_icmp .ne 30, 3) := by decide +kernel
theorem dX12_numberBy_70 : decode cX12_numberBy 70 = .ok (.aload_n 0, 1) := by decide +kernel
theorem dX12_numberBy_71 : decode cX12_numberBy 71 = .ok (.getfield 122, 3) := by decide +kernel
theorem dX12_numberBy_74 : decode cX12_numberBy 74 = .ok (.iload 5, 2) := by decide +kernel
theorem dX12_numberBy_76 : decode cX12_numberBy 76 = .ok (.baload, 1) := by decide +kernel
theorem dX12_numberBy_77 : decode cX12_numberBy 77 = .ok (.ifCond .ne 20, 3) := by decide +kernel
theorem dX12_numberBy_80 : decode cX12_numberBy 80 = .ok (.aload_n 0, 1) := by decide +kernel
theorem dX12_numberBy_81 : decode cX12_numberBy 81 = .ok (.iload 5, 2) := by decide +kernel
theorem dX12_numberBy_83 : decode cX12_numberBy 83 = .ok (.invokevirtual 456, 3) := by decide +kernel
theorem dX12_numberBy_86 : decode cX12_numberBy 86 = .ok (.ifCond .eq 11, 3) := by decide +kernel
theorem dX12_numberBy_89 : decode cX12_numberBy 89 = .ok (.aload_n 0, 1) := by decide +kernel
theorem dX12_numberBy_90 : decode cX12_numberBy 90 = .ok (.getfield 116, 3) := by decide +kernel
theorem dX12_numberBy_93 : decode cX12_numberBy 93 = .ok (.iload 5, 2) := by decide +kernel
theorem dX12_numberBy_95 : decode cX12_numberBy 95 = .ok (.iaload, 1) := by decide +kernel
theorem dX12_numberBy_96 : decode cX12_numberBy 96 = .ok (.ireturn, 1) := by decide +kernel
theorem dX12_numberBy_97 : decode cX12_numberBy 97 = .ok (.iinc 4 (-1), 3) := by decide +kernel
theorem dX12_numberBy_100 : decode cX12_numberBy 100 = .ok (.goto (-69), 3) := by decide +kernel
theorem dX12_numberBy_103 : decode cX12_numberBy 103 = .ok (.iinc 3 (-1), 3) := by decide +kernel
theorem dX12_numberBy_106 : decode cX12_numberBy 106 = .ok (.goto (-89), 3) := by decide +kernel
theorem dX12_numberBy_109 : decode cX12_numberBy 109 = .ok (.iload_n 2, 1) := by decide +kernel
theorem dX12_numberBy_110 : decode cX12_numberBy 110 = .ok (.ireturn, 1) := by decide +kernel
theorem dX12_numberings_0 : decode cX12_numberings 0 = .ok (.aload_n 0, 1) := by decide +kernel
theorem dX12_numberings_1 : decode cX12_numberings 1 = .ok (.aload_n 0, 1) := by decide +kernel
theorem dX12_numberings_2 : decode cX12_numberings 2 = .ok (.getfield 129, 3) := by decide +kernel
theorem dX12_numberings_5 : decode cX12_numberings 5 = .ok (.iconst 0, 1) := by decide +kernel
theorem dX12_numberings_6 : decode cX12_numberings 6 = .ok (.iaload, 1) := by decide +kernel
theorem dX12_numberings_7 : decode cX12_numberings 7 = .ok (.invokevirtual 453, 3) := by decide +kernel
theorem dX12_numberings_10 : decode cX12_numberings 10 = .ok (.iconst 0, 1) := by decide +kernel
theorem dX12_numberings_11 : decode cX12_numberings 11 = .ok (.istore_n 1, 1) := by decide +kernel
theorem dX12_numberings_12 : decode cX12_numberings 12 = .ok (.iconst 0, 1) := by decide +kernel
theorem dX12_numberings_13 : decode cX12_numberings 13 = .ok (.istore_n 2, 1) := by decide +kernel
theorem dX12_numberings_14 : decode cX12_numberings 14 = .ok (.iload_n 2, 1) := by decide +kernel
theorem dX12_numberings_15 : decode cX12_numberings 15 = .ok (.aload_n 0, 1) := by decide +kernel
theorem dX12_numberings_16 : decode cX12_numberings 16 = .ok (.getfield 441, 3) := by decide +kernel
theorem dX12_numberings_19 : decode cX12_numberings 19 = .ok (.if_icmp .ge 92, 3) := by decide +kernel
theorem dX12_numberings_22 : decode cX12_numberings 22 = .ok (.iconst 0, 1) := by decide +kernel
theorem dX12_numberings_23 : decode cX12_numberings 23 = .ok (.istore_n 3, 1) := by decide +kernel
theorem dX12_numberings_24 : decode cX12_numberings 24 = .ok (.iload_n 3, 1) := by decide +kernel
theorem dX12_numberings_25 : decode cX12_numberings 25 = .ok (.aload_n 0, 1) := by decide +kernel
theorem dX12_numberings_26 : decode cX12_numberings 26 = .ok (.getfield 104, 3) := by decide +kernel
theorem dX12_numberings_29 : decode cX12_numberings 29 = .ok (.iload_n 2, 1) := by decide +kernel
theorem dX12_numberings_30 : decode cX12_numberings 30 = .ok (.iaload, 1) := by decide +kernel
theorem dX12_numberings_31 : decode cX12_numberings 31 = .ok (.if_icmp .ge 74, 3) := by decide +kernel
theorem dX12_numberings_34 : decode cX12_numberings 34 = .ok (.aload_n 0, 1) := by decide +kernel
theorem dX12_numberings_35 : decode cX12_numberings 35 = .ok (.iload_n 2, 1) := by decide +kernel
theorem dX12_numberings_36 : decode cX12_numberings 36 = .ok (.aload_n 0, 1) := by decide +kernel
theorem dX12_numberings_37 : decode cX12_numberings 37 = .ok (.getfield 129, 3) := by decide +kernel
theorem dX12_numberings_40 : decode cX12_numberings 40 = .ok (.iconst 0, 1) := by decide +kernel
theorem dX12_numberings_41 : decode cX12_numberings 41 = .ok (.iaload, 1) := by decide +kernel
theorem dX12_numberings_42 : decode cX12_numberings 42 = .ok (.invokevirtual 447, 3) := by decide +kernel
theorem dX12_numberings_45 : decode cX12_numberings 45 = .ok (.ifCond .eq 60, 3) := by decide +kernel
theorem dX12_numberings_48 : decode cX12_numberings 48 = .ok (.bipush 10, 2) := by decide +kernel
theorem dX12_numberings_50 : decode cX12_numberings 50 = .ok (.iload_n 2, 1) := by decide +kernel
theorem dX12_numberings_51 : decode cX12_numberings 51 = .ok (.imul, 1) := by decide +kernel
theorem dX12_numberings_52 : decode cX12_numberings 52 = .ok (.iload_n 3, 1) := by decide +kernel
theorem dX12_numberings_53 : decode cX12_numberings 53 = .ok (.iadd, 1) := by decide +kernel
theorem dX12_numberings_54 : decode cX12_numberings 54 = .ok (.istore 4, 2) := by decide +kernel
theorem dX12_numberings_56 : decode cX12_numberings 56 = .ok (.aload_n 0, 1) := by decide +kernel
theorem dX12_numberings_57 : decode cX12_numberings 57 = .ok (.getfield 107, 3) := by decide +kernel
theorem dX12_numberings_60 : decode cX12_numberings 60 = .ok (.iload 4, 2) := by decide +kernel
theorem dX12_numberings_62 : decode cX12_numberings 62 = .ok (.iaload, 1) := by decide +kernel
theorem dX12_numberings_63 : decode cX12_numberings 63 = .ok (.bipush 110, 2) := by decide +kernel
theorem dX12_numberings_65 : decode cX12_numberings 65 = .ok (.if_icmp .ne 34, 3) := by decide +kernel
theorem dX12_numberings_68 : decode cX12_numberings 68 = .ok (.aload_n 0, 1) := by decide +kernel
theorem dX12_numberings_69 : decode cX12_numberings 69 = .ok (.getfield 122, 3) := by decide +kernel
theorem dX12_numberings_72 : decode cX12_numberings 72 = .ok (.iload 4, 2) := by decide +kernel
theorem dX12_numberings_74 : decode cX12_numberings 74 = .ok (.baload, 1) := by decide +kernel
theorem dX12_numberings_75 : decode cX12_numberings 75 = .ok (.ifCond .ne 24, 3) := by decide +kernel
theorem dX12_numberings_78 : decode cX12_numberings 78 = .ok (.aload_n 0, 1) := by decide +kernel
theorem dX12_numberings_79 : decode cX12_numberings 79 = .ok (.iload 4, 2) := by decide +kernel
theorem dX12_numberings_81 : decode cX12_numberings 81 = .ok (.invokevirtual 456, 3) := by decide +kernel
theorem dX12_numberings_84 : decode cX12_numberings 84 = .ok (.ifCond .eq 15, 3) := by decide +kernel
theorem dX12_numberings_87 : decode cX12_numberings 87 = .ok (.iload_n 1, 1) := by decide +kernel
theorem dX12_numberings_88 : decode cX12_numberings 88 = .ok (.iconst 1, 1) := by decide +kernel
theorem dX12_numberings_89 : decode cX12_numberings 89 = .ok (.aload_n 0, 1) := by decide +kernel
theorem dX12_numberings_90 : decode cX12_numberings 90 = .ok (.getfield 116, 3) := by decide +kernel
theorem dX12_numberings_93 : decode cX12_numberings 93 = .ok (.iload 4, 2) := by decide +kernel
theorem dX12_numberings_95 : decode cX12_numberings 95 = .ok (.iaload, 1) := by decide +kernel
theorem dX12_numberings_96 : decode cX12_numberings 96 = .ok (.ishl, 1) := by decide +kernel
theorem dX12_numberings_97 : decode cX12_numberings 97 = .ok (.ior, 1) := by decide +kernel
theorem dX12_numberings_98 : decode cX12_numberings 98 = .ok (.istore_n 1, 1) := by decide +kernel
theorem dX12_numberings_99 : decode cX12_numberings 99 = .ok (.iinc 3 1, 3) := by decide +kernel
theorem dX12_numberings_102 : decode cX12_numberings 102 = .ok (.goto (-78), 3) := by decide +kernel
theorem dX12_numberings_105 : decode cX12_numberings 105 = .ok (.iinc 2 1, 3) := by decide +kernel
theorem dX12_numberings_108 : decode cX12_numberings 108 = .ok (.goto (-94), 3) := by decide +kernel
theorem dX12_numberings_111 : decode cX12_numberings 111 = .ok (.iload_n 1, 1) := by decide +kernel
theorem dX12_numberings_112 : decode cX12_numberings 112 = .ok (.ifCond .ne 8, 3) := by decide +kernel
theorem dX12_numberings_115 : decode cX12_numberings 115 = .ok (.bipush 15, 2) := by decide +kernel
theorem dX12_numberings_117 : decode cX12_numberings 117 = .ok (.goto 4, 3) := by decide +kernel
theorem dX12_numberings_120 : decode cX12_numberings 120 = .ok (.iload_n 1, 1) := by decide +kernel
theorem dX12_numberings_121 : decode cX12_numberings 121 = .ok (.ireturn, 1) := by decide +kernel
theorem dX12_number_0 : decode cX12_number 0 = .ok (.iload_n 1, 1) := by decide +kernel
theorem dX12_number_1 : decode cX12_number 1 = .ok (.iconst 0, 1) := by decide +kernel
theorem dX12_number_2 : decode cX12_number 2 = .ok (.iconst 3, 1) := by decide +kernel
theorem dX12_number_3 : decode cX12_number 3 = .ok (.invokestatic 278, 3) := by decide +kernel
theorem dX12_number_6 : decode cX12_number 6 = .ok (.ifCond .eq 58, 3) := by decide +kernel
theorem dX12_number_9 : decode cX12_number 9 = .ok (.iload_n 2, 1) := by decide +kernel
theorem dX12_number_10 : decode cX12_number 10 = .ok (.invokestatic 320, 3) := by decide +kernel
theorem dX12_number_13 : decode cX12_number 13 = .ok (.ifCond .eq 51, 3) := by decide +kernel
theorem dX12_number_16 : decode cX12_number 16 = .ok (.iload_n 3, 1) := by decide +kernel
theorem dX12_number_17 : decode cX12_number 17 = .ok (.iconst 0, 1) := by decide +kernel
theorem dX12_number_18 : decode cX12_number 18 = .ok (.bipush 7, 2) := by decide +kernel
theorem dX12_number_20 : decode cX12_number 20 = .ok (.invokestatic 278, 3) := by decide +kernel
theorem dX12_number_23 : decode cX12_number 23 = .ok (.ifCond .eq 41, 3) := by decide +kernel
theorem dX12_number_26 : decode cX12_number 26 = .ok (.iload 4, 2) := by decide +kernel
theorem dX12_number_28 : decode cX12_number 28 = .ok (.iconst 0, 1) := by decide +kernel
theorem dX12_number_29 : decode cX12_number 29 = .ok (.bipush 7, 2) := by decide +kernel
theorem dX12_number_31 : decode cX12_number 31 = .ok (.invokestatic 278, 3) := by decide +kernel
theorem dX12_number_34 : decode cX12_number 34 = .ok (.ifCond .eq 30, 3) := by decide +kernel
theorem dX12_number_37 : decode cX12_number 37 = .ok (.iload 5, 2) := by decide +kernel
theorem dX12_number_39 : decode cX12_number 39 = .ok (.iconst 0, 1) := by decide +kernel
theorem dX12_number_40 : decode cX12_number 40 = .ok (.sipush 255, 3) := by decide +kernel
theorem dX12_number_43 : decode cX12_number 43 = .ok (.invokestatic 278, 3) := by decide +kernel
theorem dX12_number_46 : decode cX12_number 46 = .ok (.ifCond .eq 18, 3) := by decide +kernel
theorem dX12_number_49 : decode cX12_number 49 = .ok (.iload 6, 2) := by decide +kernel
theorem dX12_number_51 : decode cX12_number 51 = .ok (.iconst (-1), 1) := by decide +kernel
theorem dX12_number_52 : decode cX12_number 52 = .ok (.if_icmp .eq 14, 3) := by decide +kernel
theorem dX12_number_55 : decode cX12_number 55 = .ok (.aload_n 0, 1) := by decide +kernel
theorem dX12_number_56 : decode cX12_number 56 = .ok (.iload 6, 2) := by decide +kernel
theorem dX12_number_58 : decode cX12_number 58 = .ok (.invokevirtual 331, 3) := by decide +kernel
theorem dX12_number_61 : decode cX12_number 61 = .ok (.ifCond .ne 5, 3) := by decide +kernel
theorem dX12_number_64 : decode cX12_number 64 = .ok (.iconst (-1), 1) := by decide +kernel
theorem dX12_number_65 : decode cX12_number 65 = .ok (.ireturn, 1) := by decide +kernel
theorem dX12_number_66 : decode cX12_number 66 = .ok (.aload_n 0, 1) := by decide +kernel
theorem dX12_number_67 : decode cX12_number 67 = .ok (.iload_n 2, 1) := by decide +kernel
theorem dX12_number_68 : decode cX12_number 68 = .ok (.iload_n 3, 1) := by decide +kernel
theorem dX12_number_69 : decode cX12_number 69 = .ok (.iload 4, 2) := by decide +kernel
theorem dX12_number_71 : decode cX12_number 71 = .ok (.iload 5, 2) := by decide +kernel
theorem dX12_number_73 : decode cX12_number 73 = .ok (.iload 6, 2) := by decide +kernel
theorem dX12_number_75 : decode cX12_number 75 = .ok (.invokevirtual 459, 3) := by decide +kernel
theorem dX12_number_78 : decode cX12_number 78 = .ok (.iload_n 1, 1) := by decide +kernel
theorem dX12_number_79 : decode cX12_number 79 = .ok (.ifCond .ne 14, 3) := by decide +kernel
theorem dX12_number_82 : decode cX12_number 82 = .ok (.aload_n 0, 1) := by decide +kernel
theorem dX12_number_83 : decode cX12_number 83 = .ok (.bipush 97, 2) := by decide +kernel
theorem dX12_number_85 : decode cX12_number 85 = .ok (.bipush 8, 2) := by decide +kernel
theorem dX12_number_87 : decode cX12_number 87 = .ok (.invokevirtual 463, 3) := by decide +kernel
theorem dX12_number_90 : decode cX12_number 90 = .ok (.goto 38, 3) := by decide +kernel
theorem dX12_number_93 : decode cX12_number 93 = .ok (.iload_n 1, 1) := by decide +kernel
theorem dX12_number_94 : decode cX12_number 94 = .ok (.iconst 1, 1) := by decide +kernel
theorem dX12_number_95 : decode cX12_number 95 = .ok (.if_icmp .ne 13, 3) := by decide +kernel
theorem dX12_number_98 : decode cX12_number 98 = .ok (.aload_n 0, 1) := by decide +kernel
theorem dX12_number_99 : decode cX12_number 99 = .ok (.bipush 118, 2) := by decide +kernel
theorem dX12_number_101 : decode cX12_number 101 = .ok (.iconst 0, 1) := by decide +kernel
theorem dX12_number_102 : decode cX12_number 102 = .ok (.invokevirtual 463, 3) := by decide +kernel
theorem dX12_number_105 : decode cX12_number 105 = .ok (.goto 23, 3) := by decide +kernel
theorem dX12_number_108 : decode cX12_number 108 = .ok (.iload_n 1, 1) := by decide +kernel
theorem dX12_number_109 : decode cX12_number 109 = .ok (.iconst 2, 1) := by decide +kernel
theorem dX12_number_110 : decode cX12_number 110 = .ok (.if_icmp .ne 14, 3) := by decide +kernel
theorem dX12_number_113 : decode cX12_number 113 = .ok (.aload_n 0, 1) := by decide +kernel
theorem dX12_number_114 : decode cX12_number 114 = .ok (.bipush 102, 2) := by decide +kernel
theorem dX12_number_116 : decode cX12_number 116 = .ok (.bipush 7, 2) := by decide +kernel
theorem dX12_number_118 : decode cX12_number 118 = .ok (.invokevirtual 463, 3) := by decide +kernel
theorem dX12_number_121 : decode cX12_number 121 = .ok (.goto 7, 3) := by decide +kernel
theorem dX12_number_124 : decode cX12_number 124 = .ok (.aload_n 0, 1) := by decide +kernel
theorem dX12_number_125 : decode cX12_number 125 = .ok (.invokevirtual 467, 3) := by decide +kernel
theorem dX12_number_128 : decode cX12_number 128 = .ok (.ireturn, 1) := by decide +kernel
theorem dX12_find_0 : decode cX12_find 0 = .ok (.iload_n 1, 1) := by decide +kernel
theorem dX12_find_1 : decode cX12_find 1 = .ok (.iconst 0, 1) := by decide +kernel
theorem dX12_find_2 : decode cX12_find 2 = .ok (.bipush 7, 2) := by decide +kernel
theorem dX12_find_4 : decode cX12_find 4 = .ok (.invokestatic 278, 3) := by decide +kernel
theorem dX12_find_7 : decode cX12_find 7 = .ok (.ifCond .eq 99, 3) := by decide +kernel
theorem dX12_find_10 : decode cX12_find 10 = .ok (.iload_n 2, 1) := by decide +kernel
theorem dX12_find_11 : decode cX12_find 11 = .ok (.iconst 0, 1) := by decide +kernel
theorem dX12_find_12 : decode cX12_find 12 = .ok (.aload_n 0, 1) := by decide +kernel
theorem dX12_find_13 : decode cX12_find 13 = .ok (.getfield 291, 3) := by decide +kernel
theorem dX12_find_16 : decode cX12_find 16 = .ok (.invokestatic 278, 3) := by decide +kernel
theorem dX12_find_19 : decode cX12_find 19 = .ok (.ifCond .eq 87, 3) := by decide +kernel
theorem dX12_find_22 : decode cX12_find 22 = .ok (.iload_n 3, 1) := by decide +kernel
theorem dX12_find_23 : decode cX12_find 23 = .ok (.iload_n 2, 1) := by decide +kernel
theorem dX12_find_24 : decode cX12_find 24 = .ok (.aload_n 0, 1) := by decide +kernel
theorem dX12_find_25 : decode cX12_find 25 = .ok (.getfield 291, 3) := by decide +kernel
theorem dX12_find_28 : decode cX12_find 28 = .ok (.invokestatic 278, 3) := by decide +kernel
theorem dX12_find_31 : decode cX12_find 31 = .ok (.ifCond .eq 75, 3) := by decide +kernel
theorem dX12_find_34 : decode cX12_find 34 = .ok (.iload_n 3, 1) := by decide +kernel
theorem dX12_find_35 : decode cX12_find 35 = .ok (.iload_n 2, 1) := by decide +kernel
theorem dX12_find_36 : decode cX12_find 36 = .ok (.isub, 1) := by decide +kernel
theorem dX12_find_37 : decode cX12_find 37 = .ok (.bipush 19, 2) := by decide +kernel
theorem dX12_find_39 : decode cX12_find 39 = .ok (.if_icmp .gt 67, 3) := by decide +kernel
theorem dX12_find_42 : decode cX12_find 42 = .ok (.iload 4, 2) := by decide +kernel
theorem dX12_find_44 : decode cX12_find 44 = .ok (.iconst 0, 1) := by decide +kernel
theorem dX12_find_45 : decode cX12_find 45 = .ok (.bipush 99, 2) := by decide +kernel
theorem dX12_find_47 : decode cX12_find 47 = .ok (.invokestatic 278, 3) := by decide +kernel
theorem dX12_find_50 : decode cX12_find 50 = .ok (.ifCond .eq 56, 3) := by decide +kernel
theorem dX12_find_53 : decode cX12_find 53 = .ok (.iload 5, 2) := by decide +kernel
theorem dX12_find_55 : decode cX12_find 55 = .ok (.invokestatic 305, 3) := by decide +kernel
theorem dX12_find_58 : decode cX12_find 58 = .ok (.ifCond .eq 48, 3) := by decide +kernel
theorem dX12_find_61 : decode cX12_find 61 = .ok (.iload 6, 2) := by decide +kernel
theorem dX12_find_63 : decode cX12_find 63 = .ok (.iload 5, 2) := by decide +kernel
theorem dX12_find_65 : decode cX12_find 65 = .ok (.bipush 7, 2) := by decide +kernel
theorem dX12_find_67 : decode cX12_find 67 = .ok (.invokestatic 278, 3) := by decide +kernel
theorem dX12_find_70 : decode cX12_find 70 = .ok (.ifCond .eq 36, 3) := by decide +kernel
theorem dX12_find_73 : decode cX12_find 73 = .ok (.iload 7, 2) := by decide +kernel
theorem dX12_find_75 : decode cX12_find 75 = .ok (.iconst 0, 1) := by decide +kernel
theorem dX12_find_76 : decode cX12_find 76 = .ok (.bipush 7, 2) := by decide +kernel
theorem dX12_find_78 : decode cX12_find 78 = .ok (.invokestatic 278, 3) := by decide +kernel
theorem dX12_find_81 : decode cX12_find 81 = .ok (.ifCond .eq 25, 3) := by decide +kernel
theorem dX12_find_84 : decode cX12_find 84 = .ok (.iload 8, 2) := by decide +kernel
theorem dX12_find_86 : decode cX12_find 86 = .ok (.iconst 0, 1) := by decide +kernel
theorem dX12_find_87 : decode cX12_find 87 = .ok (.sipush 255, 3) := by decide +kernel
theorem dX12_find_90 : decode cX12_find 90 = .ok (.invokestatic 278, 3) := by decide +kernel
theorem dX12_find_93 : decode cX12_find 93 = .ok (.ifCond .eq 13, 3) := by decide +kernel
theorem dX12_find_96 : decode cX12_find 96 = .ok (.aload_n 0, 1) := by decide +kernel
theorem dX12_find_97 : decode cX12_find 97 = .ok (.getfield 470, 3) := by decide +kernel
theorem dX12_find_100 : decode cX12_find 100 = .ok (.sipush 150, 3) := by decide +kernel
theorem dX12_find_103 : decode cX12_find 103 = .ok (.if_icmp .ne 5, 3) := by decide +kernel
theorem dX12_find_106 : decode cX12_find 106 = .ok (.iconst (-1), 1) := by decide +kernel
theorem dX12_find_107 : decode cX12_find 107 = .ok (.ireturn, 1) := by decide +kernel
theorem dX12_find_108 : decode cX12_find 108 = .ok (.aload_n 0, 1) := by decide +kernel
theorem dX12_find_109 : decode cX12_find 109 = .ok (.getfield 136, 3) := by decide +kernel
theorem dX12_find_112 : decode cX12_find 112 = .ok (.aload_n 0, 1) := by decide +kernel
theorem dX12_find_113 : decode cX12_find 113 = .ok (.getfield 470, 3) := by decide +kernel
theorem dX12_find_116 : decode cX12_find 116 = .ok (.iload_n 1, 1) := by decide +kernel
theorem dX12_find_117 : decode cX12_find 117 = .ok (.iastore, 1) := by decide +kernel
theorem dX12_find_118 : decode cX12_find 118 = .ok (.aload_n 0, 1) := by decide +kernel
theorem dX12_find_119 : decode cX12_find 119 = .ok (.getfield 139, 3) := by decide +kernel
theorem dX12_find_122 : decode cX12_find 122 = .ok (.aload_n 0, 1) := by decide +kernel
theorem dX12_find_123 : decode cX12_find 123 = .ok (.getfield 470, 3) := by decide +kernel
theorem dX12_find_126 : decode cX12_find 126 = .ok (.iload_n 2, 1) := by decide +kernel
theorem dX12_find_127 : decode cX12_find 127 = .ok (.iastore, 1) := by decide +kernel
theorem dX12_find_128 : decode cX12_find 128 = .ok (.aload_n 0, 1) := by decide +kernel
theorem dX12_find_129 : decode cX12_find 129 = .ok (.getfield 142, 3) := by decide +kernel
theorem dX12_find_132 : decode cX12_find 132 = .ok (.aload_n 0, 1) := by decide +kernel
theorem dX12_find_133 : decode cX12_find 133 = .ok (.getfield 470, 3) := by decide +kernel
theorem dX12_find_136 : decode cX12_find 136 = .ok (.iload_n 3, 1) := by decide +kernel
theorem dX12_find_137 : decode cX12_find 137 = .ok (.iastore, 1) := by decide +kernel
theorem dX12_find_138 : decode cX12_find 138 = .ok (.aload_n 0, 1) := by decide +kernel
theorem dX12_find_139 : decode cX12_find 139 = .ok (.getfield 145, 3) := by decide +kernel
theorem dX12_find_142 : decode cX12_find 142 = .ok (.aload_n 0, 1) := by decide +kernel
theorem dX12_find_143 : decode cX12_find 143 = .ok (.getfield 470, 3) := by decide +kernel
theorem dX12_find_146 : decode cX12_find 146 = .ok (.iload 4, 2) := by decide +kernel
theorem dX12_find_148 : decode cX12_find 148 = .ok (.iastore, 1) := by decide +kernel
theorem dX12_find_149 : decode cX12_find 149 = .ok (.aload_n 0, 1) := by decide +kernel
theorem dX12_find_150 : decode cX12_find 150 = .ok (.getfield 148, 3) := by decide +kernel
theorem dX12_find_153 : decode cX12_find 153 = .ok (.aload_n 0, 1) := by decide +kernel
theorem dX12_find_154 : decode cX12_find 154 = .ok (.getfield 470, 3) := by decide +kernel
theorem dX12_find_157 : decode cX12_find 157 = .ok (.iload 5, 2) := by decide +kernel
theorem dX12_find_159 : decode cX12_find 159 = .ok (.iastore, 1) := by decide +kernel
theorem dX12_find_160 : decode cX12_find 160 = .ok (.aload_n 0, 1) := by decide +kernel
theorem dX12_find_161 : decode cX12_find 161 = .ok (.getfield 151, 3) := by decide +kernel
theorem dX12_find_164 : decode cX12_find 164 = .ok (.aload_n 0, 1) := by decide +kernel
theorem dX12_find_165 : decode cX12_find 165 = .ok (.getfield 470, 3) := by decide +kernel
theorem dX12_find_168 : decode cX12_find 168 = .ok (.iload 6, 2) := by decide +kernel
theorem dX12_find_170 : decode cX12_find 170 = .ok (.iastore, 1) := by decide +kernel
theorem dX12_find_171 : decode cX12_find 171 = .ok (.aload_n 0, 1) := by decide +kernel
theorem dX12_find_172 : decode cX12_find 172 = .ok (.getfield 154, 3) := by decide +kernel
theorem dX12_find_175 : decode cX12_find 175 = .ok (.aload_n 0, 1) := by decide +kernel
theorem dX12_find_176 : decode cX12_find 176 = .ok (.getfield 470, 3) := by decide +kernel
theorem dX12_find_179 : decode cX12_find 179 = .ok (.iload 7, 2) := by decide +kernel
theorem dX12_find_181 : decode cX12_find 181 = .ok (.iastore, 1) := by decide +kernel
theorem dX12_find_182 : decode cX12_find 182 = .ok (.aload_n 0, 1) := by decide +kernel
theorem dX12_find_183 : decode cX12_find 183 = .ok (.getfield 157, 3) := by decide +kernel
theorem dX12_find_186 : decode cX12_find 186 = .ok (.aload_n 0, 1) := by decide +kernel
theorem dX12_find_187 : decode cX12_find 187 = .ok (.getfield 470, 3) := by decide +kernel
theorem dX12_find_190 : decode cX12_find 190 = .ok (.iload 8, 2) := by decide +kernel
theorem dX12_find_192 : decode cX12_find 192 = .ok (.iastore, 1) := by decide +kernel
theorem dX12_find_193 : decode cX12_find 193 = .ok (.aload_n 0, 1) := by decide +kernel
theorem dX12_find_194 : decode cX12_find 194 = .ok (.getfield 160, 3) := by decide +kernel
theorem dX12_find_197 : decode cX12_find 197 = .ok (.aload_n 0, 1) := by decide +kernel
theorem dX12_find_198 : decode cX12_find 198 = .ok (.getfield 470, 3) := by decide +kernel
theorem dX12_find_201 : decode cX12_find 201 = .ok (.aload_n 0, 1) := by decide +kernel
theorem dX12_find_202 : decode cX12_find 202 = .ok (.getfield 291, 3) := by decide +kernel
theorem dX12_find_205 : decode cX12_find 205 = .ok (.iastore, 1) := by decide +kernel
theorem dX12_find_206 : decode cX12_find 206 = .ok (.aload_n 0, 1) := by decide +kernel
theorem dX12_find_207 : decode cX12_find 207 = .ok (.aload_n 0, 1) := by decide +kernel
theorem dX12_find_208 : decode cX12_find 208 = .ok (.getfield 470, 3) := by decide +kernel
theorem dX12_find_211 : decode cX12_find 211 = .ok (.iconst 1, 1) := by decide +kernel
theorem dX12_find_212 : decode cX12_find 212 = .ok (.iadd, 1) := by decide +kernel
theorem dX12_find_213 : decode cX12_find 213 = .ok (.putfield 470, 3) := by decide +kernel
theorem dX12_find_216 : decode cX12_find 216 = .ok (.aload_n 0, 1) := by decide +kernel
theorem dX12_find_217 : decode cX12_find 217 = .ok (.getfield 470, 3) := by decide +kernel
theorem dX12_find_220 : decode cX12_find 220 = .ok (.iconst 1, 1) := by decide +kernel
theorem dX12_find_221 : decode cX12_find 221 = .ok (.isub, 1) := by decide +kernel
theorem dX12_find_222 : decode cX12_find 222 = .ok (.ireturn, 1) := by decide +kernel
theorem dX12_meets_0 : decode cX12_meets 0 = .ok (.iconst 0, 1) := by decide +kernel
theorem dX12_meets_1 : decode cX12_meets 1 = .ok (.istore_n 3, 1) := by decide +kernel
theorem dX12_meets_2 : decode cX12_meets 2 = .ok (.iload_n 3, 1) := by decide +kernel
theorem dX12_meets_3 : decode cX12_meets 3 = .ok (.aload_n 0, 1) := by decide +kernel
theorem dX12_meets_4 : decode cX12_meets 4 = .ok (.getfield 272, 3) := by decide +kernel
theorem dX12_meets_7 : decode cX12_meets 7 = .ok (.aload_n 0, 1) := by decide +kernel
theorem dX12_meets_8 : decode cX12_meets 8 = .ok (.getfield 275, 3) := by decide +kernel
theorem dX12_meets_11 : decode cX12_meets 11 = .ok (.imul, 1) := by decide +kernel
theorem dX12_meets_12 : decode cX12_meets 12 = .ok (.if_icmp .ge 41, 3) := by decide +kernel
theorem dX12_meets_15 : decode cX12_meets 15 = .ok (.aload_n 0, 1) := by decide +kernel
theorem dX12_meets_16 : decode cX12_meets 16 = .ok (.getfield 13, 3) := by decide +kernel
theorem dX12_meets_19 : decode cX12_meets 19 = .ok (.iload_n 3, 1) := by decide +kernel
theorem dX12_meets_20 : decode cX12_meets 20 = .ok (.iaload, 1) := by decide +kernel
theorem dX12_meets_21 : decode cX12_meets 21 = .ok (.iload_n 2, 1) := by decide +kernel
theorem dX12_meets_22 : decode cX12_meets 22 = .ok (.if_icmp .ne 25, 3) := by decide +kernel
theorem dX12_meets_25 : decode cX12_meets 25 = .ok (.aload_n 0, 1) := by decide +kernel
theorem dX12_meets_26 : decode cX12_meets 26 = .ok (.iload_n 3, 1) := by decide +kernel
theorem dX12_meets_27 : decode cX12_meets 27 = .ok (.aload_n 0, 1) := by decide +kernel
theorem dX12_meets_28 : decode cX12_meets 28 = .ok (.getfield 31, 3) := by decide +kernel
theorem dX12_meets_31 : decode cX12_meets 31 = .ok (.iload_n 1, 1) := by decide +kernel
theorem dX12_meets_32 : decode cX12_meets 32 = .ok (.iaload, 1) := by decide +kernel
theorem dX12_meets_33 : decode cX12_meets 33 = .ok (.aload_n 0, 1) := by decide +kernel
theorem dX12_meets_34 : decode cX12_meets 34 = .ok (.getfield 34, 3) := by decide +kernel
theorem dX12_meets_37 : decode cX12_meets 37 = .ok (.iload_n 1, 1) := by decide +kernel
theorem dX12_meets_38 : decode cX12_meets 38 = .ok (.iaload, 1) := by decide +kernel
theorem dX12_meets_39 : decode cX12_meets 39 = .ok (.invokevirtual 302, 3) := by decide +kernel
theorem dX12_meets_42 : decode cX12_meets 42 = .ok (.ifCond .eq 5, 3) := by decide +kernel
theorem dX12_meets_45 : decode cX12_meets 45 = .ok (.iconst 1, 1) := by decide +kernel
theorem dX12_meets_46 : decode cX12_meets 46 = .ok (.ireturn, 1) := by decide +kernel
theorem dX12_meets_47 : decode cX12_meets 47 = .ok (.iinc 3 1, 3) := by decide +kernel
theorem dX12_meets_50 : decode cX12_meets 50 = .ok (.goto (-48), 3) := by decide +kernel
theorem dX12_meets_53 : decode cX12_meets 53 = .ok (.iconst 0, 1) := by decide +kernel
theorem dX12_meets_54 : decode cX12_meets 54 = .ok (.ireturn, 1) := by decide +kernel
theorem dX12_isDug_0 : decode cX12_isDug 0 = .ok (.iconst 0, 1) := by decide +kernel
theorem dX12_isDug_1 : decode cX12_isDug 1 = .ok (.istore 5, 2) := by decide +kernel
theorem dX12_isDug_3 : decode cX12_isDug 3 = .ok (.iload 5, 2) := by decide +kernel
theorem dX12_isDug_5 : decode cX12_isDug 5 = .ok (.aload_n 0, 1) := by decide +kernel
theorem dX12_isDug_6 : decode cX12_isDug 6 = .ok (.getfield 285, 3) := by decide +kernel
theorem dX12_isDug_9 : decode cX12_isDug 9 = .ok (.if_icmp .ge 115, 3) := by decide +kernel
theorem dX12_isDug_12 : decode cX12_isDug 12 = .ok (.aload_n 0, 1) := by decide +kernel
theorem dX12_isDug_13 : decode cX12_isDug 13 = .ok (.iload 5, 2) := by decide +kernel
theorem dX12_isDug_15 : decode cX12_isDug 15 = .ok (.iload 4, 2) := by decide +kernel
theorem dX12_isDug_17 : decode cX12_isDug 17 = .ok (.invokevirtual 314, 3) := by decide +kernel
theorem dX12_isDug_20 : decode cX12_isDug 20 = .ok (.ifCond .eq 98, 3) := by decide +kernel
theorem dX12_isDug_23 : decode cX12_isDug 23 = .ok (.aload_n 0, 1) := by decide +kernel
theorem dX12_isDug_24 : decode cX12_isDug 24 = .ok (.getfield 28, 3) := by decide +kernel
theorem dX12_isDug_27 : decode cX12_isDug 27 = .ok (.iload 5, 2) := by decide +kernel
theorem dX12_isDug_29 : decode cX12_isDug 29 = .ok (.iaload, 1) := by decide +kernel
theorem dX12_isDug_30 : decode cX12_isDug 30 = .ok (.iconst 2, 1) := by decide +kernel
theorem dX12_isDug_31 : decode cX12_isDug 31 = .ok (.if_icmp .eq 87, 3) := by decide +kernel
theorem dX12_isDug_34 : decode cX12_isDug 34 = .ok (.aload_n 0, 1) := by decide +kernel
theorem dX12_isDug_35 : decode cX12_isDug 35 = .ok (.getfield 25, 3) := by decide +kernel
theorem dX12_isDug_38 : decode cX12_isDug 38 = .ok (.iload 5, 2) := by decide +kernel
theorem dX12_isDug_40 : decode cX12_isDug 40 = .ok (.iaload, 1) := by decide +kernel
theorem dX12_isDug_41 : decode cX12_isDug 41 = .ok (.aload_n 0, 1) := by decide +kernel
theorem dX12_isDug_42 : decode cX12_isDug 42 = .ok (.getfield 136, 3) := by decide +kernel
theorem dX12_isDug_45 : decode cX12_isDug 45 = .ok (.iload_n 1, 1) := by decide +kernel
theorem dX12_isDug_46 : decode cX12_isDug 46 = .ok (.iaload, 1) := by decide +kernel
theorem dX12_isDug_47 : decode cX12_isDug 47 = .ok (.if_icmp .ne 71, 3) := by decide +kernel
theorem dX12_isDug_50 : decode cX12_isDug 50 = .ok (.iload_n 3, 1) := by decide +kernel
theorem dX12_isDug_51 : decode cX12_isDug 51 = .ok (.aload_n 0, 1) := by decide +kernel
theorem dX12_isDug_52 : decode cX12_isDug 52 = .ok (.getfield 43, 3) := by decide +kernel
theorem dX12_isDug_55 : decode cX12_isDug 55 = .ok (.iload 5, 2) := by decide +kernel
theorem dX12_isDug_57 : decode cX12_isDug 57 = .ok (.iaload, 1) := by decide +kernel
theorem dX12_isDug_58 : decode cX12_isDug 58 = .ok (.aload_n 0, 1) := by decide +kernel
theorem dX12_isDug_59 : decode cX12_isDug 59 = .ok (.getfield 46, 3) := by decide +kernel
theorem dX12_isDug_62 : decode cX12_isDug 62 = .ok (.iload 5, 2) := by decide +kernel
theorem dX12_isDug_64 : decode cX12_isDug 64 = .ok (.iaload, 1) := by decide +kernel
theorem dX12_isDug_65 : decode cX12_isDug 65 = .ok (.invokestatic 278, 3) := by decide +kernel
theorem dX12_isDug_68 : decode cX12_isDug 68 = .ok (.ifCond .ne 6, 3) := by decide +kernel
theorem dX12_isDug_71 : decode cX12_isDug 71 = .ok (.goto 47, 3) := by decide +kernel
theorem dX12_isDug_74 : decode cX12_isDug 74 = .ok (.aload_n 0, 1) := by decide +kernel
theorem dX12_isDug_75 : decode cX12_isDug 75 = .ok (.getfield 37, 3) := by decide +kernel
theorem dX12_isDug_78 : decode cX12_isDug 78 = .ok (.iload 5, 2) := by decide +kernel
theorem dX12_isDug_80 : decode cX12_isDug 80 = .ok (.iaload, 1) := by decide +kernel
theorem dX12_isDug_81 : decode cX12_isDug 81 = .ok (.aload_n 0, 1) := by decide +kernel
theorem dX12_isDug_82 : decode cX12_isDug 82 = .ok (.getfield 151, 3) := by decide +kernel
theorem dX12_isDug_85 : decode cX12_isDug 85 = .ok (.iload_n 1, 1) := by decide +kernel
theorem dX12_isDug_86 : decode cX12_isDug 86 = .ok (.iaload, 1) := by decide +kernel
theorem dX12_isDug_87 : decode cX12_isDug 87 = .ok (.if_icmp .gt 31, 3) := by decide +kernel
theorem dX12_isDug_90 : decode cX12_isDug 90 = .ok (.aload_n 0, 1) := by decide +kernel
theorem dX12_isDug_91 : decode cX12_isDug 91 = .ok (.getfield 148, 3) := by decide +kernel
theorem dX12_isDug_94 : decode cX12_isDug 94 = .ok (.iload_n 1, 1) := by decide +kernel
theorem dX12_isDug_95 : decode cX12_isDug 95 = .ok (.iaload, 1) := by decide +kernel
theorem dX12_isDug_96 : decode cX12_isDug 96 = .ok (.aload_n 0, 1) := by decide +kernel
theorem dX12_isDug_97 : decode cX12_isDug 97 = .ok (.getfield 40, 3) := by decide +kernel
theorem dX12_isDug_100 : decode cX12_isDug 100 = .ok (.iload 5, 2) := by decide +kernel
theorem dX12_isDug_102 : decode cX12_isDug 102 = .ok (.iaload, 1) := by decide +kernel
theorem dX12_isDug_103 : decode cX12_isDug 103 = .ok (.if_icmp .gt 15, 3) := by decide +kernel
theorem dX12_isDug_106 : decode cX12_isDug 106 = .ok (.aload_n 0, 1) := by decide +kernel
theorem dX12_isDug_107 : decode cX12_isDug 107 = .ok (.iload 5, 2) := by decide +kernel
theorem dX12_isDug_109 : decode cX12_isDug 109 = .ok (.iload_n 2, 1) := by decide +kernel
theorem dX12_isDug_110 : decode cX12_isDug 110 = .ok (.invokevirtual 473, 3) := by decide +kernel
theorem dX12_isDug_113 : decode cX12_isDug 113 = .ok (.ifCond .eq 5, 3) := by decide +kernel
theorem dX12_isDug_116 : decode cX12_isDug 116 = .ok (.iconst 1, 1) := by decide +kernel
theorem dX12_isDug_117 : decode cX12_isDug 117 = .ok (.ireturn, 1) := by decide +kernel
theorem dX12_isDug_118 : decode cX12_isDug 118 = .ok (.iinc 5 1, 3) := by decide +kernel
theorem dX12_isDug_121 : decode cX12_isDug 121 = .ok (.goto (-118), 3) := by decide +kernel
theorem dX12_isDug_124 : decode cX12_isDug 124 = .ok (.iconst 0, 1) := by decide +kernel
theorem dX12_isDug_125 : decode cX12_isDug 125 = .ok (.ireturn, 1) := by decide +kernel
theorem dX12_isMeant_0 : decode cX12_isMeant 0 = .ok (.aload_n 0, 1) := by decide +kernel
theorem dX12_isMeant_1 : decode cX12_isMeant 1 = .ok (.getfield 145, 3) := by decide +kernel
theorem dX12_isMeant_4 : decode cX12_isMeant 4 = .ok (.iload_n 1, 1) := by decide +kernel
theorem dX12_isMeant_5 : decode cX12_isMeant 5 = .ok (.iaload, 1) := by decide +kernel
theorem dX12_isMeant_6 : decode cX12_isMeant 6 = .ok (.ifCond .ne 5, 3) := by decide +kernel
theorem dX12_isMeant_9 : decode cX12_isMeant 9 = .ok (.iconst 1, 1) := by decide +kernel
theorem dX12_isMeant_10 : decode cX12_isMeant 10 = .ok (.ireturn, 1) := by decide +kernel
theorem dX12_isMeant_11 : decode cX12_isMeant 11 = .ok (.aload_n 0, 1) := by decide +kernel
theorem dX12_isMeant_12 : decode cX12_isMeant 12 = .ok (.iload_n 3, 1) := by decide +kernel
theorem dX12_isMeant_13 : decode cX12_isMeant 13 = .ok (.aload_n 0, 1) := by decide +kernel
theorem dX12_isMeant_14 : decode cX12_isMeant 14 = .ok (.getfield 132, 3) := by decide +kernel
theorem dX12_isMeant_17 : decode cX12_isMeant 17 = .ok (.iconst (-1), 1) := by decide +kernel
theorem dX12_isMeant_18 : decode cX12_isMeant 18 = .ok (.if_icmp .ne 12, 3) := by decide +kernel
theorem dX12_isMeant_21 : decode cX12_isMeant 21 = .ok (.aload_n 0, 1) := by decide +kernel
theorem dX12_isMeant_22 : decode cX12_isMeant 22 = .ok (.getfield 136, 3) := by decide +kernel
theorem dX12_isMeant_25 : decode cX12_isMeant 25 = .ok (.iload_n 1, 1) := by decide +kernel
theorem dX12_isMeant_26 : decode cX12_isMeant 26 = .ok (.iaload, 1) := by decide +kernel
theorem dX12_isMeant_27 : decode cX12_isMeant 27 = .ok (.goto 7, 3) := by decide +kernel
theorem dX12_isMeant_30 : decode cX12_isMeant 30 = .ok (.aload_n 0, 1) := by decide +kernel
theorem dX12_isMeant_31 : decode cX12_isMeant 31 = .ok (.getfield 132, 3) := by decide +kernel
theorem dX12_isMeant_34 : decode cX12_isMeant 34 = .ok (.aload_n 0, 1) := by decide +kernel
theorem dX12_isMeant_35 : decode cX12_isMeant 35 = .ok (.getfield 154, 3) := by decide +kernel
theorem dX12_isMeant_38 : decode cX12_isMeant 38 = .ok (.iload_n 1, 1) := by decide +kernel
theorem dX12_isMeant_39 : decode cX12_isMeant 39 = .ok (.iaload, 1) := by decide +kernel
theorem dX12_isMeant_40 : decode cX12_isMeant 40 = .ok (.aload_n 0, 1) := by decide +kernel
theorem dX12_isMeant_41 : decode cX12_isMeant 41 = .ok (.getfield 157, 3) := by decide +kernel
theorem dX12_isMeant_44 : decode cX12_isMeant 44 = .ok (.iload_n 1, 1) := by decide +kernel
theorem dX12_isMeant_45 : decode cX12_isMeant 45 = .ok (.iaload, 1) := by decide +kernel
theorem dX12_isMeant_46 : decode cX12_isMeant 46 = .ok (.iload_n 2, 1) := by decide +kernel
theorem dX12_isMeant_47 : decode cX12_isMeant 47 = .ok (.invokevirtual 459, 3) := by decide +kernel
theorem dX12_isMeant_50 : decode cX12_isMeant 50 = .ok (.aload_n 0, 1) := by decide +kernel
theorem dX12_isMeant_51 : decode cX12_isMeant 51 = .ok (.invokevirtual 467, 3) := by decide +kernel
theorem dX12_isMeant_54 : decode cX12_isMeant 54 = .ok (.istore 4, 2) := by decide +kernel
theorem dX12_isMeant_56 : decode cX12_isMeant 56 = .ok (.iconst 0, 1) := by decide +kernel
theorem dX12_isMeant_57 : decode cX12_isMeant 57 = .ok (.istore 5, 2) := by decide +kernel
theorem dX12_isMeant_59 : decode cX12_isMeant 59 = .ok (.iload 5, 2) := by decide +kernel
theorem dX12_isMeant_61 : decode cX12_isMeant 61 = .ok (.iconst 4, 1) := by decide +kernel
theorem dX12_isMeant_62 : decode cX12_isMeant 62 = .ok (.if_icmp .ge 39, 3) := by decide +kernel
theorem dX12_isMeant_65 : decode cX12_isMeant 65 = .ok (.iload 4, 2) := by decide +kernel
theorem dX12_isMeant_67 : decode cX12_isMeant 67 = .ok (.iload 5, 2) := by decide +kernel
theorem dX12_isMeant_69 : decode cX12_isMeant 69 = .ok (.ishr, 1) := by decide +kernel
theorem dX12_isMeant_70 : decode cX12_isMeant 70 = .ok (.iconst 1, 1) := by decide +kernel
theorem dX12_isMeant_71 : decode cX12_isMeant 71 = .ok (.iand, 1) := by decide +kernel
theorem dX12_isMeant_72 : decode cX12_isMeant 72 = .ok (.iconst 1, 1) := by decide +kernel
theorem dX12_isMeant_73 : decode cX12_isMeant 73 = .ok (.if_icmp .ne 22, 3) := by decide +kernel
theorem dX12_isMeant_76 : decode cX12_isMeant 76 = .ok (.aload_n 0, 1) := by decide +kernel
theorem dX12_isMeant_77 : decode cX12_isMeant 77 = .ok (.iload 5, 2) := by decide +kernel
theorem dX12_isMeant_79 : decode cX12_isMeant 79 = .ok (.aload_n 0, 1) := by decide +kernel
theorem dX12_isMeant_80 : decode cX12_isMeant 80 = .ok (.getfield 145, 3) := by decide +kernel
theorem dX12_isMeant_83 : decode cX12_isMeant 83 = .ok (.iload_n 1, 1) := by decide +kernel
theorem dX12_isMeant_84 : decode cX12_isMeant 84 = .ok (.iaload, 1) := by decide +kernel
theorem dX12_isMeant_85 : decode cX12_isMeant 85 = .ok (.iload_n 3, 1) := by decide +kernel
theorem dX12_isMeant_86 : decode cX12_isMeant 86 = .ok (.invokevirtual 337, 3) := by decide +kernel
theorem dX12_isMeant_89 : decode cX12_isMeant 89 = .ok (.iload_n 2, 1) := by decide +kernel
theorem dX12_isMeant_90 : decode cX12_isMeant 90 = .ok (.if_icmp .ne 5, 3) := by decide +kernel
theorem dX12_isMeant_93 : decode cX12_isMeant 93 = .ok (.iconst 1, 1) := by decide +kernel
theorem dX12_isMeant_94 : decode cX12_isMeant 94 = .ok (.ireturn, 1) := by decide +kernel
theorem dX12_isMeant_95 : decode cX12_isMeant 95 = .ok (.iinc 5 1, 3) := by decide +kernel
theorem dX12_isMeant_98 : decode cX12_isMeant 98 = .ok (.goto (-39), 3) := by decide +kernel
theorem dX12_isMeant_101 : decode cX12_isMeant 101 = .ok (.iconst 0, 1) := by decide +kernel
theorem dX12_isMeant_102 : decode cX12_isMeant 102 = .ok (.ireturn, 1) := by decide +kernel
theorem dX12_mayBe_0 : decode cX12_mayBe 0 = .ok (.iconst 0, 1) := by decide +kernel
theorem dX12_mayBe_1 : decode cX12_mayBe 1 = .ok (.istore_n 3, 1) := by decide +kernel
theorem dX12_mayBe_2 : decode cX12_mayBe 2 = .ok (.iconst 0, 1) := by decide +kernel
theorem dX12_mayBe_3 : decode cX12_mayBe 3 = .ok (.istore 4, 2) := by decide +kernel
theorem dX12_mayBe_5 : decode cX12_mayBe 5 = .ok (.iload 4, 2) := by decide +kernel
theorem dX12_mayBe_7 : decode cX12_mayBe 7 = .ok (.aload_n 0, 1) := by decide +kernel
theorem dX12_mayBe_8 : decode cX12_mayBe 8 = .ok (.getfield 282, 3) := by decide +kernel
theorem dX12_mayBe_11 : decode cX12_mayBe 11 = .ok (.if_icmp .ge 75, 3) := by decide +kernel
theorem dX12_mayBe_14 : decode cX12_mayBe 14 = .ok (.aload_n 0, 1) := by decide +kernel
theorem dX12_mayBe_15 : decode cX12_mayBe 15 = .ok (.getfield 139, 3) := by decide +kernel
theorem dX12_mayBe_18 : decode cX12_mayBe 18 = .ok (.iload_n 1, 1) := by decide +kernel
theorem dX12_mayBe_19 : decode cX12_mayBe 19 = .ok (.iaload, 1) := by decide +kernel
theorem dX12_mayBe_20 : decode cX12_mayBe 20 = .ok (.istore 5, 2) := by decide +kernel
theorem dX12_mayBe_22 : decode cX12_mayBe 22 = .ok (.iload 5, 2) := by decide +kernel
theorem dX12_mayBe_24 : decode cX12_mayBe 24 = .ok (.aload_n 0, 1) := by decide +kernel
theorem dX12_mayBe_25 : decode cX12_mayBe 25 = .ok (.getfield 142, 3) := by decide +kernel
theorem dX12_mayBe_28 : decode cX12_mayBe 28 = .ok (.iload_n 1, 1) := by decide +kernel
theorem dX12_mayBe_29 : decode cX12_mayBe 29 = .ok (.iaload, 1) := by decide +kernel
theorem dX12_mayBe_30 : decode cX12_mayBe 30 = .ok (.if_icmp .gt 50, 3) := by decide +kernel
theorem dX12_mayBe_33 : decode cX12_mayBe 33 = .ok (.iload_n 3, 1) := by decide +kernel
theorem dX12_mayBe_34 : decode cX12_mayBe 34 = .ok (.iload 4, 2) := by decide +kernel
theorem dX12_mayBe_36 : decode cX12_mayBe 36 = .ok (.ishr, 1) := by decide +kernel
theorem dX12_mayBe_37 : decode cX12_mayBe 37 = .ok (.iconst 1, 1) := by decide +kernel
theorem dX12_mayBe_38 : decode cX12_mayBe 38 = .ok (.iand, 1) := by decide +kernel
theorem dX12_mayBe_39 : decode cX12_mayBe 39 = .ok (.ifCond .ne 41, 3) := by decide +kernel
theorem dX12_mayBe_42 : decode cX12_mayBe 42 = .ok (.aload_n 0, 1) := by decide +kernel
theorem dX12_mayBe_43 : decode cX12_mayBe 43 = .ok (.iload_n 1, 1) := by decide +kernel
theorem dX12_mayBe_44 : decode cX12_mayBe 44 = .ok (.iload 4, 2) := by decide +kernel
theorem dX12_mayBe_46 : decode cX12_mayBe 46 = .ok (.iload 5, 2) := by decide +kernel
theorem dX12_mayBe_48 : decode cX12_mayBe 48 = .ok (.iload_n 2, 1) := by decide +kernel
theorem dX12_mayBe_49 : decode cX12_mayBe 49 = .ok (.invokevirtual 476, 3) := by decide +kernel
theorem dX12_mayBe_52 : decode cX12_mayBe 52 = .ok (.ifCond .eq 22, 3) := by decide +kernel
theorem dX12_mayBe_55 : decode cX12_mayBe 55 = .ok (.aload_n 0, 1) := by decide +kernel
theorem dX12_mayBe_56 : decode cX12_mayBe 56 = .ok (.iload_n 1, 1) := by decide +kernel
theorem dX12_mayBe_57 : decode cX12_mayBe 57 = .ok (.iload 4, 2) := by decide +kernel
theorem dX12_mayBe_59 : decode cX12_mayBe 59 = .ok (.iload 5, 2) := by decide +kernel
theorem dX12_mayBe_61 : decode cX12_mayBe 61 = .ok (.invokevirtual 479, 3) := by decide +kernel
theorem dX12_mayBe_64 : decode cX12_mayBe 64 = .ok (.ifCond .eq 10, 3) := by decide +kernel
theorem dX12_mayBe_67 : decode cX12_mayBe 67 = .ok (.iload_n 3, 1) := by decide +kernel
theorem dX12_mayBe_68 : decode cX12_mayBe 68 = .ok (.iconst 1, 1) := by decide +kernel
theorem dX12_mayBe_69 : decode cX12_mayBe 69 = .ok (.iload 4, 2) := by decide +kernel
theorem dX12_mayBe_71 : decode cX12_mayBe 71 = .ok (.ishl, 1) := by decide +kernel
theorem dX12_mayBe_72 : decode cX12_mayBe 72 = .ok (.ior, 1) := by decide +kernel
theorem dX12_mayBe_73 : decode cX12_mayBe 73 = .ok (.istore_n 3, 1) := by decide +kernel
theorem dX12_mayBe_74 : decode cX12_mayBe 74 = .ok (.iinc 5 1, 3) := by decide +kernel
theorem dX12_mayBe_77 : decode cX12_mayBe 77 = .ok (.goto (-55), 3) := by decide +kernel
theorem dX12_mayBe_80 : decode cX12_mayBe 80 = .ok (.iinc 4 1, 3) := by decide +kernel
theorem dX12_mayBe_83 : decode cX12_mayBe 83 = .ok (.goto (-78), 3) := by decide +kernel
theorem dX12_mayBe_86 : decode cX12_mayBe 86 = .ok (.iload_n 3, 1) := by decide +kernel
theorem dX12_mayBe_87 : decode cX12_mayBe 87 = .ok (.ireturn, 1) := by decide +kernel
theorem dX12_isFind_0 : decode cX12_isFind 0 = .ok (.iload_n 1, 1) := by decide +kernel
theorem dX12_isFind_1 : decode cX12_isFind 1 = .ok (.ifCond .lt 15, 3) := by decide +kernel
theorem dX12_isFind_4 : decode cX12_isFind 4 = .ok (.iload_n 1, 1) := by decide +kernel
theorem dX12_isFind_5 : decode cX12_isFind 5 = .ok (.aload_n 0, 1) := by decide +kernel
theorem dX12_isFind_6 : decode cX12_isFind 6 = .ok (.getfield 470, 3) := by decide +kernel
theorem dX12_isFind_9 : decode cX12_isFind 9 = .ok (.if_icmp .ge 7, 3) := by decide +kernel
theorem dX12_isFind_12 : decode cX12_isFind 12 = .ok (.iconst 1, 1) := by decide +kernel
theorem dX12_isFind_13 : decode cX12_isFind 13 = .ok (.goto 4, 3) := by decide +kernel
theorem dX12_isFind_16 : decode cX12_isFind 16 = .ok (.iconst 0, 1) := by decide +kernel
theorem dX12_isFind_17 : decode cX12_isFind 17 = .ok (.ireturn, 1) := by decide +kernel
theorem dX12_may_0 : decode cX12_may 0 = .ok (.aload_n 0, 1) := by decide +kernel
theorem dX12_may_1 : decode cX12_may 1 = .ok (.iload_n 1, 1) := by decide +kernel
theorem dX12_may_2 : decode cX12_may 2 = .ok (.invokevirtual 482, 3) := by decide +kernel
theorem dX12_may_5 : decode cX12_may 5 = .ok (.ifCond .eq 29, 3) := by decide +kernel
theorem dX12_may_8 : decode cX12_may 8 = .ok (.iload_n 2, 1) := by decide +kernel
theorem dX12_may_9 : decode cX12_may 9 = .ok (.invokestatic 320, 3) := by decide +kernel
theorem dX12_may_12 : decode cX12_may 12 = .ok (.ifCond .eq 22, 3) := by decide +kernel
theorem dX12_may_15 : decode cX12_may 15 = .ok (.aload_n 0, 1) := by decide +kernel
theorem dX12_may_16 : decode cX12_may 16 = .ok (.getfield 160, 3) := by decide +kernel
theorem dX12_may_19 : decode cX12_may 19 = .ok (.iload_n 1, 1) := by decide +kernel
theorem dX12_may_20 : decode cX12_may 20 = .ok (.iaload, 1) := by decide +kernel
theorem dX12_may_21 : decode cX12_may 21 = .ok (.iload_n 2, 1) := by decide +kernel
theorem dX12_may_22 : decode cX12_may 22 = .ok (.if_icmp .gt 12, 3) := by decide +kernel
theorem dX12_may_25 : decode cX12_may 25 = .ok (.aload_n 0, 1) := by decide +kernel
theorem dX12_may_26 : decode cX12_may 26 = .ok (.iload_n 1, 1) := by decide +kernel
theorem dX12_may_27 : decode cX12_may 27 = .ok (.iload_n 2, 1) := by decide +kernel
theorem dX12_may_28 : decode cX12_may 28 = .ok (.invokevirtual 485, 3) := by decide +kernel
theorem dX12_may_31 : decode cX12_may 31 = .ok (.goto 4, 3) := by decide +kernel
theorem dX12_may_34 : decode cX12_may 34 = .ok (.iconst (-1), 1) := by decide +kernel
theorem dX12_may_35 : decode cX12_may 35 = .ok (.ireturn, 1) := by decide +kernel
theorem dX12_sureOf_0 : decode cX12_sureOf 0 = .ok (.iconst 0, 1) := by decide +kernel
theorem dX12_sureOf_1 : decode cX12_sureOf 1 = .ok (.istore_n 2, 1) := by decide +kernel
theorem dX12_sureOf_2 : decode cX12_sureOf 2 = .ok (.iconst 0, 1) := by decide +kernel
theorem dX12_sureOf_3 : decode cX12_sureOf 3 = .ok (.istore_n 3, 1) := by decide +kernel
theorem dX12_sureOf_4 : decode cX12_sureOf 4 = .ok (.iload_n 3, 1) := by decide +kernel
theorem dX12_sureOf_5 : decode cX12_sureOf 5 = .ok (.aload_n 0, 1) := by decide +kernel
theorem dX12_sureOf_6 : decode cX12_sureOf 6 = .ok (.getfield 470, 3) := by decide +kernel
theorem dX12_sureOf_9 : decode cX12_sureOf 9 = .ok (.if_icmp .ge 53, 3) := by decide +kernel
theorem dX12_sureOf_12 : decode cX12_sureOf 12 = .ok (.aload_n 0, 1) := by decide +kernel
theorem dX12_sureOf_13 : decode cX12_sureOf 13 = .ok (.getfield 160, 3) := by decide +kernel
theorem dX12_sureOf_16 : decode cX12_sureOf 16 = .ok (.iload_n 3, 1) := by decide +kernel
theorem dX12_sureOf_17 : decode cX12_sureOf 17 = .ok (.iaload, 1) := by decide +kernel
theorem dX12_sureOf_18 : decode cX12_sureOf 18 = .ok (.iload_n 1, 1) := by decide +kernel
theorem dX12_sureOf_19 : decode cX12_sureOf 19 = .ok (.if_icmp .le 6, 3) := by decide +kernel
theorem dX12_sureOf_22 : decode cX12_sureOf 22 = .ok (.goto 34, 3) := by decide +kernel
theorem dX12_sureOf_25 : decode cX12_sureOf 25 = .ok (.aload_n 0, 1) := by decide +kernel
theorem dX12_sureOf_26 : decode cX12_sureOf 26 = .ok (.iload_n 3, 1) := by decide +kernel
theorem dX12_sureOf_27 : decode cX12_sureOf 27 = .ok (.iload_n 1, 1) := by decide +kernel
theorem dX12_sureOf_28 : decode cX12_sureOf 28 = .ok (.invokevirtual 485, 3) := by decide +kernel
theorem dX12_sureOf_31 : decode cX12_sureOf 31 = .ok (.istore 4, 2) := by decide +kernel
theorem dX12_sureOf_33 : decode cX12_sureOf 33 = .ok (.iload_n 2, 1) := by decide +kernel
theorem dX12_sureOf_34 : decode cX12_sureOf 34 = .ok (.iload 4, 2) := by decide +kernel
theorem dX12_sureOf_36 : decode cX12_sureOf 36 = .ok (.ifCond .eq 17, 3) := by decide +kernel
theorem dX12_sureOf_39 : decode cX12_sureOf 39 = .ok (.iload 4, 2) := by decide +kernel
theorem dX12_sureOf_41 : decode cX12_sureOf 41 = .ok (.iload 4, 2) := by decide +kernel
theorem dX12_sureOf_43 : decode cX12_sureOf 43 = .ok (.iconst 1, 1) := by decide +kernel
theorem dX12_sureOf_44 : decode cX12_sureOf 44 = .ok (.isub, 1) := by decide +kernel
theorem dX12_sureOf_45 : decode cX12_sureOf 45 = .ok (.iand, 1) := by decide +kernel
theorem dX12_sureOf_46 : decode cX12_sureOf 46 = .ok (.ifCond .ne 7, 3) := by decide +kernel
theorem dX12_sureOf_49 : decode cX12_sureOf 49 = .ok (.iconst 1, 1) := by decide +kernel
theorem dX12_sureOf_50 : decode cX12_sureOf 50 = .ok (.goto 4, 3) := by decide +kernel
theorem dX12_sureOf_53 : decode cX12_sureOf 53 = .ok (.iconst 0, 1) := by decide +kernel
theorem dX12_sureOf_54 : decode cX12_sureOf 54 = .ok (.iadd, 1) := by decide +kernel
theorem dX12_sureOf_55 : decode cX12_sureOf 55 = .ok (.istore_n 2, 1) := by decide +kernel
theorem dX12_sureOf_56 : decode cX12_sureOf 56 = .ok (.iinc 3 1, 3) := by decide +kernel
theorem dX12_sureOf_59 : decode cX12_sureOf 59 = .ok (.goto (-55), 3) := by decide +kernel
theorem dX12_sureOf_62 : decode cX12_sureOf 62 = .ok (.iload_n 2, 1) := by decide +kernel
theorem dX12_sureOf_63 : decode cX12_sureOf 63 = .ok (.ireturn, 1) := by decide +kernel
theorem dX12_sure_0 : decode cX12_sure 0 = .ok (.iload_n 1, 1) := by decide +kernel
theorem dX12_sure_1 : decode cX12_sure 1 = .ok (.invokestatic 320, 3) := by decide +kernel
theorem dX12_sure_4 : decode cX12_sure 4 = .ok (.ifCond .eq 11, 3) := by decide +kernel
theorem dX12_sure_7 : decode cX12_sure 7 = .ok (.aload_n 0, 1) := by decide +kernel
theorem dX12_sure_8 : decode cX12_sure 8 = .ok (.iload_n 1, 1) := by decide +kernel
theorem dX12_sure_9 : decode cX12_sure 9 = .ok (.invokevirtual 488, 3) := by decide +kernel
theorem dX12_sure_12 : decode cX12_sure 12 = .ok (.goto 4, 3) := by decide +kernel
theorem dX12_sure_15 : decode cX12_sure 15 = .ok (.iconst (-1), 1) := by decide +kernel
theorem dX12_sure_16 : decode cX12_sure 16 = .ok (.ireturn, 1) := by decide +kernel
theorem dX12_nowhere_0 : decode cX12_nowhere 0 = .ok (.iload_n 1, 1) := by decide +kernel
theorem dX12_nowhere_1 : decode cX12_nowhere 1 = .ok (.ifCond .lt 10, 3) := by decide +kernel
theorem dX12_nowhere_4 : decode cX12_nowhere 4 = .ok (.iload_n 2, 1) := by decide +kernel
theorem dX12_nowhere_5 : decode cX12_nowhere 5 = .ok (.invokestatic 320, 3) := by decide +kernel
theorem dX12_nowhere_8 : decode cX12_nowhere 8 = .ok (.ifCond .ne 5, 3) := by decide +kernel
theorem dX12_nowhere_11 : decode cX12_nowhere 11 = .ok (.iconst (-1), 1) := by decide +kernel
theorem dX12_nowhere_12 : decode cX12_nowhere 12 = .ok (.ireturn, 1) := by decide +kernel
theorem dX12_nowhere_13 : decode cX12_nowhere 13 = .ok (.iconst 0, 1) := by decide +kernel
theorem dX12_nowhere_14 : decode cX12_nowhere 14 = .ok (.istore_n 3, 1) := by decide +kernel
theorem dX12_nowhere_15 : decode cX12_nowhere 15 = .ok (.iconst 0, 1) := by decide +kernel
theorem dX12_nowhere_16 : decode cX12_nowhere 16 = .ok (.istore 4, 2) := by decide +kernel
theorem dX12_nowhere_18 : decode cX12_nowhere 18 = .ok (.iload 4, 2) := by decide +kernel
theorem dX12_nowhere_20 : decode cX12_nowhere 20 = .ok (.aload_n 0, 1) := by decide +kernel
theorem dX12_nowhere_21 : decode cX12_nowhere 21 = .ok (.getfield 470, 3) := by decide +kernel
theorem dX12_nowhere_24 : decode cX12_nowhere 24 = .ok (.if_icmp .ge 45, 3) := by decide +kernel
theorem dX12_nowhere_27 : decode cX12_nowhere 27 = .ok (.aload_n 0, 1) := by decide +kernel
theorem dX12_nowhere_28 : decode cX12_nowhere 28 = .ok (.getfield 160, 3) := by decide +kernel
theorem dX12_nowhere_31 : decode cX12_nowhere 31 = .ok (.iload 4, 2) := by decide +kernel
theorem dX12_nowhere_33 : decode cX12_nowhere 33 = .ok (.iaload, 1) := by decide +kernel
theorem dX12_nowhere_34 : decode cX12_nowhere 34 = .ok (.iload_n 2, 1) := by decide +kernel
theorem dX12_nowhere_35 : decode cX12_nowhere 35 = .ok (.if_icmp .gt 28, 3) := by decide +kernel
theorem dX12_nowhere_38 : decode cX12_nowhere 38 = .ok (.aload_n 0, 1) := by decide +kernel
theorem dX12_nowhere_39 : decode cX12_nowhere 39 = .ok (.iload 4, 2) := by decide +kernel
theorem dX12_nowhere_41 : decode cX12_nowhere 41 = .ok (.iload_n 2, 1) := by decide +kernel
theorem dX12_nowhere_42 : decode cX12_nowhere 42 = .ok (.invokevirtual 485, 3) := by decide +kernel
theorem dX12_nowhere_45 : decode cX12_nowhere 45 = .ok (.ifCond .eq 6, 3) := by decide +kernel
theorem dX12_nowhere_48 : decode cX12_nowhere 48 = .ok (.goto 15, 3) := by decide +kernel
theorem dX12_nowhere_51 : decode cX12_nowhere 51 = .ok (.iload_n 3, 1) := by decide +kernel
theorem dX12_nowhere_52 : decode cX12_nowhere 52 = .ok (.iload_n 1, 1) := by decide +kernel
theorem dX12_nowhere_53 : decode cX12_nowhere 53 = .ok (.if_icmp .ne 6, 3) := by decide +kernel
theorem dX12_nowhere_56 : decode cX12_nowhere 56 = .ok (.iload 4, 2) := by decide +kernel
theorem dX12_nowhere_58 : decode cX12_nowhere 58 = .ok (.ireturn, 1) := by decide +kernel
theorem dX12_nowhere_59 : decode cX12_nowhere 59 = .ok (.iload_n 3, 1) := by decide +kernel
theorem dX12_nowhere_60 : decode cX12_nowhere 60 = .ok (.iconst 1, 1) := by decide +kernel
theorem dX12_nowhere_61 : decode cX12_nowhere 61 = .ok (.iadd, 1) := by decide +kernel
theorem dX12_nowhere_62 : decode cX12_nowhere 62 = .ok (.istore_n 3, 1) := by decide +kernel
theorem dX12_nowhere_63 : decode cX12_nowhere 63 = .ok (.iinc 4 1, 3) := by decide +kernel
theorem dX12_nowhere_66 : decode cX12_nowhere 66 = .ok (.goto (-48), 3) := by decide +kernel
theorem dX12_nowhere_69 : decode cX12_nowhere 69 = .ok (.iconst (-1), 1) := by decide +kernel
theorem dX12_nowhere_70 : decode cX12_nowhere 70 = .ok (.ireturn, 1) := by decide +kernel
theorem dX12_beside_0 : decode cX12_beside 0 = .ok (.iload_n 1, 1) := by decide +kernel
theorem dX12_beside_1 : decode cX12_beside 1 = .ok (.iconst 0, 1) := by decide +kernel
theorem dX12_beside_2 : decode cX12_beside 2 = .ok (.bipush 7, 2) := by decide +kernel
theorem dX12_beside_4 : decode cX12_beside 4 = .ok (.invokestatic 278, 3) := by decide +kernel
theorem dX12_beside_7 : decode cX12_beside 7 = .ok (.ifCond .ne 5, 3) := by decide +kernel
theorem dX12_beside_10 : decode cX12_beside 10 = .ok (.iconst (-1), 1) := by decide +kernel
theorem dX12_beside_11 : decode cX12_beside 11 = .ok (.ireturn, 1) := by decide +kernel
theorem dX12_beside_12 : decode cX12_beside 12 = .ok (.aload_n 0, 1) := by decide +kernel
theorem dX12_beside_13 : decode cX12_beside 13 = .ok (.iload_n 1, 1) := by decide +kernel
theorem dX12_beside_14 : decode cX12_beside 14 = .ok (.putfield 132, 3) := by decide +kernel
theorem dX12_beside_17 : decode cX12_beside 17 = .ok (.aload_n 0, 1) := by decide +kernel
theorem dX12_beside_18 : decode cX12_beside 18 = .ok (.aload_n 0, 1) := by decide +kernel
theorem dX12_beside_19 : decode cX12_beside 19 = .ok (.getfield 291, 3) := by decide +kernel
theorem dX12_beside_22 : decode cX12_beside 22 = .ok (.invokevirtual 488, 3) := by decide +kernel
theorem dX12_beside_25 : decode cX12_beside 25 = .ok (.istore_n 2, 1) := by decide +kernel
theorem dX12_beside_26 : decode cX12_beside 26 = .ok (.aload_n 0, 1) := by decide +kernel
theorem dX12_beside_27 : decode cX12_beside 27 = .ok (.iconst (-1), 1) := by decide +kernel
theorem dX12_beside_28 : decode cX12_beside 28 = .ok (.putfield 132, 3) := by decide +kernel
theorem dX12_beside_31 : decode cX12_beside 31 = .ok (.iload_n 2, 1) := by decide +kernel
theorem dX12_beside_32 : decode cX12_beside 32 = .ok (.ireturn, 1) := by decide +kernel
theorem dX12_barred_0 : decode cX12_barred 0 = .ok (.aload_n 0, 1) := by decide +kernel
theorem dX12_barred_1 : decode cX12_barred 1 = .ok (.iload_n 1, 1) := by decide +kernel
theorem dX12_barred_2 : decode cX12_barred 2 = .ok (.invokevirtual 308, 3) := by decide +kernel
theorem dX12_barred_5 : decode cX12_barred 5 = .ok (.ifCond .eq 13, 3) := by decide +kernel
theorem dX12_barred_8 : decode cX12_barred 8 = .ok (.aload_n 0, 1) := by decide +kernel
theorem dX12_barred_9 : decode cX12_barred 9 = .ok (.getfield 28, 3) := by decide +kernel
theorem dX12_barred_12 : decode cX12_barred 12 = .ok (.iload_n 1, 1) := by decide +kernel
theorem dX12_barred_13 : decode cX12_barred 13 = .ok (.iaload, 1) := by decide +kernel
theorem dX12_barred_14 : decode cX12_barred 14 = .ok (.iconst 2, 1) := by decide +kernel
theorem dX12_barred_15 : decode cX12_barred 15 = .ok (.if_icmp .ne 5, 3) := by decide +kernel
theorem dX12_barred_18 : decode cX12_barred 18 = .ok (.iconst (-1), 1) := by decide +kernel
theorem dX12_barred_19 : decode cX12_barred 19 = .ok (.ireturn, 1) := by decide +kernel
theorem dX12_barred_20 : decode cX12_barred 20 = .ok (.aload_n 0, 1) := by decide +kernel
theorem dX12_barred_21 : decode cX12_barred 21 = .ok (.aload_n 0, 1) := by decide +kernel
theorem dX12_barred_22 : decode cX12_barred 22 = .ok (.getfield 43, 3) := by decide +kernel
theorem dX12_barred_25 : decode cX12_barred 25 = .ok (.iload_n 1, 1) := by decide +kernel
theorem dX12_barred_26 : decode cX12_barred 26 = .ok (.iaload, 1) := by decide +kernel
theorem dX12_barred_27 : decode cX12_barred 27 = .ok (.aload_n 0, 1) := by decide +kernel
theorem dX12_barred_28 : decode cX12_barred 28 = .ok (.getfield 25, 3) := by decide +kernel
theorem dX12_barred_31 : decode cX12_barred 31 = .ok (.iload_n 1, 1) := by decide +kernel
theorem dX12_barred_32 : decode cX12_barred 32 = .ok (.iaload, 1) := by decide +kernel
theorem dX12_barred_33 : decode cX12_barred 33 = .ok (.aload_n 0, 1) := by decide +kernel
theorem dX12_barred_34 : decode cX12_barred 34 = .ok (.getfield 28, 3) := by decide +kernel
theorem dX12_barred_37 : decode cX12_barred 37 = .ok (.iload_n 1, 1) := by decide +kernel
theorem dX12_barred_38 : decode cX12_barred 38 = .ok (.iaload, 1) := by decide +kernel
theorem dX12_barred_39 : decode cX12_barred 39 = .ok (.iconst 0, 1) := by decide +kernel
theorem dX12_barred_40 : decode cX12_barred 40 = .ok (.iconst (-1), 1) := by decide +kernel
theorem dX12_barred_41 : decode cX12_barred 41 = .ok (.invokevirtual 459, 3) := by decide +kernel
theorem dX12_barred_44 : decode cX12_barred 44 = .ok (.aload_n 0, 1) := by decide +kernel
theorem dX12_barred_45 : decode cX12_barred 45 = .ok (.getfield 40, 3) := by decide +kernel
theorem dX12_barred_48 : decode cX12_barred 48 = .ok (.iload_n 1, 1) := by decide +kernel
theorem dX12_barred_49 : decode cX12_barred 49 = .ok (.iaload, 1) := by decide +kernel
theorem dX12_barred_50 : decode cX12_barred 50 = .ok (.aload_n 0, 1) := by decide +kernel
theorem dX12_barred_51 : decode cX12_barred 51 = .ok (.bipush 102, 2) := by decide +kernel
theorem dX12_barred_53 : decode cX12_barred 53 = .ok (.bipush 7, 2) := by decide +kernel
theorem dX12_barred_55 : decode cX12_barred 55 = .ok (.invokevirtual 463, 3) := by decide +kernel
theorem dX12_barred_58 : decode cX12_barred 58 = .ok (.if_icmp .le 7, 3) := by decide +kernel
theorem dX12_barred_61 : decode cX12_barred 61 = .ok (.iconst 1, 1) := by decide +kernel
theorem dX12_barred_62 : decode cX12_barred 62 = .ok (.goto 4, 3) := by decide +kernel
theorem dX12_barred_65 : decode cX12_barred 65 = .ok (.iconst 0, 1) := by decide +kernel
theorem dX12_barred_66 : decode cX12_barred 66 = .ok (.ireturn, 1) := by decide +kernel
theorem dX12_thing_0 : decode cX12_thing 0 = .ok (.iload_n 1, 1) := by decide +kernel
theorem dX12_thing_1 : decode cX12_thing 1 = .ok (.iconst 0, 1) := by decide +kernel
theorem dX12_thing_2 : decode cX12_thing 2 = .ok (.bipush 9, 2) := by decide +kernel
theorem dX12_thing_4 : decode cX12_thing 4 = .ok (.invokestatic 278, 3) := by decide +kernel
theorem dX12_thing_7 : decode cX12_thing 7 = .ok (.ifCond .eq 33, 3) := by decide +kernel
theorem dX12_thing_10 : decode cX12_thing 10 = .ok (.iload_n 2, 1) := by decide +kernel
theorem dX12_thing_11 : decode cX12_thing 11 = .ok (.iconst 0, 1) := by decide +kernel
theorem dX12_thing_12 : decode cX12_thing 12 = .ok (.bipush 7, 2) := by decide +kernel
theorem dX12_thing_14 : decode cX12_thing 14 = .ok (.invokestatic 278, 3) := by decide +kernel
theorem dX12_thing_17 : decode cX12_thing 17 = .ok (.ifCond .eq 23, 3) := by decide +kernel
theorem dX12_thing_20 : decode cX12_thing 20 = .ok (.iload_n 3, 1) := by decide +kernel
theorem dX12_thing_21 : decode cX12_thing 21 = .ok (.iconst 0, 1) := by decide +kernel
theorem dX12_thing_22 : decode cX12_thing 22 = .ok (.sipush 255, 3) := by decide +kernel
theorem dX12_thing_25 : decode cX12_thing 25 = .ok (.invokestatic 278, 3) := by decide +kernel
theorem dX12_thing_28 : decode cX12_thing 28 = .ok (.ifCond .eq 12, 3) := by decide +kernel
theorem dX12_thing_31 : decode cX12_thing 31 = .ok (.aload_n 0, 1) := by decide +kernel
theorem dX12_thing_32 : decode cX12_thing 32 = .ok (.getfield 491, 3) := by decide +kernel
theorem dX12_thing_35 : decode cX12_thing 35 = .ok (.bipush 60, 2) := by decide +kernel
theorem dX12_thing_37 : decode cX12_thing 37 = .ok (.if_icmp .ne 5, 3) := by decide +kernel
theorem dX12_thing_40 : decode cX12_thing 40 = .ok (.iconst (-1), 1) := by decide +kernel
theorem dX12_thing_41 : decode cX12_thing 41 = .ok (.ireturn, 1) := by decide +kernel
theorem dX12_thing_42 : decode cX12_thing 42 = .ok (.aload_n 0, 1) := by decide +kernel
theorem dX12_thing_43 : decode cX12_thing 43 = .ok (.getfield 163, 3) := by decide +kernel
theorem dX12_thing_46 : decode cX12_thing 46 = .ok (.aload_n 0, 1) := by decide +kernel
theorem dX12_thing_47 : decode cX12_thing 47 = .ok (.getfield 491, 3) := by decide +kernel
theorem dX12_thing_50 : decode cX12_thing 50 = .ok (.iload_n 1, 1) := by decide +kernel
theorem dX12_thing_51 : decode cX12_thing 51 = .ok (.iastore, 1) := by decide +kernel
theorem dX12_thing_52 : decode cX12_thing 52 = .ok (.aload_n 0, 1) := by decide +kernel
theorem dX12_thing_53 : decode cX12_thing 53 = .ok (.getfield 166, 3) := by decide +kernel
theorem dX12_thing_56 : decode cX12_thing 56 = .ok (.aload_n 0, 1) := by decide +kernel
theorem dX12_thing_57 : decode cX12_thing 57 = .ok (.getfield 491, 3) := by decide +kernel
theorem dX12_thing_60 : decode cX12_thing 60 = .ok (.iload_n 2, 1) := by decide +kernel
theorem dX12_thing_61 : decode cX12_thing 61 = .ok (.iastore, 1) := by decide +kernel
theorem dX12_thing_62 : decode cX12_thing 62 = .ok (.aload_n 0, 1) := by decide +kernel
theorem dX12_thing_63 : decode cX12_thing 63 = .ok (.getfield 169, 3) := by decide +kernel
theorem dX12_thing_66 : decode cX12_thing 66 = .ok (.aload_n 0, 1) := by decide +kernel
theorem dX12_thing_67 : decode cX12_thing 67 = .ok (.getfield 491, 3) := by decide +kernel
theorem dX12_thing_70 : decode cX12_thing 70 = .ok (.iload_n 3, 1) := by decide +kernel
theorem dX12_thing_71 : decode cX12_thing 71 = .ok (.iastore, 1) := by decide +kernel
theorem dX12_thing_72 : decode cX12_thing 72 = .ok (.aload_n 0, 1) := by decide +kernel
theorem dX12_thing_73 : decode cX12_thing 73 = .ok (.aload_n 0, 1) := by decide +kernel
theorem dX12_thing_74 : decode cX12_thing 74 = .ok (.getfield 491, 3) := by decide +kernel
theorem dX12_thing_77 : decode cX12_thing 77 = .ok (.iconst 1, 1) := by decide +kernel
theorem dX12_thing_78 : decode cX12_thing 78 = .ok (.iadd, 1) := by decide +kernel
theorem dX12_thing_79 : decode cX12_thing 79 = .ok (.putfield 491, 3) := by decide +kernel
theorem dX12_thing_82 : decode cX12_thing 82 = .ok (.aload_n 0, 1) := by decide +kernel
theorem dX12_thing_83 : decode cX12_thing 83 = .ok (.getfield 491, 3) := by decide +kernel
theorem dX12_thing_86 : decode cX12_thing 86 = .ok (.iconst 1, 1) := by decide +kernel
theorem dX12_thing_87 : decode cX12_thing 87 = .ok (.isub, 1) := by decide +kernel
theorem dX12_thing_88 : decode cX12_thing 88 = .ok (.ireturn, 1) := by decide +kernel
theorem dX12_isThing_0 : decode cX12_isThing 0 = .ok (.iload_n 1, 1) := by decide +kernel
theorem dX12_isThing_1 : decode cX12_isThing 1 = .ok (.ifCond .lt 15, 3) := by decide +kernel
theorem dX12_isThing_4 : decode cX12_isThing 4 = .ok (.iload_n 1, 1) := by decide +kernel
theorem dX12_isThing_5 : decode cX12_isThing 5 = .ok (.aload_n 0, 1) := by decide +kernel
theorem dX12_isThing_6 : decode cX12_isThing 6 = .ok (.getfield 491, 3) := by decide +kernel
theorem dX12_isThing_9 : decode cX12_isThing 9 = .ok (.if_icmp .ge 7, 3) := by decide +kernel
theorem dX12_isThing_12 : decode cX12_isThing 12 = .ok (.iconst 1, 1) := by decide +kernel
theorem dX12_isThing_13 : decode cX12_isThing 13 = .ok (.goto 4, 3) := by decide +kernel
theorem dX12_isThing_16 : decode cX12_isThing 16 = .ok (.iconst 0, 1) := by decide +kernel
theorem dX12_isThing_17 : decode cX12_isThing 17 = .ok (.ireturn, 1) := by decide +kernel
theorem dX12_gone_0 : decode cX12_gone 0 = .ok (.aload_n 0, 1) := by decide +kernel
theorem dX12_gone_1 : decode cX12_gone 1 = .ok (.iload_n 1, 1) := by decide +kernel
theorem dX12_gone_2 : decode cX12_gone 2 = .ok (.invokevirtual 494, 3) := by decide +kernel
theorem dX12_gone_5 : decode cX12_gone 5 = .ok (.ifCond .eq 13, 3) := by decide +kernel
theorem dX12_gone_8 : decode cX12_gone 8 = .ok (.aload_n 0, 1) := by decide +kernel
theorem dX12_gone_9 : decode cX12_gone 9 = .ok (.getfield 181, 3) := by decide +kernel
theorem dX12_gone_12 : decode cX12_gone 12 = .ok (.iload_n 1, 1) := by decide +kernel
theorem dX12_gone_13 : decode cX12_gone 13 = .ok (.baload, 1) := by decide +kernel
theorem dX12_gone_14 : decode cX12_gone 14 = .ok (.iload_n 2, 1) := by decide +kernel
theorem dX12_gone_15 : decode cX12_gone 15 = .ok (.if_icmp .ne 5, 3) := by decide +kernel
theorem dX12_gone_18 : decode cX12_gone 18 = .ok (.iconst 0, 1) := by decide +kernel
theorem dX12_gone_19 : decode cX12_gone 19 = .ok (.ireturn, 1) := by decide +kernel
theorem dX12_gone_20 : decode cX12_gone 20 = .ok (.aload_n 0, 1) := by decide +kernel
theorem dX12_gone_21 : decode cX12_gone 21 = .ok (.getfield 181, 3) := by decide +kernel
theorem dX12_gone_24 : decode cX12_gone 24 = .ok (.iload_n 1, 1) := by decide +kernel
theorem dX12_gone_25 : decode cX12_gone 25 = .ok (.iload_n 2, 1) := by decide +kernel
theorem dX12_gone_26 : decode cX12_gone 26 = .ok (.bastore, 1) := by decide +kernel
theorem dX12_gone_27 : decode cX12_gone 27 = .ok (.iconst 1, 1) := by decide +kernel
theorem dX12_gone_28 : decode cX12_gone 28 = .ok (.ireturn, 1) := by decide +kernel
theorem dX12_agreeing_0 : decode cX12_agreeing 0 = .ok (.bipush 8, 2) := by decide +kernel
theorem dX12_agreeing_2 : decode cX12_agreeing 2 = .ok (.istore_n 3, 1) := by decide +kernel
theorem dX12_agreeing_3 : decode cX12_agreeing 3 = .ok (.iconst 0, 1) := by decide +kernel
theorem dX12_agreeing_4 : decode cX12_agreeing 4 = .ok (.istore 4, 2) := by decide +kernel
theorem dX12_agreeing_6 : decode cX12_agreeing 6 = .ok (.iload 4, 2) := by decide +kernel
theorem dX12_agreeing_8 : decode cX12_agreeing 8 = .ok (.bipush 8, 2) := by decide +kernel
theorem dX12_agreeing_10 : decode cX12_agreeing 10 = .ok (.if_icmp .ge 30, 3) := by decide +kernel
theorem dX12_agreeing_13 : decode cX12_agreeing 13 = .ok (.iload_n 3, 1) := by decide +kernel
theorem dX12_agreeing_14 : decode cX12_agreeing 14 = .ok (.aload_n 0, 1) := by decide +kernel
theorem dX12_agreeing_15 : decode cX12_agreeing 15 = .ok (.getfield 157, 3) := by decide +kernel
theorem dX12_agreeing_18 : decode cX12_agreeing 18 = .ok (.iload_n 1, 1) := by decide +kernel
theorem dX12_agreeing_19 : decode cX12_agreeing 19 = .ok (.iaload, 1) := by decide +kernel
theorem dX12_agreeing_20 : decode cX12_agreeing 20 = .ok (.aload_n 0, 1) := by decide +kernel
theorem dX12_agreeing_21 : decode cX12_agreeing 21 = .ok (.getfield 169, 3) := by decide +kernel
theorem dX12_agreeing_24 : decode cX12_agreeing 24 = .ok (.iload_n 2, 1) := by decide +kernel
theorem dX12_agreeing_25 : decode cX12_agreeing 25 = .ok (.iaload, 1) := by decide +kernel
theorem dX12_agreeing_26 : decode cX12_agreeing 26 = .ok (.ixor, 1) := by decide +kernel
theorem dX12_agreeing_27 : decode cX12_agreeing 27 = .ok (.iload 4, 2) := by decide +kernel
theorem dX12_agreeing_29 : decode cX12_agreeing 29 = .ok (.ishr, 1) := by decide +kernel
theorem dX12_agreeing_30 : decode cX12_agreeing 30 = .ok (.iconst 1, 1) := by decide +kernel
theorem dX12_agreeing_31 : decode cX12_agreeing 31 = .ok (.iand, 1) := by decide +kernel
theorem dX12_agreeing_32 : decode cX12_agreeing 32 = .ok (.isub, 1) := by decide +kernel
theorem dX12_agreeing_33 : decode cX12_agreeing 33 = .ok (.istore_n 3, 1) := by decide +kernel
theorem dX12_agreeing_34 : decode cX12_agreeing 34 = .ok (.iinc 4 1, 3) := by decide +kernel
theorem dX12_agreeing_37 : decode cX12_agreeing 37 = .ok (.goto (-31), 3) := by decide +kernel
theorem dX12_agreeing_40 : decode cX12_agreeing 40 = .ok (.iload_n 3, 1) := by decide +kernel
theorem dX12_agreeing_41 : decode cX12_agreeing 41 = .ok (.ireturn, 1) := by decide +kernel
theorem dX12_couldBe_0 : decode cX12_couldBe 0 = .ok (.aload_n 0, 1) := by decide +kernel
theorem dX12_couldBe_1 : decode cX12_couldBe 1 = .ok (.getfield 154, 3) := by decide +kernel
theorem dX12_couldBe_4 : decode cX12_couldBe 4 = .ok (.iload_n 1, 1) := by decide +kernel
theorem dX12_couldBe_5 : decode cX12_couldBe 5 = .ok (.iaload, 1) := by decide +kernel
theorem dX12_couldBe_6 : decode cX12_couldBe 6 = .ok (.aload_n 0, 1) := by decide +kernel
theorem dX12_couldBe_7 : decode cX12_couldBe 7 = .ok (.getfield 166, 3) := by decide +kernel
theorem dX12_couldBe_10 : decode cX12_couldBe 10 = .ok (.iload_n 2, 1) := by decide +kernel
theorem dX12_couldBe_11 : decode cX12_couldBe 11 = .ok (.iaload, 1) := by decide +kernel
theorem dX12_couldBe_12 : decode cX12_couldBe 12 = .ok (.if_icmp .eq 5, 3) := by decide +kernel
theorem dX12_couldBe_15 : decode cX12_couldBe 15 = .ok (.iconst 0, 1) := by decide +kernel
theorem dX12_couldBe_16 : decode cX12_couldBe 16 = .ok (.ireturn, 1) := by decide +kernel
theorem dX12_couldBe_17 : decode cX12_couldBe 17 = .ok (.aload_n 0, 1) := by decide +kernel
theorem dX12_couldBe_18 : decode cX12_couldBe 18 = .ok (.aload_n 0, 1) := by decide +kernel
theorem dX12_couldBe_19 : decode cX12_couldBe 19 = .ok (.getfield 139, 3) := by decide +kernel
theorem dX12_couldBe_22 : decode cX12_couldBe 22 = .ok (.iload_n 1, 1) := by decide +kernel
theorem dX12_couldBe_23 : decode cX12_couldBe 23 = .ok (.iaload, 1) := by decide +kernel
theorem dX12_couldBe_24 : decode cX12_couldBe 24 = .ok (.aload_n 0, 1) := by decide +kernel
theorem dX12_couldBe_25 : decode cX12_couldBe 25 = .ok (.getfield 136, 3) := by decide +kernel
theorem dX12_couldBe_28 : decode cX12_couldBe 28 = .ok (.iload_n 1, 1) := by decide +kernel
theorem dX12_couldBe_29 : decode cX12_couldBe 29 = .ok (.iaload, 1) := by decide +kernel
theorem dX12_couldBe_30 : decode cX12_couldBe 30 = .ok (.aload_n 0, 1) := by decide +kernel
theorem dX12_couldBe_31 : decode cX12_couldBe 31 = .ok (.getfield 154, 3) := by decide +kernel
theorem dX12_couldBe_34 : decode cX12_couldBe 34 = .ok (.iload_n 1, 1) := by decide +kernel
theorem dX12_couldBe_35 : decode cX12_couldBe 35 = .ok (.iaload, 1) := by decide +kernel
theorem dX12_couldBe_36 : decode cX12_couldBe 36 = .ok (.aload_n 0, 1) := by decide +kernel
theorem dX12_couldBe_37 : decode cX12_couldBe 37 = .ok (.getfield 157, 3) := by decide +kernel
theorem dX12_couldBe_40 : decode cX12_couldBe 40 = .ok (.iload_n 1, 1) := by decide +kernel
theorem dX12_couldBe_41 : decode cX12_couldBe 41 = .ok (.iaload, 1) := by decide +kernel
theorem dX12_couldBe_42 : decode cX12_couldBe 42 = .ok (.iconst (-1), 1) := by decide +kernel
theorem dX12_couldBe_43 : decode cX12_couldBe 43 = .ok (.invokevirtual 459, 3) := by decide +kernel
theorem dX12_couldBe_46 : decode cX12_couldBe 46 = .ok (.aload_n 0, 1) := by decide +kernel
theorem dX12_couldBe_47 : decode cX12_couldBe 47 = .ok (.iload_n 1, 1) := by decide +kernel
theorem dX12_couldBe_48 : decode cX12_couldBe 48 = .ok (.iload_n 2, 1) := by decide +kernel
theorem dX12_couldBe_49 : decode cX12_couldBe 49 = .ok (.invokevirtual 497, 3) := by decide +kernel
theorem dX12_couldBe_52 : decode cX12_couldBe 52 = .ok (.aload_n 0, 1) := by decide +kernel
theorem dX12_couldBe_53 : decode cX12_couldBe 53 = .ok (.bipush 97, 2) := by decide +kernel
theorem dX12_couldBe_55 : decode cX12_couldBe 55 = .ok (.bipush 8, 2) := by decide +kernel
theorem dX12_couldBe_57 : decode cX12_couldBe 57 = .ok (.invokevirtual 463, 3) := by decide +kernel
theorem dX12_couldBe_60 : decode cX12_couldBe 60 = .ok (.if_icmp .lt 7, 3) := by decide +kernel
theorem dX12_couldBe_63 : decode cX12_couldBe 63 = .ok (.iconst 1, 1) := by decide +kernel
theorem dX12_couldBe_64 : decode cX12_couldBe 64 = .ok (.goto 4, 3) := by decide +kernel
theorem dX12_couldBe_67 : decode cX12_couldBe 67 = .ok (.iconst 0, 1) := by decide +kernel
theorem dX12_couldBe_68 : decode cX12_couldBe 68 = .ok (.ireturn, 1) := by decide +kernel
theorem dX12_isLike_0 : decode cX12_isLike 0 = .ok (.aload_n 0, 1) := by decide +kernel
theorem dX12_isLike_1 : decode cX12_isLike 1 = .ok (.getfield 181, 3) := by decide +kernel
theorem dX12_isLike_4 : decode cX12_isLike 4 = .ok (.iload_n 2, 1) := by decide +kernel
theorem dX12_isLike_5 : decode cX12_isLike 5 = .ok (.baload, 1) := by decide +kernel
theorem dX12_isLike_6 : decode cX12_isLike 6 = .ok (.ifCond .ne 16, 3) := by decide +kernel
theorem dX12_isLike_9 : decode cX12_isLike 9 = .ok (.aload_n 0, 1) := by decide +kernel
theorem dX12_isLike_10 : decode cX12_isLike 10 = .ok (.iload_n 1, 1) := by decide +kernel
theorem dX12_isLike_11 : decode cX12_isLike 11 = .ok (.iload_n 2, 1) := by decide +kernel
theorem dX12_isLike_12 : decode cX12_isLike 12 = .ok (.invokevirtual 500, 3) := by decide +kernel
theorem dX12_isLike_15 : decode cX12_isLike 15 = .ok (.ifCond .eq 7, 3) := by decide +kernel
theorem dX12_isLike_18 : decode cX12_isLike 18 = .ok (.iconst 1, 1) := by decide +kernel
theorem dX12_isLike_19 : decode cX12_isLike 19 = .ok (.goto 4, 3) := by decide +kernel
theorem dX12_isLike_22 : decode cX12_isLike 22 = .ok (.iconst 0, 1) := by decide +kernel
theorem dX12_isLike_23 : decode cX12_isLike 23 = .ok (.ireturn, 1) := by decide +kernel
theorem dX12_like_0 : decode cX12_like 0 = .ok (.aload_n 0, 1) := by decide +kernel
theorem dX12_like_1 : decode cX12_like 1 = .ok (.iload_n 1, 1) := by decide +kernel
theorem dX12_like_2 : decode cX12_like 2 = .ok (.invokevirtual 482, 3) := by decide +kernel
theorem dX12_like_5 : decode cX12_like 5 = .ok (.ifCond .eq 11, 3) := by decide +kernel
theorem dX12_like_8 : decode cX12_like 8 = .ok (.aload_n 0, 1) := by decide +kernel
theorem dX12_like_9 : decode cX12_like 9 = .ok (.iload_n 2, 1) := by decide +kernel
theorem dX12_like_10 : decode cX12_like 10 = .ok (.invokevirtual 494, 3) := by decide +kernel
theorem dX12_like_13 : decode cX12_like 13 = .ok (.ifCond .ne 5, 3) := by decide +kernel
theorem dX12_like_16 : decode cX12_like 16 = .ok (.iconst (-1), 1) := by decide +kernel
theorem dX12_like_17 : decode cX12_like 17 = .ok (.ireturn, 1) := by decide +kernel
theorem dX12_like_18 : decode cX12_like 18 = .ok (.aload_n 0, 1) := by decide +kernel
theorem dX12_like_19 : decode cX12_like 19 = .ok (.iload_n 1, 1) := by decide +kernel
theorem dX12_like_20 : decode cX12_like 20 = .ok (.iload_n 2, 1) := by decide +kernel
theorem dX12_like_21 : decode cX12_like 21 = .ok (.invokevirtual 503, 3) := by decide +kernel
theorem dX12_like_24 : decode cX12_like 24 = .ok (.ifCond .eq 7, 3) := by decide +kernel
theorem dX12_like_27 : decode cX12_like 27 = .ok (.iconst 1, 1) := by decide +kernel
theorem dX12_like_28 : decode cX12_like 28 = .ok (.goto 4, 3) := by decide +kernel
theorem dX12_like_31 : decode cX12_like 31 = .ok (.iconst 0, 1) := by decide +kernel
theorem dX12_like_32 : decode cX12_like 32 = .ok (.ireturn, 1) := by decide +kernel
theorem dX12_hearsFinds_0 : decode cX12_hearsFinds 0 = .ok (.iconst 0, 1) := by decide +kernel
theorem dX12_hearsFinds_1 : decode cX12_hearsFinds 1 = .ok (.istore_n 2, 1) := by decide +kernel
theorem dX12_hearsFinds_2 : decode cX12_hearsFinds 2 = .ok (.iload_n 2, 1) := by decide +kernel
theorem dX12_hearsFinds_3 : decode cX12_hearsFinds 3 = .ok (.iload_n 1, 1) := by decide +kernel
theorem dX12_hearsFinds_4 : decode cX12_hearsFinds 4 = .ok (.if_icmp .ge 70, 3) := by decide +kernel
theorem dX12_hearsFinds_7 : decode cX12_hearsFinds 7 = .ok (.aload_n 0, 1) := by decide +kernel
theorem dX12_hearsFinds_8 : decode cX12_hearsFinds 8 = .ok (.getfield 172, 3) := by decide +kernel
theorem dX12_hearsFinds_11 : decode cX12_hearsFinds 11 = .ok (.iload_n 2, 1) := by decide +kernel
theorem dX12_hearsFinds_12 : decode cX12_hearsFinds 12 = .ok (.aload_n 0, 1) := by decide +kernel
theorem dX12_hearsFinds_13 : decode cX12_hearsFinds 13 = .ok (.getfield 70, 3) := by decide +kernel
theorem dX12_hearsFinds_16 : decode cX12_hearsFinds 16 = .ok (.iload_n 2, 1) := by decide +kernel
theorem dX12_hearsFinds_17 : decode cX12_hearsFinds 17 = .ok (.baload, 1) := by decide +kernel
theorem dX12_hearsFinds_18 : decode cX12_hearsFinds 18 = .ok (.sipush 255, 3) := by decide +kernel
theorem dX12_hearsFinds_21 : decode cX12_hearsFinds 21 = .ok (.iand, 1) := by decide +kernel
theorem dX12_hearsFinds_22 : decode cX12_hearsFinds 22 = .ok (.iastore, 1) := by decide +kernel
theorem dX12_hearsFinds_23 : decode cX12_hearsFinds 23 = .ok (.aload_n 0, 1) := by decide +kernel
theorem dX12_hearsFinds_24 : decode cX12_hearsFinds 24 = .ok (.aload_n 0, 1) := by decide +kernel
theorem dX12_hearsFinds_25 : decode cX12_hearsFinds 25 = .ok (.getfield 172, 3) := by decide +kernel
theorem dX12_hearsFinds_28 : decode cX12_hearsFinds 28 = .ok (.iload_n 2, 1) := by decide +kernel
theorem dX12_hearsFinds_29 : decode cX12_hearsFinds 29 = .ok (.iaload, 1) := by decide +kernel
theorem dX12_hearsFinds_30 : decode cX12_hearsFinds 30 = .ok (.invokevirtual 482, 3) := by decide +kernel
theorem dX12_hearsFinds_33 : decode cX12_hearsFinds 33 = .ok (.ifCond .ne 5, 3) := by decide +kernel
theorem dX12_hearsFinds_36 : decode cX12_hearsFinds 36 = .ok (.iconst 0, 1) := by decide +kernel
theorem dX12_hearsFinds_37 : decode cX12_hearsFinds 37 = .ok (.ireturn, 1) := by decide +kernel
theorem dX12_hearsFinds_38 : decode cX12_hearsFinds 38 = .ok (.iconst 0, 1) := by decide +kernel
theorem dX12_hearsFinds_39 : decode cX12_hearsFinds 39 = .ok (.istore_n 3, 1) := by decide +kernel
theorem dX12_hearsFinds_40 : decode cX12_hearsFinds 40 = .ok (.iload_n 3, 1) := by decide +kernel
theorem dX12_hearsFinds_41 : decode cX12_hearsFinds 41 = .ok (.iload_n 2, 1) := by decide +kernel
theorem dX12_hearsFinds_42 : decode cX12_hearsFinds 42 = .ok (.if_icmp .ge 26, 3) := by decide +kernel
theorem dX12_hearsFinds_45 : decode cX12_hearsFinds 45 = .ok (.aload_n 0, 1) := by decide +kernel
theorem dX12_hearsFinds_46 : decode cX12_hearsFinds 46 = .ok (.getfield 172, 3) := by decide +kernel
theorem dX12_hearsFinds_49 : decode cX12_hearsFinds 49 = .ok (.iload_n 3, 1) := by decide +kernel
theorem dX12_hearsFinds_50 : decode cX12_hearsFinds 50 = .ok (.iaload, 1) := by decide +kernel
theorem dX12_hearsFinds_51 : decode cX12_hearsFinds 51 = .ok (.aload_n 0, 1) := by decide +kernel
theorem dX12_hearsFinds_52 : decode cX12_hearsFinds 52 = .ok (.getfield 172, 3) := by decide +kernel
theorem dX12_hearsFinds_55 : decode cX12_hearsFinds 55 = .ok (.iload_n 2, 1) := by decide +kernel
theorem dX12_hearsFinds_56 : decode cX12_hearsFinds 56 = .ok (.iaload, 1) := by decide +kernel
theorem dX12_hearsFinds_57 : decode cX12_hearsFinds 57 = .ok (.if_icmp .ne 5, 3) := by decide +kernel
theorem dX12_hearsFinds_60 : decode cX12_hearsFinds 60 = .ok (.iconst 0, 1) := by decide +kernel
theorem dX12_hearsFinds_61 : decode cX12_hearsFinds 61 = .ok (.ireturn, 1) := by decide +kernel
theorem dX12_hearsFinds_62 : decode cX12_hearsFinds 62 = .ok (.iinc 3 1, 3) := by decide +kernel
theorem dX12_hearsFinds_65 : decode cX12_hearsFinds 65 = .ok (.goto (-25), 3) := by decide +kernel
theorem dX12_hearsFinds_68 : decode cX12_hearsFinds 68 = .ok (.iinc 2 1, 3) := by decide +kernel
theorem dX12_hearsFinds_71 : decode cX12_hearsFinds 71 = .ok (.goto (-69), 3) := by decide +kernel
theorem dX12_hearsFinds_74 : decode cX12_hearsFinds 74 = .ok (.iconst 1, 1) := by decide +kernel
theorem dX12_hearsFinds_75 : decode cX12_hearsFinds 75 = .ok (.ireturn, 1) := by decide +kernel
theorem dX12_bestFrom_0 : decode cX12_bestFrom 0 = .ok (.iconst 1, 1) := by decide +kernel
theorem dX12_bestFrom_1 : decode cX12_bestFrom 1 = .ok (.iload_n 2, 1) := by decide +kernel
theorem dX12_bestFrom_2 : decode cX12_bestFrom 2 = .ok (.iload_n 1, 1) := by decide +kernel
theorem dX12_bestFrom_3 : decode cX12_bestFrom 3 = .ok (.isub, 1) := by decide +kernel
theorem dX12_bestFrom_4 : decode cX12_bestFrom 4 = .ok (.ishl, 1) := by decide +kernel
theorem dX12_bestFrom_5 : decode cX12_bestFrom 5 = .ok (.istore_n 3, 1) := by decide +kernel
theorem dX12_bestFrom_6 : decode cX12_bestFrom 6 = .ok (.iconst 0, 1) := by decide +kernel
theorem dX12_bestFrom_7 : decode cX12_bestFrom 7 = .ok (.istore 4, 2) := by decide +kernel
theorem dX12_bestFrom_9 : decode cX12_bestFrom 9 = .ok (.iload 4, 2) := by decide +kernel
theorem dX12_bestFrom_11 : decode cX12_bestFrom 11 = .ok (.iload_n 3, 1) := by decide +kernel
theorem dX12_bestFrom_12 : decode cX12_bestFrom 12 = .ok (.if_icmp .ge 26, 3) := by decide +kernel
theorem dX12_bestFrom_15 : decode cX12_bestFrom 15 = .ok (.aload_n 0, 1) := by decide +kernel
theorem dX12_bestFrom_16 : decode cX12_bestFrom 16 = .ok (.getfield 178, 3) := by decide +kernel
theorem dX12_bestFrom_19 : decode cX12_bestFrom 19 = .ok (.iload 4, 2) := by decide +kernel
theorem dX12_bestFrom_21 : decode cX12_bestFrom 21 = .ok (.iload 4, 2) := by decide +kernel
theorem dX12_bestFrom_23 : decode cX12_bestFrom 23 = .ok (.ifCond .ne 7, 3) := by decide +kernel
theorem dX12_bestFrom_26 : decode cX12_bestFrom 26 = .ok (.iconst 0, 1) := by decide +kernel
theorem dX12_bestFrom_27 : decode cX12_bestFrom 27 = .ok (.goto 4, 3) := by decide +kernel
theorem dX12_bestFrom_30 : decode cX12_bestFrom 30 = .ok (.iconst (-1), 1) := by decide +kernel
theorem dX12_bestFrom_31 : decode cX12_bestFrom 31 = .ok (.iastore, 1) := by decide +kernel
theorem dX12_bestFrom_32 : decode cX12_bestFrom 32 = .ok (.iinc 4 1, 3) := by decide +kernel
theorem dX12_bestFrom_35 : decode cX12_bestFrom 35 = .ok (.goto (-26), 3) := by decide +kernel
theorem dX12_bestFrom_38 : decode cX12_bestFrom 38 = .ok (.iconst 0, 1) := by decide +kernel
theorem dX12_bestFrom_39 : decode cX12_bestFrom 39 = .ok (.istore 4, 2) := by decide +kernel
theorem dX12_bestFrom_41 : decode cX12_bestFrom 41 = .ok (.iload 4, 2) := by decide +kernel
theorem dX12_bestFrom_43 : decode cX12_bestFrom 43 = .ok (.aload_n 0, 1) := by decide +kernel
theorem dX12_bestFrom_44 : decode cX12_bestFrom 44 = .ok (.getfield 491, 3) := by decide +kernel
theorem dX12_bestFrom_47 : decode cX12_bestFrom 47 = .ok (.if_icmp .ge 165, 3) := by decide +kernel
theorem dX12_bestFrom_50 : decode cX12_bestFrom 50 = .ok (.iload_n 3, 1) := by decide +kernel
theorem dX12_bestFrom_51 : decode cX12_bestFrom 51 = .ok (.iconst 1, 1) := by decide +kernel
theorem dX12_bestFrom_52 : decode cX12_bestFrom 52 = .ok (.isub, 1) := by decide +kernel
theorem dX12_bestFrom_53 : decode cX12_bestFrom 53 = .ok (.istore 5, 2) := by decide +kernel
theorem dX12_bestFrom_55 : decode cX12_bestFrom 55 = .ok (.iload 5, 2) := by decide +kernel
theorem dX12_bestFrom_57 : decode cX12_bestFrom 57 = .ok (.ifCond .le 149, 3) := by decide +kernel
theorem dX12_bestFrom_60 : decode cX12_bestFrom 60 = .ok (.aload_n 0, 1) := by decide +kernel
theorem dX12_bestFrom_61 : decode cX12_bestFrom 61 = .ok (.getfield 184, 3) := by decide +kernel
theorem dX12_bestFrom_64 : decode cX12_bestFrom 64 = .ok (.iload 4, 2) := by decide +kernel
theorem dX12_bestFrom_66 : decode cX12_bestFrom 66 = .ok (.baload, 1) := by decide +kernel
theorem dX12_bestFrom_67 : decode cX12_bestFrom 67 = .ok (.ifCond .ne 139, 3) := by decide +kernel
theorem dX12_bestFrom_70 : decode cX12_bestFrom 70 = .ok (.iconst 0, 1) := by decide +kernel
theorem dX12_bestFrom_71 : decode cX12_bestFrom 71 = .ok (.istore 6, 2) := by decide +kernel
theorem dX12_bestFrom_73 : decode cX12_bestFrom 73 = .ok (.iload 6, 2) := by decide +kernel
theorem dX12_bestFrom_75 : decode cX12_bestFrom 75 = .ok (.iload_n 2, 1) := by decide +kernel
theorem dX12_bestFrom_76 : decode cX12_bestFrom 76 = .ok (.iload_n 1, 1) := by decide +kernel
theorem dX12_bestFrom_77 : decode cX12_bestFrom 77 = .ok (.isub, 1) := by decide +kernel
theorem dX12_bestFrom_78 : decode cX12_bestFrom 78 = .ok (.if_icmp .ge 122, 3) := by decide +kernel
theorem dX12_bestFrom_81 : decode cX12_bestFrom 81 = .ok (.iload 5, 2) := by decide +kernel
theorem dX12_bestFrom_83 : decode cX12_bestFrom 83 = .ok (.iload 6, 2) := by decide +kernel
theorem dX12_bestFrom_85 : decode cX12_bestFrom 85 = .ok (.ishr, 1) := by decide +kernel
theorem dX12_bestFrom_86 : decode cX12_bestFrom 86 = .ok (.iconst 1, 1) := by decide +kernel
theorem dX12_bestFrom_87 : decode cX12_bestFrom 87 = .ok (.iand, 1) := by decide +kernel
theorem dX12_bestFrom_88 : decode cX12_bestFrom 88 = .ok (.ifCond .eq 106, 3) := by decide +kernel
theorem dX12_bestFrom_91 : decode cX12_bestFrom 91 = .ok (.aload_n 0, 1) := by decide +kernel
theorem dX12_bestFrom_92 : decode cX12_bestFrom 92 = .ok (.getfield 187, 3) := by decide +kernel
theorem dX12_bestFrom_95 : decode cX12_bestFrom 95 = .ok (.bipush 60, 2) := by decide +kernel
theorem dX12_bestFrom_97 : decode cX12_bestFrom 97 = .ok (.iload_n 1, 1) := by decide +kernel
theorem dX12_bestFrom_98 : decode cX12_bestFrom 98 = .ok (.iload 6, 2) := by decide +kernel
theorem dX12_bestFrom_100 : decode cX12_bestFrom 100 = .ok (.iadd, 1) := by decide +kernel
theorem dX12_bestFrom_101 : decode cX12_bestFrom 101 = .ok (.imul, 1) := by decide +kernel
theorem dX12_bestFrom_102 : decode cX12_bestFrom 102 = .ok (.iload 4, 2) := by decide +kernel
theorem dX12_bestFrom_104 : decode cX12_bestFrom 104 = .ok (.iadd, 1) := by decide +kernel
theorem dX12_bestFrom_105 : decode cX12_bestFrom 105 = .ok (.iaload, 1) := by decide +kernel
theorem dX12_bestFrom_106 : decode cX12_bestFrom 106 = .ok (.iconst (-1), 1) := by decide +kernel
theorem dX12_bestFrom_107 : decode cX12_bestFrom 107 = .ok (.if_icmp .eq 87, 3) := by decide +kernel
theorem dX12_bestFrom_110 : decode cX12_bestFrom 110 = .ok (.aload_n 0, 1) := by decide +kernel
theorem dX12_bestFrom_111 : decode cX12_bestFrom 111 = .ok (.getfield 178, 3) := by decide +kernel
theorem dX12_bestFrom_114 : decode cX12_bestFrom 114 = .ok (.iload 5, 2) := by decide +kernel
theorem dX12_bestFrom_116 : decode cX12_bestFrom 116 = .ok (.iconst 1, 1) := by decide +kernel
theorem dX12_bestFrom_117 : decode cX12_bestFrom 117 = .ok (.iload 6, 2) := by decide +kernel
theorem dX12_bestFrom_119 : decode cX12_bestFrom 119 = .ok (.ishl, 1) := by decide +kernel
theorem dX12_bestFrom_120 : decode cX12_bestFrom 120 = .ok (.ixor, 1) := by decide +kernel
theorem dX12_bestFrom_121 : decode cX12_bestFrom 121 = .ok (.iaload, 1) := by decide +kernel
theorem dX12_bestFrom_122 : decode cX12_bestFrom 122 = .ok (.iconst (-1), 1) := by decide +kernel
theorem dX12_bestFrom_123 : decode cX12_bestFrom 123 = .ok (.if_icmp .ne 6, 3) := by decide +kernel
theorem dX12_bestFrom_126 : decode cX12_bestFrom 126 = .ok (.goto 68, 3) := by decide +kernel
theorem dX12_bestFrom_129 : decode cX12_bestFrom 129 = .ok (.aload_n 0, 1) := by decide +kernel
theorem dX12_bestFrom_130 : decode cX12_bestFrom 130 = .ok (.getfield 178, 3) := by decide +kernel
theorem dX12_bestFrom_133 : decode cX12_bestFrom 133 = .ok (.iload 5, 2) := by decide +kernel
theorem dX12_bestFrom_135 : decode cX12_bestFrom 135 = .ok (.iconst 1, 1) := by decide +kernel
theorem dX12_bestFrom_136 : decode cX12_bestFrom 136 = .ok (.iload 6, 2) := by decide +kernel
theorem dX12_bestFrom_138 : decode cX12_bestFrom 138 = .ok (.ishl, 1) := by decide +kernel
theorem dX12_bestFrom_139 : decode cX12_bestFrom 139 = .ok (.ixor, 1) := by decide +kernel
theorem dX12_bestFrom_140 : decode cX12_bestFrom 140 = .ok (.iaload, 1) := by decide +kernel
theorem dX12_bestFrom_141 : decode cX12_bestFrom 141 = .ok (.sipush 1000, 3) := by decide +kernel
theorem dX12_bestFrom_144 : decode cX12_bestFrom 144 = .ok (.iadd, 1) := by decide +kernel
theorem dX12_bestFrom_145 : decode cX12_bestFrom 145 = .ok (.aload_n 0, 1) := by decide +kernel
theorem dX12_bestFrom_146 : decode cX12_bestFrom 146 = .ok (.getfield 187, 3) := by decide +kernel
theorem dX12_bestFrom_149 : decode cX12_bestFrom 149 = .ok (.bipush 60, 2) := by decide +kernel
theorem dX12_bestFrom_151 : decode cX12_bestFrom 151 = .ok (.iload_n 1, 1) := by decide +kernel
theorem dX12_bestFrom_152 : decode cX12_bestFrom 152 = .ok (.iload 6, 2) := by decide +kernel
theorem dX12_bestFrom_154 : decode cX12_bestFrom 154 = .ok (.iadd, 1) := by decide +kernel
theorem dX12_bestFrom_155 : decode cX12_bestFrom 155 = .ok (.imul, 1) := by decide +kernel
theorem dX12_bestFrom_156 : decode cX12_bestFrom 156 = .ok (.iload 4, 2) := by decide +kernel
theorem dX12_bestFrom_158 : decode cX12_bestFrom 158 = .ok (.iadd, 1) := by decide +kernel
theorem dX12_bestFrom_159 : decode cX12_bestFrom 159 = .ok (.iaload, 1) := by decide +kernel
theorem dX12_bestFrom_160 : decode cX12_bestFrom 160 = .ok (.iadd, 1) := by decide +kernel
theorem dX12_bestFrom_161 : decode cX12_bestFrom 161 = .ok (.istore 7, 2) := by decide +kernel
theorem dX12_bestFrom_163 : decode cX12_bestFrom 163 = .ok (.aload_n 0, 1) := by decide +kernel
theorem dX12_bestFrom_164 : decode cX12_bestFrom 164 = .ok (.getfield 178, 3) := by decide +kernel
theorem dX12_bestFrom_167 : decode cX12_bestFrom 167 = .ok (.iload 5, 2) := by decide +kernel
theorem dX12_bestFrom_169 : decode cX12_bestFrom 169 = .ok (.iload 7, 2) := by decide +kernel
theorem dX12_bestFrom_171 : decode cX12_bestFrom 171 = .ok (.aload_n 0, 1) := by decide +kernel
theorem dX12_bestFrom_172 : decode cX12_bestFrom 172 = .ok (.getfield 178, 3) := by decide +kernel
theorem dX12_bestFrom_175 : decode cX12_bestFrom 175 = .ok (.iload 5, 2) := by decide +kernel
theorem dX12_bestFrom_177 : decode cX12_bestFrom 177 = .ok (.iaload, 1) := by decide +kernel
theorem dX12_bestFrom_178 : decode cX12_bestFrom 178 = .ok (.if_icmp .le 8, 3) := by decide +kernel
theorem dX12_bestFrom_181 : decode cX12_bestFrom 181 = .ok (.iload 7, 2) := by decide +kernel
theorem dX12_bestFrom_183 : decode cX12_bestFrom 183 = .ok (.goto 10, 3) := by decide +kernel
theorem dX12_bestFrom_186 : decode cX12_bestFrom 186 = .ok (.aload_n 0, 1) := by decide +kernel
theorem dX12_bestFrom_187 : decode cX12_bestFrom 187 = .ok (.getfield 178, 3) := by decide +kernel
theorem dX12_bestFrom_190 : decode cX12_bestFrom 190 = .ok (.iload 5, 2) := by decide +kernel
theorem dX12_bestFrom_192 : decode cX12_bestFrom 192 = .ok (.iaload, 1) := by decide +kernel
theorem dX12_bestFrom_193 : decode cX12_bestFrom 193 = .ok (.iastore, 1) := by decide +kernel
theorem dX12_bestFrom_194 : decode cX12_bestFrom 194 = .ok (.iinc 6 1, 3) := by decide +kernel
theorem dX12_bestFrom_197 : decode cX12_bestFrom 197 = .ok (.goto (-124), 3) := by decide +kernel
theorem dX12_bestFrom_200 : decode cX12_bestFrom 200 = .ok (.iinc 5 (-1), 3) := by decide +kernel
theorem dX12_bestFrom_203 : decode cX12_bestFrom 203 = .ok (.goto (-148), 3) := by decide +kernel
theorem dX12_bestFrom_206 : decode cX12_bestFrom 206 = .ok (.iinc 4 1, 3) := by decide +kernel
theorem dX12_bestFrom_209 : decode cX12_bestFrom 209 = .ok (.goto (-168), 3) := by decide +kernel
theorem dX12_bestFrom_212 : decode cX12_bestFrom 212 = .ok (.iconst 0, 1) := by decide +kernel
theorem dX12_bestFrom_213 : decode cX12_bestFrom 213 = .ok (.istore 4, 2) := by decide +kernel
theorem dX12_bestFrom_215 : decode cX12_bestFrom 215 = .ok (.iconst 0, 1) := by decide +kernel
theorem dX12_bestFrom_216 : decode cX12_bestFrom 216 = .ok (.istore 5, 2) := by decide +kernel
theorem dX12_bestFrom_218 : decode cX12_bestFrom 218 = .ok (.iload 5, 2) := by decide +kernel
theorem dX12_bestFrom_220 : decode cX12_bestFrom 220 = .ok (.iload_n 3, 1) := by decide +kernel
theorem dX12_bestFrom_221 : decode cX12_bestFrom 221 = .ok (.if_icmp .ge 35, 3) := by decide +kernel
theorem dX12_bestFrom_224 : decode cX12_bestFrom 224 = .ok (.aload_n 0, 1) := by decide +kernel
theorem dX12_bestFrom_225 : decode cX12_bestFrom 225 = .ok (.getfield 178, 3) := by decide +kernel
theorem dX12_bestFrom_228 : decode cX12_bestFrom 228 = .ok (.iload 5, 2) := by decide +kernel
theorem dX12_bestFrom_230 : decode cX12_bestFrom 230 = .ok (.iaload, 1) := by decide +kernel
theorem dX12_bestFrom_231 : decode cX12_bestFrom 231 = .ok (.iload 4, 2) := by decide +kernel
theorem dX12_bestFrom_233 : decode cX12_bestFrom 233 = .ok (.if_icmp .le 13, 3) := by decide +kernel
theorem dX12_bestFrom_236 : decode cX12_bestFrom 236 = .ok (.aload_n 0, 1) := by decide +kernel
theorem dX12_bestFrom_237 : decode cX12_bestFrom 237 = .ok (.getfield 178, 3) := by decide +kernel
theorem dX12_bestFrom_240 : decode cX12_bestFrom 240 = .ok (.iload 5, 2) := by decide +kernel
theorem dX12_bestFrom_242 : decode cX12_bestFrom 242 = .ok (.iaload, 1) := by decide +kernel
theorem dX12_bestFrom_243 : decode cX12_bestFrom 243 = .ok (.goto 5, 3) := by decide +kernel
theorem dX12_bestFrom_246 : decode cX12_bestFrom 246 = .ok (.iload 4, 2) := by decide +kernel
theorem dX12_bestFrom_248 : decode cX12_bestFrom 248 = .ok (.istore 4, 2) := by decide +kernel
theorem dX12_bestFrom_250 : decode cX12_bestFrom 250 = .ok (.iinc 5 1, 3) := by decide +kernel
theorem dX12_bestFrom_253 : decode cX12_bestFrom 253 = .ok (.goto (-35), 3) := by decide +kernel
theorem dX12_bestFrom_256 : decode cX12_bestFrom 256 = .ok (.iload 4, 2) := by decide +kernel
theorem dX12_bestFrom_258 : decode cX12_bestFrom 258 = .ok (.ireturn, 1) := by decide +kernel
theorem dX12_join_0 : decode cX12_join 0 = .ok (.iload_n 1, 1) := by decide +kernel
theorem dX12_join_1 : decode cX12_join 1 = .ok (.iconst 0, 1) := by decide +kernel
theorem dX12_join_2 : decode cX12_join 2 = .ok (.bipush 8, 2) := by decide +kernel
theorem dX12_join_4 : decode cX12_join 4 = .ok (.invokestatic 278, 3) := by decide +kernel
theorem dX12_join_7 : decode cX12_join 7 = .ok (.ifCond .eq 11, 3) := by decide +kernel
theorem dX12_join_10 : decode cX12_join 10 = .ok (.iload_n 1, 1) := by decide +kernel
theorem dX12_join_11 : decode cX12_join 11 = .ok (.aload_n 0, 1) := by decide +kernel
theorem dX12_join_12 : decode cX12_join 12 = .ok (.getfield 341, 3) := by decide +kernel
theorem dX12_join_15 : decode cX12_join 15 = .ok (.if_icmp .le 5, 3) := by decide +kernel
theorem dX12_join_18 : decode cX12_join 18 = .ok (.iconst (-1), 1) := by decide +kernel
theorem dX12_join_19 : decode cX12_join 19 = .ok (.ireturn, 1) := by decide +kernel
theorem dX12_join_20 : decode cX12_join 20 = .ok (.aload_n 0, 1) := by decide +kernel
theorem dX12_join_21 : decode cX12_join 21 = .ok (.iconst 0, 1) := by decide +kernel
theorem dX12_join_22 : decode cX12_join 22 = .ok (.putfield 341, 3) := by decide +kernel
theorem dX12_join_25 : decode cX12_join 25 = .ok (.aload_n 0, 1) := by decide +kernel
theorem dX12_join_26 : decode cX12_join 26 = .ok (.iload_n 1, 1) := by decide +kernel
theorem dX12_join_27 : decode cX12_join 27 = .ok (.invokevirtual 506, 3) := by decide +kernel
theorem dX12_join_30 : decode cX12_join 30 = .ok (.ifCond .ne 6, 3) := by decide +kernel
theorem dX12_join_33 : decode cX12_join 33 = .ok (.bipush (-2), 2) := by decide +kernel
theorem dX12_join_35 : decode cX12_join 35 = .ok (.ireturn, 1) := by decide +kernel
theorem dX12_join_36 : decode cX12_join 36 = .ok (.iconst 0, 1) := by decide +kernel
theorem dX12_join_37 : decode cX12_join 37 = .ok (.istore_n 2, 1) := by decide +kernel
theorem dX12_join_38 : decode cX12_join 38 = .ok (.iload_n 2, 1) := by decide +kernel
theorem dX12_join_39 : decode cX12_join 39 = .ok (.iload_n 1, 1) := by decide +kernel
theorem dX12_join_40 : decode cX12_join 40 = .ok (.if_icmp .ge 65, 3) := by decide +kernel
theorem dX12_join_43 : decode cX12_join 43 = .ok (.iconst 0, 1) := by decide +kernel
theorem dX12_join_44 : decode cX12_join 44 = .ok (.istore_n 3, 1) := by decide +kernel
theorem dX12_join_45 : decode cX12_join 45 = .ok (.iload_n 3, 1) := by decide +kernel
theorem dX12_join_46 : decode cX12_join 46 = .ok (.aload_n 0, 1) := by decide +kernel
theorem dX12_join_47 : decode cX12_join 47 = .ok (.getfield 491, 3) := by decide +kernel
theorem dX12_join_50 : decode cX12_join 50 = .ok (.if_icmp .ge 49, 3) := by decide +kernel
theorem dX12_join_53 : decode cX12_join 53 = .ok (.aload_n 0, 1) := by decide +kernel
theorem dX12_join_54 : decode cX12_join 54 = .ok (.getfield 187, 3) := by decide +kernel
theorem dX12_join_57 : decode cX12_join 57 = .ok (.bipush 60, 2) := by decide +kernel
theorem dX12_join_59 : decode cX12_join 59 = .ok (.iload_n 2, 1) := by decide +kernel
theorem dX12_join_60 : decode cX12_join 60 = .ok (.imul, 1) := by decide +kernel
theorem dX12_join_61 : decode cX12_join 61 = .ok (.iload_n 3, 1) := by decide +kernel
theorem dX12_join_62 : decode cX12_join 62 = .ok (.iadd, 1) := by decide +kernel
theorem dX12_join_63 : decode cX12_join 63 = .ok (.aload_n 0, 1) := by decide +kernel
theorem dX12_join_64 : decode cX12_join 64 = .ok (.aload_n 0, 1) := by decide +kernel
theorem dX12_join_65 : decode cX12_join 65 = .ok (.getfield 172, 3) := by decide +kernel
theorem dX12_join_68 : decode cX12_join 68 = .ok (.iload_n 2, 1) := by decide +kernel
theorem dX12_join_69 : decode cX12_join 69 = .ok (.iaload, 1) := by decide +kernel
theorem dX12_join_70 : decode cX12_join 70 = .ok (.iload_n 3, 1) := by decide +kernel
theorem dX12_join_71 : decode cX12_join 71 = .ok (.invokevirtual 503, 3) := by decide +kernel
theorem dX12_join_74 : decode cX12_join 74 = .ok (.ifCond .eq 17, 3) := by decide +kernel
theorem dX12_join_77 : decode cX12_join 77 = .ok (.aload_n 0, 1) := by decide +kernel
theorem dX12_join_78 : decode cX12_join 78 = .ok (.aload_n 0, 1) := by decide +kernel
theorem dX12_join_79 : decode cX12_join 79 = .ok (.getfield 172, 3) := by decide +kernel
theorem dX12_join_82 : decode cX12_join 82 = .ok (.iload_n 2, 1) := by decide +kernel
theorem dX12_join_83 : decode cX12_join 83 = .ok (.iaload, 1) := by decide +kernel
theorem dX12_join_84 : decode cX12_join 84 = .ok (.iload_n 3, 1) := by decide +kernel
theorem dX12_join_85 : decode cX12_join 85 = .ok (.invokevirtual 497, 3) := by decide +kernel
theorem dX12_join_88 : decode cX12_join 88 = .ok (.goto 4, 3) := by decide +kernel
theorem dX12_join_91 : decode cX12_join 91 = .ok (.iconst (-1), 1) := by decide +kernel
theorem dX12_join_92 : decode cX12_join 92 = .ok (.iastore, 1) := by decide +kernel
theorem dX12_join_93 : decode cX12_join 93 = .ok (.iinc 3 1, 3) := by decide +kernel
theorem dX12_join_96 : decode cX12_join 96 = .ok (.goto (-51), 3) := by decide +kernel
theorem dX12_join_99 : decode cX12_join 99 = .ok (.iinc 2 1, 3) := by decide +kernel
theorem dX12_join_102 : decode cX12_join 102 = .ok (.goto (-64), 3) := by decide +kernel
theorem dX12_join_105 : decode cX12_join 105 = .ok (.iconst 0, 1) := by decide +kernel
theorem dX12_join_106 : decode cX12_join 106 = .ok (.istore_n 2, 1) := by decide +kernel
theorem dX12_join_107 : decode cX12_join 107 = .ok (.iload_n 2, 1) := by decide +kernel
theorem dX12_join_108 : decode cX12_join 108 = .ok (.bipush 60, 2) := by decide +kernel
theorem dX12_join_110 : decode cX12_join 110 = .ok (.if_icmp .ge 16, 3) := by decide +kernel
theorem dX12_join_113 : decode cX12_join 113 = .ok (.aload_n 0, 1) := by decide +kernel
theorem dX12_join_114 : decode cX12_join 114 = .ok (.getfield 184, 3) := by decide +kernel
theorem dX12_join_117 : decode cX12_join 117 = .ok (.iload_n 2, 1) := by decide +kernel
theorem dX12_join_118 : decode cX12_join 118 = .ok (.iconst 0, 1) := by decide +kernel
theorem dX12_join_119 : decode cX12_join 119 = .ok (.bastore, 1) := by decide +kernel
theorem dX12_join_120 : decode cX12_join 120 = .ok (.iinc 2 1, 3) := by decide +kernel
theorem dX12_join_123 : decode cX12_join 123 = .ok (.goto (-16), 3) := by decide +kernel
theorem dX12_join_126 : decode cX12_join 126 = .ok (.aload_n 0, 1) := by decide +kernel
theorem dX12_join_127 : decode cX12_join 127 = .ok (.iconst 0, 1) := by decide +kernel
theorem dX12_join_128 : decode cX12_join 128 = .ok (.iload_n 1, 1) := by decide +kernel
theorem dX12_join_129 : decode cX12_join 129 = .ok (.invokevirtual 509, 3) := by decide +kernel
theorem dX12_join_132 : decode cX12_join 132 = .ok (.istore_n 2, 1) := by decide +kernel
theorem dX12_join_133 : decode cX12_join 133 = .ok (.iload_n 2, 1) := by decide +kernel
theorem dX12_join_134 : decode cX12_join 134 = .ok (.sipush 1000, 3) := by decide +kernel
theorem dX12_join_137 : decode cX12_join 137 = .ok (.idiv, 1) := by decide +kernel
theorem dX12_join_138 : decode cX12_join 138 = .ok (.istore_n 3, 1) := by decide +kernel
theorem dX12_join_139 : decode cX12_join 139 = .ok (.aload_n 0, 1) := by decide +kernel
theorem dX12_join_140 : decode cX12_join 140 = .ok (.iload_n 1, 1) := by decide +kernel
theorem dX12_join_141 : decode cX12_join 141 = .ok (.putfield 512, 3) := by decide +kernel
theorem dX12_join_144 : decode cX12_join 144 = .ok (.iconst 0, 1) := by decide +kernel
theorem dX12_join_145 : decode cX12_join 145 = .ok (.istore 4, 2) := by decide +kernel
theorem dX12_join_147 : decode cX12_join 147 = .ok (.iload 4, 2) := by decide +kernel
theorem dX12_join_149 : decode cX12_join 149 = .ok (.iload_n 1, 1) := by decide +kernel
theorem dX12_join_150 : decode cX12_join 150 = .ok (.if_icmp .ge 155, 3) := by decide +kernel
theorem dX12_join_153 : decode cX12_join 153 = .ok (.bipush 60, 2) := by decide +kernel
theorem dX12_join_155 : decode cX12_join 155 = .ok (.istore 5, 2) := by decide +kernel
theorem dX12_join_157 : decode cX12_join 157 = .ok (.iconst 0, 1) := by decide +kernel
theorem dX12_join_158 : decode cX12_join 158 = .ok (.istore 6, 2) := by decide +kernel
theorem dX12_join_160 : decode cX12_join 160 = .ok (.iload 6, 2) := by decide +kernel
theorem dX12_join_162 : decode cX12_join 162 = .ok (.aload_n 0, 1) := by decide +kernel
theorem dX12_join_163 : decode cX12_join 163 = .ok (.getfield 491, 3) := by decide +kernel
theorem dX12_join_166 : decode cX12_join 166 = .ok (.if_icmp .ge 93, 3) := by decide +kernel
theorem dX12_join_169 : decode cX12_join 169 = .ok (.iload 5, 2) := by decide +kernel
theorem dX12_join_171 : decode cX12_join 171 = .ok (.bipush 60, 2) := by decide +kernel
theorem dX12_join_173 : decode cX12_join 173 = .ok (.if_icmp .ne 86, 3) := by decide +kernel
theorem dX12_join_176 : decode cX12_join 176 = .ok (.aload_n 0, 1) := by decide +kernel
theorem dX12_join_177 : decode cX12_join 177 = .ok (.getfield 187, 3) := by decide +kernel
theorem dX12_join_180 : decode cX12_join 180 = .ok (.bipush 60, 2) := by decide +kernel
theorem dX12_join_182 : decode cX12_join 182 = .ok (.iload 4, 2) := by decide +kernel
theorem dX12_join_184 : decode cX12_join 184 = .ok (.imul, 1) := by decide +kernel
theorem dX12_join_185 : decode cX12_join 185 = .ok (.iload 6, 2) := by decide +kernel
theorem dX12_join_187 : decode cX12_join 187 = .ok (.iadd, 1) := by decide +kernel
theorem dX12_join_188 : decode cX12_join 188 = .ok (.iaload, 1) := by decide +kernel
theorem dX12_join_189 : decode cX12_join 189 = .ok (.istore 7, 2) := by decide +kernel
theorem dX12_join_191 : decode cX12_join 191 = .ok (.aload_n 0, 1) := by decide +kernel
theorem dX12_join_192 : decode cX12_join 192 = .ok (.getfield 184, 3) := by decide +kernel
theorem dX12_join_195 : decode cX12_join 195 = .ok (.iload 6, 2) := by decide +kernel
theorem dX12_join_197 : decode cX12_join 197 = .ok (.baload, 1) := by decide +kernel
theorem dX12_join_198 : decode cX12_join 198 = .ok (.ifCond .ne 55, 3) := by decide +kernel
theorem dX12_join_201 : decode cX12_join 201 = .ok (.iload 7, 2) := by decide +kernel
theorem dX12_join_203 : decode cX12_join 203 = .ok (.iconst (-1), 1) := by decide +kernel
theorem dX12_join_204 : decode cX12_join 204 = .ok (.if_icmp .ne 6, 3) := by decide +kernel
theorem dX12_join_207 : decode cX12_join 207 = .ok (.goto 46, 3) := by decide +kernel
theorem dX12_join_210 : decode cX12_join 210 = .ok (.aload_n 0, 1) := by decide +kernel
theorem dX12_join_211 : decode cX12_join 211 = .ok (.getfield 184, 3) := by decide +kernel
theorem dX12_join_214 : decode cX12_join 214 = .ok (.iload 6, 2) := by decide +kernel
theorem dX12_join_216 : decode cX12_join 216 = .ok (.iconst 1, 1) := by decide +kernel
theorem dX12_join_217 : decode cX12_join 217 = .ok (.bastore, 1) := by decide +kernel
theorem dX12_join_218 : decode cX12_join 218 = .ok (.sipush 1000, 3) := by decide +kernel
theorem dX12_join_221 : decode cX12_join 221 = .ok (.iload 7, 2) := by decide +kernel
theorem dX12_join_223 : decode cX12_join 223 = .ok (.iadd, 1) := by decide +kernel
theorem dX12_join_224 : decode cX12_join 224 = .ok (.aload_n 0, 1) := by decide +kernel
theorem dX12_join_225 : decode cX12_join 225 = .ok (.iload 4, 2) := by decide +kernel
theorem dX12_join_227 : decode cX12_join 227 = .ok (.iconst 1, 1) := by decide +kernel
theorem dX12_join_228 : decode cX12_join 228 = .ok (.iadd, 1) := by decide +kernel
theorem dX12_join_229 : decode cX12_join 229 = .ok (.iload_n 1, 1) := by decide +kernel
theorem dX12_join_230 : decode cX12_join 230 = .ok (.invokevirtual 509, 3) := by decide +kernel
theorem dX12_join_233 : decode cX12_join 233 = .ok (.iadd, 1) := by decide +kernel
theorem dX12_join_234 : decode cX12_join 234 = .ok (.iload_n 2, 1) := by decide +kernel
theorem dX12_join_235 : decode cX12_join 235 = .ok (.if_icmp .ne 10, 3) := by decide +kernel
theorem dX12_join_238 : decode cX12_join 238 = .ok (.iload 6, 2) := by decide +kernel
theorem dX12_join_240 : decode cX12_join 240 = .ok (.istore 5, 2) := by decide +kernel
theorem dX12_join_242 : decode cX12_join 242 = .ok (.goto 11, 3) := by decide +kernel
theorem dX12_join_245 : decode cX12_join 245 = .ok (.aload_n 0, 1) := by decide +kernel
theorem dX12_join_246 : decode cX12_join 246 = .ok (.getfield 184, 3) := by decide +kernel
theorem dX12_join_249 : decode cX12_join 249 = .ok (.iload 6, 2) := by decide +kernel
theorem dX12_join_251 : decode cX12_join 251 = .ok (.iconst 0, 1) := by decide +kernel
theorem dX12_join_252 : decode cX12_join 252 = .ok (.bastore, 1) := by decide +kernel
theorem dX12_join_253 : decode cX12_join 253 = .ok (.iinc 6 1, 3) := by decide +kernel
theorem dX12_join_256 : decode cX12_join 256 = .ok (.goto (-96), 3) := by decide +kernel
theorem dX12_join_259 : decode cX12_join 259 = .ok (.aload_n 0, 1) := by decide +kernel
theorem dX12_join_260 : decode cX12_join 260 = .ok (.getfield 175, 3) := by decide +kernel
theorem dX12_join_263 : decode cX12_join 263 = .ok (.iload 4, 2) := by decide +kernel
theorem dX12_join_265 : decode cX12_join 265 = .ok (.iload 5, 2) := by decide +kernel
theorem dX12_join_267 : decode cX12_join 267 = .ok (.iastore, 1) := by decide +kernel
theorem dX12_join_268 : decode cX12_join 268 = .ok (.iload 5, 2) := by decide +kernel
theorem dX12_join_270 : decode cX12_join 270 = .ok (.bipush 60, 2) := by decide +kernel
theorem dX12_join_272 : decode cX12_join 272 = .ok (.if_icmp .ne 7, 3) := by decide +kernel
theorem dX12_join_275 : decode cX12_join 275 = .ok (.iload_n 2, 1) := by decide +kernel
theorem dX12_join_276 : decode cX12_join 276 = .ok (.goto 22, 3) := by decide +kernel
theorem dX12_join_279 : decode cX12_join 279 = .ok (.iload_n 2, 1) := by decide +kernel
theorem dX12_join_280 : decode cX12_join 280 = .ok (.sipush 1000, 3) := by decide +kernel
theorem dX12_join_283 : decode cX12_join 283 = .ok (.isub, 1) := by decide +kernel
theorem dX12_join_284 : decode cX12_join 284 = .ok (.aload_n 0, 1) := by decide +kernel
theorem dX12_join_285 : decode cX12_join 285 = .ok (.getfield 187, 3) := by decide +kernel
theorem dX12_join_288 : decode cX12_join 288 = .ok (.bipush 60, 2) := by decide +kernel
theorem dX12_join_290 : decode cX12_join 290 = .ok (.iload 4, 2) := by decide +kernel
theorem dX12_join_292 : decode cX12_join 292 = .ok (.imul, 1) := by decide +kernel
theorem dX12_join_293 : decode cX12_join 293 = .ok (.iload 5, 2) := by decide +kernel
theorem dX12_join_295 : decode cX12_join 295 = .ok (.iadd, 1) := by decide +kernel
theorem dX12_join_296 : decode cX12_join 296 = .ok (.iaload, 1) := by decide +kernel
theorem dX12_join_297 : decode cX12_join 297 = .ok (.isub, 1) := by decide +kernel
theorem dX12_join_298 : decode cX12_join 298 = .ok (.istore_n 2, 1) := by decide +kernel
theorem dX12_join_299 : decode cX12_join 299 = .ok (.iinc 4 1, 3) := by decide +kernel
theorem dX12_join_302 : decode cX12_join 302 = .ok (.goto (-155), 3) := by decide +kernel
theorem dX12_join_305 : decode cX12_join 305 = .ok (.iload_n 3, 1) := by decide +kernel
theorem dX12_join_306 : decode cX12_join 306 = .ok (.ireturn, 1) := by decide +kernel
theorem dX12_joined_0 : decode cX12_joined 0 = .ok (.iload_n 1, 1) := by decide +kernel
theorem dX12_joined_1 : decode cX12_joined 1 = .ok (.ifCond .lt 20, 3) := by decide +kernel
theorem dX12_joined_4 : decode cX12_joined 4 = .ok (.iload_n 1, 1) := by decide +kernel
theorem dX12_joined_5 : decode cX12_joined 5 = .ok (.aload_n 0, 1) := by decide +kernel
theorem dX12_joined_6 : decode cX12_joined 6 = .ok (.getfield 512, 3) := by decide +kernel
theorem dX12_joined_9 : decode cX12_joined 9 = .ok (.if_icmp .ge 12, 3) := by decide +kernel
theorem dX12_joined_12 : decode cX12_joined 12 = .ok (.aload_n 0, 1) := by decide +kernel
theorem dX12_joined_13 : decode cX12_joined 13 = .ok (.getfield 175, 3) := by decide +kernel
theorem dX12_joined_16 : decode cX12_joined 16 = .ok (.iload_n 1, 1) := by decide +kernel
theorem dX12_joined_17 : decode cX12_joined 17 = .ok (.iaload, 1) := by decide +kernel
theorem dX12_joined_18 : decode cX12_joined 18 = .ok (.goto 4, 3) := by decide +kernel
theorem dX12_joined_21 : decode cX12_joined 21 = .ok (.iconst (-1), 1) := by decide +kernel
theorem dX12_joined_22 : decode cX12_joined 22 = .ok (.ireturn, 1) := by decide +kernel
theorem dX12_isLost_0 : decode cX12_isLost 0 = .ok (.iconst 0, 1) := by decide +kernel
theorem dX12_isLost_1 : decode cX12_isLost 1 = .ok (.istore_n 2, 1) := by decide +kernel
theorem dX12_isLost_2 : decode cX12_isLost 2 = .ok (.iload_n 2, 1) := by decide +kernel
theorem dX12_isLost_3 : decode cX12_isLost 3 = .ok (.aload_n 0, 1) := by decide +kernel
theorem dX12_isLost_4 : decode cX12_isLost 4 = .ok (.getfield 491, 3) := by decide +kernel
theorem dX12_isLost_7 : decode cX12_isLost 7 = .ok (.if_icmp .ge 20, 3) := by decide +kernel
theorem dX12_isLost_10 : decode cX12_isLost 10 = .ok (.aload_n 0, 1) := by decide +kernel
theorem dX12_isLost_11 : decode cX12_isLost 11 = .ok (.iload_n 1, 1) := by decide +kernel
theorem dX12_isLost_12 : decode cX12_isLost 12 = .ok (.iload_n 2, 1) := by decide +kernel
theorem dX12_isLost_13 : decode cX12_isLost 13 = .ok (.invokevirtual 503, 3) := by decide +kernel
theorem dX12_isLost_16 : decode cX12_isLost 16 = .ok (.ifCond .eq 5, 3) := by decide +kernel
theorem dX12_isLost_19 : decode cX12_isLost 19 = .ok (.iconst 0, 1) := by decide +kernel
theorem dX12_isLost_20 : decode cX12_isLost 20 = .ok (.ireturn, 1) := by decide +kernel
theorem dX12_isLost_21 : decode cX12_isLost 21 = .ok (.iinc 2 1, 3) := by decide +kernel
theorem dX12_isLost_24 : decode cX12_isLost 24 = .ok (.goto (-22), 3) := by decide +kernel
theorem dX12_isLost_27 : decode cX12_isLost 27 = .ok (.iconst 1, 1) := by decide +kernel
theorem dX12_isLost_28 : decode cX12_isLost 28 = .ok (.ireturn, 1) := by decide +kernel
theorem dX12_wouldHave_0 : decode cX12_wouldHave 0 = .ok (.iconst 0, 1) := by decide +kernel
theorem dX12_wouldHave_1 : decode cX12_wouldHave 1 = .ok (.istore_n 3, 1) := by decide +kernel
theorem dX12_wouldHave_2 : decode cX12_wouldHave 2 = .ok (.iload_n 3, 1) := by decide +kernel
theorem dX12_wouldHave_3 : decode cX12_wouldHave 3 = .ok (.aload_n 0, 1) := by decide +kernel
theorem dX12_wouldHave_4 : decode cX12_wouldHave 4 = .ok (.getfield 491, 3) := by decide +kernel
theorem dX12_wouldHave_7 : decode cX12_wouldHave 7 = .ok (.if_icmp .ge 30, 3) := by decide +kernel
theorem dX12_wouldHave_10 : decode cX12_wouldHave 10 = .ok (.aload_n 0, 1) := by decide +kernel
theorem dX12_wouldHave_11 : decode cX12_wouldHave 11 = .ok (.getfield 163, 3) := by decide +kernel
theorem dX12_wouldHave_14 : decode cX12_wouldHave 14 = .ok (.iload_n 3, 1) := by decide +kernel
theorem dX12_wouldHave_15 : decode cX12_wouldHave 15 = .ok (.iaload, 1) := by decide +kernel
theorem dX12_wouldHave_16 : decode cX12_wouldHave 16 = .ok (.iload_n 1, 1) := by decide +kernel
theorem dX12_wouldHave_17 : decode cX12_wouldHave 17 = .ok (.if_icmp .ne 14, 3) := by decide +kernel
theorem dX12_wouldHave_20 : decode cX12_wouldHave 20 = .ok (.aload_n 0, 1) := by decide +kernel
theorem dX12_wouldHave_21 : decode cX12_wouldHave 21 = .ok (.iload_n 2, 1) := by decide +kernel
theorem dX12_wouldHave_22 : decode cX12_wouldHave 22 = .ok (.iload_n 3, 1) := by decide +kernel
theorem dX12_wouldHave_23 : decode cX12_wouldHave 23 = .ok (.invokevirtual 500, 3) := by decide +kernel
theorem dX12_wouldHave_26 : decode cX12_wouldHave 26 = .ok (.ifCond .eq 5, 3) := by decide +kernel
theorem dX12_wouldHave_29 : decode cX12_wouldHave 29 = .ok (.iconst 1, 1) := by decide +kernel
theorem dX12_wouldHave_30 : decode cX12_wouldHave 30 = .ok (.ireturn, 1) := by decide +kernel
theorem dX12_wouldHave_31 : decode cX12_wouldHave 31 = .ok (.iinc 3 1, 3) := by decide +kernel
theorem dX12_wouldHave_34 : decode cX12_wouldHave 34 = .ok (.goto (-32), 3) := by decide +kernel
theorem dX12_wouldHave_37 : decode cX12_wouldHave 37 = .ok (.iconst 0, 1) := by decide +kernel
theorem dX12_wouldHave_38 : decode cX12_wouldHave 38 = .ok (.ireturn, 1) := by decide +kernel
theorem dX12_lost_0 : decode cX12_lost 0 = .ok (.iload_n 1, 1) := by decide +kernel
theorem dX12_lost_1 : decode cX12_lost 1 = .ok (.iconst 0, 1) := by decide +kernel
theorem dX12_lost_2 : decode cX12_lost 2 = .ok (.bipush 100, 2) := by decide +kernel
theorem dX12_lost_4 : decode cX12_lost 4 = .ok (.invokestatic 278, 3) := by decide +kernel
theorem dX12_lost_7 : decode cX12_lost 7 = .ok (.ifCond .eq 20, 3) := by decide +kernel
theorem dX12_lost_10 : decode cX12_lost 10 = .ok (.iload_n 2, 1) := by decide +kernel
theorem dX12_lost_11 : decode cX12_lost 11 = .ok (.iconst 0, 1) := by decide +kernel
theorem dX12_lost_12 : decode cX12_lost 12 = .ok (.iconst 1, 1) := by decide +kernel
theorem dX12_lost_13 : decode cX12_lost 13 = .ok (.invokestatic 278, 3) := by decide +kernel
theorem dX12_lost_16 : decode cX12_lost 16 = .ok (.ifCond .eq 11, 3) := by decide +kernel
theorem dX12_lost_19 : decode cX12_lost 19 = .ok (.iload_n 1, 1) := by decide +kernel
theorem dX12_lost_20 : decode cX12_lost 20 = .ok (.aload_n 0, 1) := by decide +kernel
theorem dX12_lost_21 : decode cX12_lost 21 = .ok (.getfield 341, 3) := by decide +kernel
theorem dX12_lost_24 : decode cX12_lost 24 = .ok (.if_icmp .le 5, 3) := by decide +kernel
theorem dX12_lost_27 : decode cX12_lost 27 = .ok (.iconst (-1), 1) := by decide +kernel
theorem dX12_lost_28 : decode cX12_lost 28 = .ok (.ireturn, 1) := by decide +kernel
theorem dX12_lost_29 : decode cX12_lost 29 = .ok (.aload_n 0, 1) := by decide +kernel
theorem dX12_lost_30 : decode cX12_lost 30 = .ok (.iconst 0, 1) := by decide +kernel
theorem dX12_lost_31 : decode cX12_lost 31 = .ok (.putfield 341, 3) := by decide +kernel
theorem dX12_lost_34 : decode cX12_lost 34 = .ok (.aload_n 0, 1) := by decide +kernel
theorem dX12_lost_35 : decode cX12_lost 35 = .ok (.iload_n 1, 1) := by decide +kernel
theorem dX12_lost_36 : decode cX12_lost 36 = .ok (.invokevirtual 506, 3) := by decide +kernel
theorem dX12_lost_39 : decode cX12_lost 39 = .ok (.ifCond .ne 6, 3) := by decide +kernel
theorem dX12_lost_42 : decode cX12_lost 42 = .ok (.bipush (-2), 2) := by decide +kernel
theorem dX12_lost_44 : decode cX12_lost 44 = .ok (.ireturn, 1) := by decide +kernel
theorem dX12_lost_45 : decode cX12_lost 45 = .ok (.iconst 0, 1) := by decide +kernel
theorem dX12_lost_46 : decode cX12_lost 46 = .ok (.istore_n 3, 1) := by decide +kernel
theorem dX12_lost_47 : decode cX12_lost 47 = .ok (.iconst 0, 1) := by decide +kernel
theorem dX12_lost_48 : decode cX12_lost 48 = .ok (.istore 4, 2) := by decide +kernel
theorem dX12_lost_50 : decode cX12_lost 50 = .ok (.iload 4, 2) := by decide +kernel
theorem dX12_lost_52 : decode cX12_lost 52 = .ok (.iload_n 1, 1) := by decide +kernel
theorem dX12_lost_53 : decode cX12_lost 53 = .ok (.if_icmp .ge 31, 3) := by decide +kernel
theorem dX12_lost_56 : decode cX12_lost 56 = .ok (.iload_n 3, 1) := by decide +kernel
theorem dX12_lost_57 : decode cX12_lost 57 = .ok (.aload_n 0, 1) := by decide +kernel
theorem dX12_lost_58 : decode cX12_lost 58 = .ok (.aload_n 0, 1) := by decide +kernel
theorem dX12_lost_59 : decode cX12_lost 59 = .ok (.getfield 172, 3) := by decide +kernel
theorem dX12_lost_62 : decode cX12_lost 62 = .ok (.iload 4, 2) := by decide +kernel
theorem dX12_lost_64 : decode cX12_lost 64 = .ok (.iaload, 1) := by decide +kernel
theorem dX12_lost_65 : decode cX12_lost 65 = .ok (.invokevirtual 515, 3) := by decide +kernel
theorem dX12_lost_68 : decode cX12_lost 68 = .ok (.ifCond .eq 7, 3) := by decide +kernel
theorem dX12_lost_71 : decode cX12_lost 71 = .ok (.iconst 1, 1) := by decide +kernel
theorem dX12_lost_72 : decode cX12_lost 72 = .ok (.goto 4, 3) := by decide +kernel
theorem dX12_lost_75 : decode cX12_lost 75 = .ok (.iconst 0, 1) := by decide +kernel
theorem dX12_lost_76 : decode cX12_lost 76 = .ok (.iadd, 1) := by decide +kernel
theorem dX12_lost_77 : decode cX12_lost 77 = .ok (.istore_n 3, 1) := by decide +kernel
theorem dX12_lost_78 : decode cX12_lost 78 = .ok (.iinc 4 1, 3) := by decide +kernel
theorem dX12_lost_81 : decode cX12_lost 81 = .ok (.goto (-31), 3) := by decide +kernel
theorem dX12_lost_84 : decode cX12_lost 84 = .ok (.iload_n 2, 1) := by decide +kernel
theorem dX12_lost_85 : decode cX12_lost 85 = .ok (.ifCond .ne 5, 3) := by decide +kernel
theorem dX12_lost_88 : decode cX12_lost 88 = .ok (.iload_n 3, 1) := by decide +kernel
theorem dX12_lost_89 : decode cX12_lost 89 = .ok (.ireturn, 1) := by decide +kernel
theorem dX12_lost_90 : decode cX12_lost 90 = .ok (.iconst (-1), 1) := by decide +kernel
theorem dX12_lost_91 : decode cX12_lost 91 = .ok (.istore 4, 2) := by decide +kernel
theorem dX12_lost_93 : decode cX12_lost 93 = .ok (.iconst 0, 1) := by decide +kernel
theorem dX12_lost_94 : decode cX12_lost 94 = .ok (.istore 5, 2) := by decide +kernel
theorem dX12_lost_96 : decode cX12_lost 96 = .ok (.iconst 0, 1) := by decide +kernel
theorem dX12_lost_97 : decode cX12_lost 97 = .ok (.istore 6, 2) := by decide +kernel
theorem dX12_lost_99 : decode cX12_lost 99 = .ok (.iload 6, 2) := by decide +kernel
theorem dX12_lost_101 : decode cX12_lost 101 = .ok (.bipush 10, 2) := by decide +kernel
theorem dX12_lost_103 : decode cX12_lost 103 = .ok (.if_icmp .ge 85, 3) := by decide +kernel
theorem dX12_lost_106 : decode cX12_lost 106 = .ok (.iconst 0, 1) := by decide +kernel
theorem dX12_lost_107 : decode cX12_lost 107 = .ok (.istore 7, 2) := by decide +kernel
theorem dX12_lost_109 : decode cX12_lost 109 = .ok (.iconst 0, 1) := by decide +kernel
theorem dX12_lost_110 : decode cX12_lost 110 = .ok (.istore 8, 2) := by decide +kernel
theorem dX12_lost_112 : decode cX12_lost 112 = .ok (.iload 8, 2) := by decide +kernel
theorem dX12_lost_114 : decode cX12_lost 114 = .ok (.iload_n 1, 1) := by decide +kernel
theorem dX12_lost_115 : decode cX12_lost 115 = .ok (.if_icmp .ge 49, 3) := by decide +kernel
theorem dX12_lost_118 : decode cX12_lost 118 = .ok (.iload 7, 2) := by decide +kernel
theorem dX12_lost_120 : decode cX12_lost 120 = .ok (.aload_n 0, 1) := by decide +kernel
theorem dX12_lost_121 : decode cX12_lost 121 = .ok (.aload_n 0, 1) := by decide +kernel
theorem dX12_lost_122 : decode cX12_lost 122 = .ok (.getfield 172, 3) := by decide +kernel
theorem dX12_lost_125 : decode cX12_lost 125 = .ok (.iload 8, 2) := by decide +kernel
theorem dX12_lost_127 : decode cX12_lost 127 = .ok (.iaload, 1) := by decide +kernel
theorem dX12_lost_128 : decode cX12_lost 128 = .ok (.invokevirtual 515, 3) := by decide +kernel
theorem dX12_lost_131 : decode cX12_lost 131 = .ok (.ifCond .eq 23, 3) := by decide +kernel
theorem dX12_lost_134 : decode cX12_lost 134 = .ok (.aload_n 0, 1) := by decide +kernel
theorem dX12_lost_135 : decode cX12_lost 135 = .ok (.iload 6, 2) := by decide +kernel
theorem dX12_lost_137 : decode cX12_lost 137 = .ok (.aload_n 0, 1) := by decide +kernel
theorem dX12_lost_138 : decode cX12_lost 138 = .ok (.getfield 172, 3) := by decide +kernel
theorem dX12_lost_141 : decode cX12_lost 141 = .ok (.iload 8, 2) := by decide +kernel
theorem dX12_lost_143 : decode cX12_lost 143 = .ok (.iaload, 1) := by decide +kernel
theorem dX12_lost_144 : decode cX12_lost 144 = .ok (.invokevirtual 518, 3) := by decide +kernel
theorem dX12_lost_147 : decode cX12_lost 147 = .ok (.ifCond .eq 7, 3) := by decide +kernel
theorem dX12_lost_150 : decode cX12_lost 150 = .ok (.iconst 1, 1) := by decide +kernel
theorem dX12_lost_151 : decode cX12_lost 151 = .ok (.goto 4, 3) := by decide +kernel
theorem dX12_lost_154 : decode cX12_lost 154 = .ok (.iconst 0, 1) := by decide +kernel
theorem dX12_lost_155 : decode cX12_lost 155 = .ok (.iadd, 1) := by decide +kernel
theorem dX12_lost_156 : decode cX12_lost 156 = .ok (.istore 7, 2) := by decide +kernel
theorem dX12_lost_158 : decode cX12_lost 158 = .ok (.iinc 8 1, 3) := by decide +kernel
theorem dX12_lost_161 : decode cX12_lost 161 = .ok (.goto (-49), 3) := by decide +kernel
theorem dX12_lost_164 : decode cX12_lost 164 = .ok (.iload 7, 2) := by decide +kernel
theorem dX12_lost_166 : decode cX12_lost 166 = .ok (.iload 5, 2) := by decide +kernel
theorem dX12_lost_168 : decode cX12_lost 168 = .ok (.if_icmp .gt 6, 3) := by decide +kernel
theorem dX12_lost_171 : decode cX12_lost 171 = .ok (.goto 11, 3) := by decide +kernel
theorem dX12_lost_174 : decode cX12_lost 174 = .ok (.iload 7, 2) := by decide +kernel
theorem dX12_lost_176 : decode cX12_lost 176 = .ok (.istore 5, 2) := by decide +kernel
theorem dX12_lost_178 : decode cX12_lost 178 = .ok (.iload 6, 2) := by decide +kernel
theorem dX12_lost_180 : decode cX12_lost 180 = .ok (.istore 4, 2) := by decide +kernel
theorem dX12_lost_182 : decode cX12_lost 182 = .ok (.iinc 6 1, 3) := by decide +kernel
theorem dX12_lost_185 : decode cX12_lost 185 = .ok (.goto (-86), 3) := by decide +kernel
theorem dX12_lost_188 : decode cX12_lost 188 = .ok (.iload 4, 2) := by decide +kernel
theorem dX12_lost_190 : decode cX12_lost 190 = .ok (.ireturn, 1) := by decide +kernel
theorem dX12_wall_0 : decode cX12_wall 0 = .ok (.aload_n 0, 1) := by decide +kernel
theorem dX12_wall_1 : decode cX12_wall 1 = .ok (.iload_n 1, 1) := by decide +kernel
theorem dX12_wall_2 : decode cX12_wall 2 = .ok (.invokevirtual 331, 3) := by decide +kernel
theorem dX12_wall_5 : decode cX12_wall 5 = .ok (.ifCond .eq 23, 3) := by decide +kernel
theorem dX12_wall_8 : decode cX12_wall 8 = .ok (.iload_n 2, 1) := by decide +kernel
theorem dX12_wall_9 : decode cX12_wall 9 = .ok (.iconst 0, 1) := by decide +kernel
theorem dX12_wall_10 : decode cX12_wall 10 = .ok (.sipush 10000, 3) := by decide +kernel
theorem dX12_wall_13 : decode cX12_wall 13 = .ok (.invokestatic 278, 3) := by decide +kernel
theorem dX12_wall_16 : decode cX12_wall 16 = .ok (.ifCond .eq 12, 3) := by decide +kernel
theorem dX12_wall_19 : decode cX12_wall 19 = .ok (.aload_n 0, 1) := by decide +kernel
theorem dX12_wall_20 : decode cX12_wall 20 = .ok (.getfield 521, 3) := by decide +kernel
theorem dX12_wall_23 : decode cX12_wall 23 = .ok (.bipush 30, 2) := by decide +kernel
theorem dX12_wall_25 : decode cX12_wall 25 = .ok (.if_icmp .ne 5, 3) := by decide +kernel
theorem dX12_wall_28 : decode cX12_wall 28 = .ok (.iconst (-1), 1) := by decide +kernel
theorem dX12_wall_29 : decode cX12_wall 29 = .ok (.ireturn, 1) := by decide +kernel
theorem dX12_wall_30 : decode cX12_wall 30 = .ok (.aload_n 0, 1) := by decide +kernel
theorem dX12_wall_31 : decode cX12_wall 31 = .ok (.getfield 190, 3) := by decide +kernel
theorem dX12_wall_34 : decode cX12_wall 34 = .ok (.aload_n 0, 1) := by decide +kernel
theorem dX12_wall_35 : decode cX12_wall 35 = .ok (.getfield 521, 3) := by decide +kernel
theorem dX12_wall_38 : decode cX12_wall 38 = .ok (.iload_n 1, 1) := by decide +kernel
theorem dX12_wall_39 : decode cX12_wall 39 = .ok (.iastore, 1) := by decide +kernel
theorem dX12_wall_40 : decode cX12_wall 40 = .ok (.aload_n 0, 1) := by decide +kernel
theorem dX12_wall_41 : decode cX12_wall 41 = .ok (.getfield 193, 3) := by decide +kernel
theorem dX12_wall_44 : decode cX12_wall 44 = .ok (.aload_n 0, 1) := by decide +kernel
theorem dX12_wall_45 : decode cX12_wall 45 = .ok (.getfield 521, 3) := by decide +kernel
theorem dX12_wall_48 : decode cX12_wall 48 = .ok (.iload_n 2, 1) := by decide +kernel
theorem dX12_wall_49 : decode cX12_wall 49 = .ok (.iastore, 1) := by decide +kernel
theorem dX12_wall_50 : decode cX12_wall 50 = .ok (.aload_n 0, 1) := by decide +kernel
theorem dX12_wall_51 : decode cX12_wall 51 = .ok (.aload_n 0, 1) := by decide +kernel
theorem dX12_wall_52 : decode cX12_wall 52 = .ok (.getfield 521, 3) := by decide +kernel
theorem dX12_wall_55 : decode cX12_wall 55 = .ok (.iconst 1, 1) := by decide +kernel
theorem dX12_wall_56 : decode cX12_wall 56 = .ok (.iadd, 1) := by decide +kernel
theorem dX12_wall_57 : decode cX12_wall 57 = .ok (.putfield 521, 3) := by decide +kernel
theorem dX12_wall_60 : decode cX12_wall 60 = .ok (.aload_n 0, 1) := by decide +kernel
theorem dX12_wall_61 : decode cX12_wall 61 = .ok (.getfield 521, 3) := by decide +kernel
theorem dX12_wall_64 : decode cX12_wall 64 = .ok (.iconst 1, 1) := by decide +kernel
theorem dX12_wall_65 : decode cX12_wall 65 = .ok (.isub, 1) := by decide +kernel
theorem dX12_wall_66 : decode cX12_wall 66 = .ok (.ireturn, 1) := by decide +kernel
theorem dX12_isWall_0 : decode cX12_isWall 0 = .ok (.iload_n 1, 1) := by decide +kernel
theorem dX12_isWall_1 : decode cX12_isWall 1 = .ok (.ifCond .lt 15, 3) := by decide +kernel
theorem dX12_isWall_4 : decode cX12_isWall 4 = .ok (.iload_n 1, 1) := by decide +kernel
theorem dX12_isWall_5 : decode cX12_isWall 5 = .ok (.aload_n 0, 1) := by decide +kernel
theorem dX12_isWall_6 : decode cX12_isWall 6 = .ok (.getfield 521, 3) := by decide +kernel
theorem dX12_isWall_9 : decode cX12_isWall 9 = .ok (.if_icmp .ge 7, 3) := by decide +kernel
theorem dX12_isWall_12 : decode cX12_isWall 12 = .ok (.iconst 1, 1) := by decide +kernel
theorem dX12_isWall_13 : decode cX12_isWall 13 = .ok (.goto 4, 3) := by decide +kernel
theorem dX12_isWall_16 : decode cX12_isWall 16 = .ok (.iconst 0, 1) := by decide +kernel
theorem dX12_isWall_17 : decode cX12_isWall 17 = .ok (.ireturn, 1) := by decide +kernel
theorem dX12_draws_0 : decode cX12_draws 0 = .ok (.aload_n 0, 1) := by decide +kernel
theorem dX12_draws_1 : decode cX12_draws 1 = .ok (.getfield 196, 3) := by decide +kernel
theorem dX12_draws_4 : decode cX12_draws 4 = .ok (.aload_n 0, 1) := by decide +kernel
theorem dX12_draws_5 : decode cX12_draws 5 = .ok (.getfield 524, 3) := by decide +kernel
theorem dX12_draws_8 : decode cX12_draws 8 = .ok (.iload_n 1, 1) := by decide +kernel
theorem dX12_draws_9 : decode cX12_draws 9 = .ok (.iastore, 1) := by decide +kernel
theorem dX12_draws_10 : decode cX12_draws 10 = .ok (.aload_n 0, 1) := by decide +kernel
theorem dX12_draws_11 : decode cX12_draws 11 = .ok (.getfield 199, 3) := by decide +kernel
theorem dX12_draws_14 : decode cX12_draws 14 = .ok (.aload_n 0, 1) := by decide +kernel
theorem dX12_draws_15 : decode cX12_draws 15 = .ok (.getfield 524, 3) := by decide +kernel
theorem dX12_draws_18 : decode cX12_draws 18 = .ok (.iload_n 2, 1) := by decide +kernel
theorem dX12_draws_19 : decode cX12_draws 19 = .ok (.iastore, 1) := by decide +kernel
theorem dX12_draws_20 : decode cX12_draws 20 = .ok (.aload_n 0, 1) := by decide +kernel
theorem dX12_draws_21 : decode cX12_draws 21 = .ok (.getfield 202, 3) := by decide +kernel
theorem dX12_draws_24 : decode cX12_draws 24 = .ok (.aload_n 0, 1) := by decide +kernel
theorem dX12_draws_25 : decode cX12_draws 25 = .ok (.getfield 524, 3) := by decide +kernel
theorem dX12_draws_28 : decode cX12_draws 28 = .ok (.iload_n 3, 1) := by decide +kernel
theorem dX12_draws_29 : decode cX12_draws 29 = .ok (.iastore, 1) := by decide +kernel
theorem dX12_draws_30 : decode cX12_draws 30 = .ok (.aload_n 0, 1) := by decide +kernel
theorem dX12_draws_31 : decode cX12_draws 31 = .ok (.getfield 205, 3) := by decide +kernel
theorem dX12_draws_34 : decode cX12_draws 34 = .ok (.aload_n 0, 1) := by decide +kernel
theorem dX12_draws_35 : decode cX12_draws 35 = .ok (.getfield 524, 3) := by decide +kernel
theorem dX12_draws_38 : decode cX12_draws 38 = .ok (.aload_n 0, 1) := by decide +kernel
theorem dX12_draws_39 : decode cX12_draws 39 = .ok (.getfield 291, 3) := by decide +kernel
theorem dX12_draws_42 : decode cX12_draws 42 = .ok (.iastore, 1) := by decide +kernel
theorem dX12_draws_43 : decode cX12_draws 43 = .ok (.aload_n 0, 1) := by decide +kernel
theorem dX12_draws_44 : decode cX12_draws 44 = .ok (.getfield 211, 3) := by decide +kernel
theorem dX12_draws_47 : decode cX12_draws 47 = .ok (.aload_n 0, 1) := by decide +kernel
theorem dX12_draws_48 : decode cX12_draws 48 = .ok (.getfield 524, 3) := by decide +kernel
theorem dX12_draws_51 : decode cX12_draws 51 = .ok (.iload 4, 2) := by decide +kernel
theorem dX12_draws_53 : decode cX12_draws 53 = .ok (.bastore, 1) := by decide +kernel
theorem dX12_draws_54 : decode cX12_draws 54 = .ok (.aload_n 0, 1) := by decide +kernel
theorem dX12_draws_55 : decode cX12_draws 55 = .ok (.aload_n 0, 1) := by decide +kernel
theorem dX12_draws_56 : decode cX12_draws 56 = .ok (.getfield 524, 3) := by decide +kernel
theorem dX12_draws_59 : decode cX12_draws 59 = .ok (.iconst 1, 1) := by decide +kernel
theorem dX12_draws_60 : decode cX12_draws 60 = .ok (.iadd, 1) := by decide +kernel
theorem dX12_draws_61 : decode cX12_draws 61 = .ok (.putfield 524, 3) := by decide +kernel
theorem dX12_draws_64 : decode cX12_draws 64 = .ok (.aload_n 0, 1) := by decide +kernel
theorem dX12_draws_65 : decode cX12_draws 65 = .ok (.getfield 524, 3) := by decide +kernel
theorem dX12_draws_68 : decode cX12_draws 68 = .ok (.iconst 1, 1) := by decide +kernel
theorem dX12_draws_69 : decode cX12_draws 69 = .ok (.isub, 1) := by decide +kernel
theorem dX12_draws_70 : decode cX12_draws 70 = .ok (.ireturn, 1) := by decide +kernel
theorem dX12_draw_0 : decode cX12_draw 0 = .ok (.aload_n 0, 1) := by decide +kernel
theorem dX12_draw_1 : decode cX12_draw 1 = .ok (.iload_n 1, 1) := by decide +kernel
theorem dX12_draw_2 : decode cX12_draw 2 = .ok (.invokevirtual 527, 3) := by decide +kernel
theorem dX12_draw_5 : decode cX12_draw 5 = .ok (.ifCond .eq 46, 3) := by decide +kernel
theorem dX12_draw_8 : decode cX12_draw 8 = .ok (.iload_n 2, 1) := by decide +kernel
theorem dX12_draw_9 : decode cX12_draw 9 = .ok (.iconst 0, 1) := by decide +kernel
theorem dX12_draw_10 : decode cX12_draw 10 = .ok (.aload_n 0, 1) := by decide +kernel
theorem dX12_draw_11 : decode cX12_draw 11 = .ok (.getfield 291, 3) := by decide +kernel
theorem dX12_draw_14 : decode cX12_draw 14 = .ok (.invokestatic 278, 3) := by decide +kernel
theorem dX12_draw_17 : decode cX12_draw 17 = .ok (.ifCond .eq 34, 3) := by decide +kernel
theorem dX12_draw_20 : decode cX12_draw 20 = .ok (.iload_n 3, 1) := by decide +kernel
theorem dX12_draw_21 : decode cX12_draw 21 = .ok (.iconst 0, 1) := by decide +kernel
theorem dX12_draw_22 : decode cX12_draw 22 = .ok (.sipush 255, 3) := by decide +kernel
theorem dX12_draw_25 : decode cX12_draw 25 = .ok (.invokestatic 278, 3) := by decide +kernel
theorem dX12_draw_28 : decode cX12_draw 28 = .ok (.ifCond .eq 23, 3) := by decide +kernel
theorem dX12_draw_31 : decode cX12_draw 31 = .ok (.aload_n 0, 1) := by decide +kernel
theorem dX12_draw_32 : decode cX12_draw 32 = .ok (.getfield 524, 3) := by decide +kernel
theorem dX12_draw_35 : decode cX12_draw 35 = .ok (.bipush 100, 2) := by decide +kernel
theorem dX12_draw_37 : decode cX12_draw 37 = .ok (.if_icmp .ge 14, 3) := by decide +kernel
theorem dX12_draw_40 : decode cX12_draw 40 = .ok (.aload_n 0, 1) := by decide +kernel
theorem dX12_draw_41 : decode cX12_draw 41 = .ok (.iload_n 1, 1) := by decide +kernel
theorem dX12_draw_42 : decode cX12_draw 42 = .ok (.iload_n 2, 1) := by decide +kernel
theorem dX12_draw_43 : decode cX12_draw 43 = .ok (.iload_n 3, 1) := by decide +kernel
theorem dX12_draw_44 : decode cX12_draw 44 = .ok (.iconst 0, 1) := by decide +kernel
theorem dX12_draw_45 : decode cX12_draw 45 = .ok (.invokevirtual 530, 3) := by decide +kernel
theorem dX12_draw_48 : decode cX12_draw 48 = .ok (.goto 4, 3) := by decide +kernel
theorem dX12_draw_51 : decode cX12_draw 51 = .ok (.iconst (-1), 1) := by decide +kernel
theorem dX12_draw_52 : decode cX12_draw 52 = .ok (.ireturn, 1) := by decide +kernel
theorem dX12_copy_0 : decode cX12_copy 0 = .ok (.iload_n 1, 1) := by decide +kernel
theorem dX12_copy_1 : decode cX12_copy 1 = .ok (.ifCond .lt 53, 3) := by decide +kernel
theorem dX12_copy_4 : decode cX12_copy 4 = .ok (.iload_n 1, 1) := by decide +kernel
theorem dX12_copy_5 : decode cX12_copy 5 = .ok (.aload_n 0, 1) := by decide +kernel
theorem dX12_copy_6 : decode cX12_copy 6 = .ok (.getfield 524, 3) := by decide +kernel
theorem dX12_copy_9 : decode cX12_copy 9 = .ok (.if_icmp .ge 45, 3) := by decide +kernel
theorem dX12_copy_12 : decode cX12_copy 12 = .ok (.iload_n 2, 1) := by decide +kernel
theorem dX12_copy_13 : decode cX12_copy 13 = .ok (.iconst 0, 1) := by decide +kernel
theorem dX12_copy_14 : decode cX12_copy 14 = .ok (.aload_n 0, 1) := by decide +kernel
theorem dX12_copy_15 : decode cX12_copy 15 = .ok (.getfield 291, 3) := by decide +kernel
theorem dX12_copy_18 : decode cX12_copy 18 = .ok (.invokestatic 278, 3) := by decide +kernel
theorem dX12_copy_21 : decode cX12_copy 21 = .ok (.ifCond .eq 33, 3) := by decide +kernel
theorem dX12_copy_24 : decode cX12_copy 24 = .ok (.aload_n 0, 1) := by decide +kernel
theorem dX12_copy_25 : decode cX12_copy 25 = .ok (.getfield 524, 3) := by decide +kernel
theorem dX12_copy_28 : decode cX12_copy 28 = .ok (.bipush 100, 2) := by decide +kernel
theorem dX12_copy_30 : decode cX12_copy 30 = .ok (.if_icmp .ge 24, 3) := by decide +kernel
theorem dX12_copy_33 : decode cX12_copy 33 = .ok (.aload_n 0, 1) := by decide +kernel
theorem dX12_copy_34 : decode cX12_copy 34 = .ok (.aload_n 0, 1) := by decide +kernel
theorem dX12_copy_35 : decode cX12_copy 35 = .ok (.getfield 196, 3) := by decide +kernel
theorem dX12_copy_38 : decode cX12_copy 38 = .ok (.iload_n 1, 1) := by decide +kernel
theorem dX12_copy_39 : decode cX12_copy 39 = .ok (.iaload, 1) := by decide +kernel
theorem dX12_copy_40 : decode cX12_copy 40 = .ok (.iload_n 2, 1) := by decide +kernel
theorem dX12_copy_41 : decode cX12_copy 41 = .ok (.aload_n 0, 1) := by decide +kernel
theorem dX12_copy_42 : decode cX12_copy 42 = .ok (.getfield 202, 3) := by decide +kernel
theorem dX12_copy_45 : decode cX12_copy 45 = .ok (.iload_n 1, 1) := by decide +kernel
theorem dX12_copy_46 : decode cX12_copy 46 = .ok (.iaload, 1) := by decide +kernel
theorem dX12_copy_47 : decode cX12_copy 47 = .ok (.iconst 1, 1) := by decide +kernel
theorem dX12_copy_48 : decode cX12_copy 48 = .ok (.invokevirtual 530, 3) := by decide +kernel
theorem dX12_copy_51 : decode cX12_copy 51 = .ok (.goto 4, 3) := by decide +kernel
theorem dX12_copy_54 : decode cX12_copy 54 = .ok (.iconst (-1), 1) := by decide +kernel
theorem dX12_copy_55 : decode cX12_copy 55 = .ok (.ireturn, 1) := by decide +kernel
theorem dX12_looksAt_0 : decode cX12_looksAt 0 = .ok (.iconst 0, 1) := by decide +kernel
theorem dX12_looksAt_1 : decode cX12_looksAt 1 = .ok (.istore_n 3, 1) := by decide +kernel
theorem dX12_looksAt_2 : decode cX12_looksAt 2 = .ok (.iconst 0, 1) := by decide +kernel
theorem dX12_looksAt_3 : decode cX12_looksAt 3 = .ok (.istore 4, 2) := by decide +kernel
theorem dX12_looksAt_5 : decode cX12_looksAt 5 = .ok (.iload 4, 2) := by decide +kernel
theorem dX12_looksAt_7 : decode cX12_looksAt 7 = .ok (.aload_n 0, 1) := by decide +kernel
theorem dX12_looksAt_8 : decode cX12_looksAt 8 = .ok (.getfield 524, 3) := by decide +kernel
theorem dX12_looksAt_11 : decode cX12_looksAt 11 = .ok (.if_icmp .ge 114, 3) := by decide +kernel
theorem dX12_looksAt_14 : decode cX12_looksAt 14 = .ok (.aload_n 0, 1) := by decide +kernel
theorem dX12_looksAt_15 : decode cX12_looksAt 15 = .ok (.getfield 196, 3) := by decide +kernel
theorem dX12_looksAt_18 : decode cX12_looksAt 18 = .ok (.iload 4, 2) := by decide +kernel
theorem dX12_looksAt_20 : decode cX12_looksAt 20 = .ok (.iaload, 1) := by decide +kernel
theorem dX12_looksAt_21 : decode cX12_looksAt 21 = .ok (.iload_n 1, 1) := by decide +kernel
theorem dX12_looksAt_22 : decode cX12_looksAt 22 = .ok (.if_icmp .ne 97, 3) := by decide +kernel
theorem dX12_looksAt_25 : decode cX12_looksAt 25 = .ok (.aload_n 0, 1) := by decide +kernel
theorem dX12_looksAt_26 : decode cX12_looksAt 26 = .ok (.getfield 211, 3) := by decide +kernel
theorem dX12_looksAt_29 : decode cX12_looksAt 29 = .ok (.iload 4, 2) := by decide +kernel
theorem dX12_looksAt_31 : decode cX12_looksAt 31 = .ok (.baload, 1) := by decide +kernel
theorem dX12_looksAt_32 : decode cX12_looksAt 32 = .ok (.ifCond .ne 87, 3) := by decide +kernel
theorem dX12_looksAt_35 : decode cX12_looksAt 35 = .ok (.aload_n 0, 1) := by decide +kernel
theorem dX12_looksAt_36 : decode cX12_looksAt 36 = .ok (.getfield 205, 3) := by decide +kernel
theorem dX12_looksAt_39 : decode cX12_looksAt 39 = .ok (.iload 4, 2) := by decide +kernel
theorem dX12_looksAt_41 : decode cX12_looksAt 41 = .ok (.iaload, 1) := by decide +kernel
theorem dX12_looksAt_42 : decode cX12_looksAt 42 = .ok (.iload_n 2, 1) := by decide +kernel
theorem dX12_looksAt_43 : decode cX12_looksAt 43 = .ok (.if_icmp .le 6, 3) := by decide +kernel
theorem dX12_looksAt_46 : decode cX12_looksAt 46 = .ok (.goto 73, 3) := by decide +kernel
theorem dX12_looksAt_49 : decode cX12_looksAt 49 = .ok (.iload_n 3, 1) := by decide +kernel
theorem dX12_looksAt_50 : decode cX12_looksAt 50 = .ok (.istore 5, 2) := by decide +kernel
theorem dX12_looksAt_52 : decode cX12_looksAt 52 = .ok (.iload 5, 2) := by decide +kernel
theorem dX12_looksAt_54 : decode cX12_looksAt 54 = .ok (.ifCond .le 52, 3) := by decide +kernel
theorem dX12_looksAt_57 : decode cX12_looksAt 57 = .ok (.aload_n 0, 1) := by decide +kernel
theorem dX12_looksAt_58 : decode cX12_looksAt 58 = .ok (.getfield 199, 3) := by decide +kernel
theorem dX12_looksAt_61 : decode cX12_looksAt 61 = .ok (.aload_n 0, 1) := by decide +kernel
theorem dX12_looksAt_62 : decode cX12_looksAt 62 = .ok (.getfield 208, 3) := by decide +kernel
theorem dX12_looksAt_65 : decode cX12_looksAt 65 = .ok (.iload 5, 2) := by decide +kernel
theorem dX12_looksAt_67 : decode cX12_looksAt 67 = .ok (.iconst 1, 1) := by decide +kernel
theorem dX12_looksAt_68 : decode cX12_looksAt 68 = .ok (.isub, 1) := by decide +kernel
theorem dX12_looksAt_69 : decode cX12_looksAt 69 = .ok (.iaload, 1) := by decide +kernel
theorem dX12_looksAt_70 : decode cX12_looksAt 70 = .ok (.iaload, 1) := by decide +kernel
theorem dX12_looksAt_71 : decode cX12_looksAt 71 = .ok (.aload_n 0, 1) := by decide +kernel
theorem dX12_looksAt_72 : decode cX12_looksAt 72 = .ok (.getfield 199, 3) := by decide +kernel
theorem dX12_looksAt_75 : decode cX12_looksAt 75 = .ok (.iload 4, 2) := by decide +kernel
theorem dX12_looksAt_77 : decode cX12_looksAt 77 = .ok (.iaload, 1) := by decide +kernel
theorem dX12_looksAt_78 : decode cX12_looksAt 78 = .ok (.if_icmp .le 28, 3) := by decide +kernel
theorem dX12_looksAt_81 : decode cX12_looksAt 81 = .ok (.aload_n 0, 1) := by decide +kernel
theorem dX12_looksAt_82 : decode cX12_looksAt 82 = .ok (.getfield 208, 3) := by decide +kernel
theorem dX12_looksAt_85 : decode cX12_looksAt 85 = .ok (.iload 5, 2) := by decide +kernel
theorem dX12_looksAt_87 : decode cX12_looksAt 87 = .ok (.aload_n 0, 1) := by decide +kernel
theorem dX12_looksAt_88 : decode cX12_looksAt 88 = .ok (.getfield 208, 3) := by decide +kernel
theorem dX12_looksAt_91 : decode cX12_looksAt 91 = .ok (.iload 5, 2) := by decide +kernel
theorem dX12_looksAt_93 : decode cX12_looksAt 93 = .ok (.iconst 1, 1) := by decide +kernel
theorem dX12_looksAt_94 : decode cX12_looksAt 94 = .ok (.isub, 1) := by decide +kernel
theorem dX12_looksAt_95 : decode cX12_looksAt 95 = .ok (.iaload, 1) := by decide +kernel
theorem dX12_looksAt_96 : decode cX12_looksAt 96 = .ok (.iastore, 1) := by decide +kernel
theorem dX12_looksAt_97 : decode cX12_looksAt 97 = .ok (.iload 5, 2) := by decide +kernel
theorem dX12_looksAt_99 : decode cX12_looksAt 99 = .ok (.iconst 1, 1) := by decide +kernel
theorem dX12_looksAt_100 : decode cX12_looksAt 100 = .ok (.isub, 1) := by decide +kernel
theorem dX12_looksAt_101 : decode cX12_looksAt 101 = .ok (.istore 5, 2) := by decide +kernel
theorem dX12_looksAt_103 : decode cX12_looksAt 103 = .ok (.goto (-51), 3) := by decide +kernel
theorem dX12_looksAt_106 : decode cX12_looksAt 106 = .ok (.aload_n 0, 1) := by decide +kernel
theorem dX12_looksAt_107 : decode cX12_looksAt 107 = .ok (.getfield 208, 3) := by decide +kernel
theorem dX12_looksAt_110 : decode cX12_looksAt 110 = .ok (.iload 5, 2) := by decide +kernel
theorem dX12_looksAt_112 : decode cX12_looksAt 112 = .ok (.iload 4, 2) := by decide +kernel
theorem dX12_looksAt_114 : decode cX12_looksAt 114 = .ok (.iastore, 1) := by decide +kernel
theorem dX12_looksAt_115 : decode cX12_looksAt 115 = .ok (.iload_n 3, 1) := by decide +kernel
theorem dX12_looksAt_116 : decode cX12_looksAt 116 = .ok (.iconst 1, 1) := by decide +kernel
theorem dX12_looksAt_117 : decode cX12_looksAt 117 = .ok (.iadd, 1) := by decide +kernel
theorem dX12_looksAt_118 : decode cX12_looksAt 118 = .ok (.istore_n 3, 1) := by decide +kernel
theorem dX12_looksAt_119 : decode cX12_looksAt 119 = .ok (.iinc 4 1, 3) := by decide +kernel
theorem dX12_looksAt_122 : decode cX12_looksAt 122 = .ok (.goto (-117), 3) := by decide +kernel
theorem dX12_looksAt_125 : decode cX12_looksAt 125 = .ok (.iload_n 3, 1) := by decide +kernel
theorem dX12_looksAt_126 : decode cX12_looksAt 126 = .ok (.ireturn, 1) := by decide +kernel
theorem dX12_shows_0 : decode cX12_shows 0 = .ok (.aload_n 0, 1) := by decide +kernel
theorem dX12_shows_1 : decode cX12_shows 1 = .ok (.getfield 202, 3) := by decide +kernel
theorem dX12_shows_4 : decode cX12_shows 4 = .ok (.aload_n 0, 1) := by decide +kernel
theorem dX12_shows_5 : decode cX12_shows 5 = .ok (.getfield 208, 3) := by decide +kernel
theorem dX12_shows_8 : decode cX12_shows 8 = .ok (.iload_n 1, 1) := by decide +kernel
theorem dX12_shows_9 : decode cX12_shows 9 = .ok (.iaload, 1) := by decide +kernel
theorem dX12_shows_10 : decode cX12_shows 10 = .ok (.iaload, 1) := by decide +kernel
theorem dX12_shows_11 : decode cX12_shows 11 = .ok (.iload_n 2, 1) := by decide +kernel
theorem dX12_shows_12 : decode cX12_shows 12 = .ok (.ishr, 1) := by decide +kernel
theorem dX12_shows_13 : decode cX12_shows 13 = .ok (.iconst 1, 1) := by decide +kernel
theorem dX12_shows_14 : decode cX12_shows 14 = .ok (.iand, 1) := by decide +kernel
theorem dX12_shows_15 : decode cX12_shows 15 = .ok (.iconst 1, 1) := by decide +kernel
theorem dX12_shows_16 : decode cX12_shows 16 = .ok (.if_icmp .ne 7, 3) := by decide +kernel
theorem dX12_shows_19 : decode cX12_shows 19 = .ok (.iconst 1, 1) := by decide +kernel
theorem dX12_shows_20 : decode cX12_shows 20 = .ok (.goto 4, 3) := by decide +kernel
theorem dX12_shows_23 : decode cX12_shows 23 = .ok (.iconst 0, 1) := by decide +kernel
theorem dX12_shows_24 : decode cX12_shows 24 = .ok (.ireturn, 1) := by decide +kernel
theorem dX12_stood_0 : decode cX12_stood 0 = .ok (.aload_n 0, 1) := by decide +kernel
theorem dX12_stood_1 : decode cX12_stood 1 = .ok (.iload_n 1, 1) := by decide +kernel
theorem dX12_stood_2 : decode cX12_stood 2 = .ok (.invokevirtual 527, 3) := by decide +kernel
theorem dX12_stood_5 : decode cX12_stood 5 = .ok (.ifCond .eq 30, 3) := by decide +kernel
theorem dX12_stood_8 : decode cX12_stood 8 = .ok (.iload_n 2, 1) := by decide +kernel
theorem dX12_stood_9 : decode cX12_stood 9 = .ok (.iconst 0, 1) := by decide +kernel
theorem dX12_stood_10 : decode cX12_stood 10 = .ok (.bipush 7, 2) := by decide +kernel
theorem dX12_stood_12 : decode cX12_stood 12 = .ok (.invokestatic 278, 3) := by decide +kernel
theorem dX12_stood_15 : decode cX12_stood 15 = .ok (.ifCond .eq 20, 3) := by decide +kernel
theorem dX12_stood_18 : decode cX12_stood 18 = .ok (.iload_n 3, 1) := by decide +kernel
theorem dX12_stood_19 : decode cX12_stood 19 = .ok (.invokestatic 320, 3) := by decide +kernel
theorem dX12_stood_22 : decode cX12_stood 22 = .ok (.ifCond .eq 13, 3) := by decide +kernel
theorem dX12_stood_25 : decode cX12_stood 25 = .ok (.iload 4, 2) := by decide +kernel
theorem dX12_stood_27 : decode cX12_stood 27 = .ok (.iconst 0, 1) := by decide +kernel
theorem dX12_stood_28 : decode cX12_stood 28 = .ok (.iconst 3, 1) := by decide +kernel
theorem dX12_stood_29 : decode cX12_stood 29 = .ok (.invokestatic 278, 3) := by decide +kernel
theorem dX12_stood_32 : decode cX12_stood 32 = .ok (.ifCond .ne 5, 3) := by decide +kernel
theorem dX12_stood_35 : decode cX12_stood 35 = .ok (.iconst (-1), 1) := by decide +kernel
theorem dX12_stood_36 : decode cX12_stood 36 = .ok (.ireturn, 1) := by decide +kernel
theorem dX12_stood_37 : decode cX12_stood 37 = .ok (.aload_n 0, 1) := by decide +kernel
theorem dX12_stood_38 : decode cX12_stood 38 = .ok (.iload_n 1, 1) := by decide +kernel
theorem dX12_stood_39 : decode cX12_stood 39 = .ok (.iload_n 3, 1) := by decide +kernel
theorem dX12_stood_40 : decode cX12_stood 40 = .ok (.invokevirtual 534, 3) := by decide +kernel
theorem dX12_stood_43 : decode cX12_stood 43 = .ok (.istore 5, 2) := by decide +kernel
theorem dX12_stood_45 : decode cX12_stood 45 = .ok (.iconst (-1), 1) := by decide +kernel
theorem dX12_stood_46 : decode cX12_stood 46 = .ok (.istore 6, 2) := by decide +kernel
theorem dX12_stood_48 : decode cX12_stood 48 = .ok (.iconst (-1), 1) := by decide +kernel
theorem dX12_stood_49 : decode cX12_stood 49 = .ok (.istore 7, 2) := by decide +kernel
theorem dX12_stood_51 : decode cX12_stood 51 = .ok (.iconst 0, 1) := by decide +kernel
theorem dX12_stood_52 : decode cX12_stood 52 = .ok (.istore 8, 2) := by decide +kernel
theorem dX12_stood_54 : decode cX12_stood 54 = .ok (.iload 8, 2) := by decide +kernel
theorem dX12_stood_56 : decode cX12_stood 56 = .ok (.iload 5, 2) := by decide +kernel
theorem dX12_stood_58 : decode cX12_stood 58 = .ok (.if_icmp .ge 41, 3) := by decide +kernel
theorem dX12_stood_61 : decode cX12_stood 61 = .ok (.aload_n 0, 1) := by decide +kernel
theorem dX12_stood_62 : decode cX12_stood 62 = .ok (.iload 8, 2) := by decide +kernel
theorem dX12_stood_64 : decode cX12_stood 64 = .ok (.iload_n 2, 1) := by decide +kernel
theorem dX12_stood_65 : decode cX12_stood 65 = .ok (.invokevirtual 537, 3) := by decide +kernel
theorem dX12_stood_68 : decode cX12_stood 68 = .ok (.ifCond .ne 6, 3) := by decide +kernel
theorem dX12_stood_71 : decode cX12_stood 71 = .ok (.goto 22, 3) := by decide +kernel
theorem dX12_stood_74 : decode cX12_stood 74 = .ok (.iload 8, 2) := by decide +kernel
theorem dX12_stood_76 : decode cX12_stood 76 = .ok (.istore 6, 2) := by decide +kernel
theorem dX12_stood_78 : decode cX12_stood 78 = .ok (.iload 7, 2) := by decide +kernel
theorem dX12_stood_80 : decode cX12_stood 80 = .ok (.iconst (-1), 1) := by decide +kernel
theorem dX12_stood_81 : decode cX12_stood 81 = .ok (.if_icmp .ne 8, 3) := by decide +kernel
theorem dX12_stood_84 : decode cX12_stood 84 = .ok (.iload 8, 2) := by decide +kernel
theorem dX12_stood_86 : decode cX12_stood 86 = .ok (.goto 5, 3) := by decide +kernel
theorem dX12_stood_89 : decode cX12_stood 89 = .ok (.iload 7, 2) := by decide +kernel
theorem dX12_stood_91 : decode cX12_stood 91 = .ok (.istore 7, 2) := by decide +kernel
theorem dX12_stood_93 : decode cX12_stood 93 = .ok (.iinc 8 1, 3) := by decide +kernel
theorem dX12_stood_96 : decode cX12_stood 96 = .ok (.goto (-42), 3) := by decide +kernel
theorem dX12_stood_99 : decode cX12_stood 99 = .ok (.iload 6, 2) := by decide +kernel
theorem dX12_stood_101 : decode cX12_stood 101 = .ok (.iconst (-1), 1) := by decide +kernel
theorem dX12_stood_102 : decode cX12_stood 102 = .ok (.if_icmp .ne 5, 3) := by decide +kernel
theorem dX12_stood_105 : decode cX12_stood 105 = .ok (.iconst (-1), 1) := by decide +kernel
theorem dX12_stood_106 : decode cX12_stood 106 = .ok (.ireturn, 1) := by decide +kernel
theorem dX12_stood_107 : decode cX12_stood 107 = .ok (.iload 4, 2) := by decide +kernel
theorem dX12_stood_109 : decode cX12_stood 109 = .ok (.ifCond .ne 16, 3) := by decide +kernel
theorem dX12_stood_112 : decode cX12_stood 112 = .ok (.aload_n 0, 1) := by decide +kernel
theorem dX12_stood_113 : decode cX12_stood 113 = .ok (.getfield 199, 3) := by decide +kernel
theorem dX12_stood_116 : decode cX12_stood 116 = .ok (.aload_n 0, 1) := by decide +kernel
theorem dX12_stood_117 : decode cX12_stood 117 = .ok (.getfield 208, 3) := by decide +kernel
theorem dX12_stood_120 : decode cX12_stood 120 = .ok (.iload 6, 2) := by decide +kernel
theorem dX12_stood_122 : decode cX12_stood 122 = .ok (.iaload, 1) := by decide +kernel
theorem dX12_stood_123 : decode cX12_stood 123 = .ok (.iaload, 1) := by decide +kernel
theorem dX12_stood_124 : decode cX12_stood 124 = .ok (.ireturn, 1) := by decide +kernel
theorem dX12_stood_125 : decode cX12_stood 125 = .ok (.iload 4, 2) := by decide +kernel
theorem dX12_stood_127 : decode cX12_stood 127 = .ok (.iconst 1, 1) := by decide +kernel
theorem dX12_stood_128 : decode cX12_stood 128 = .ok (.if_icmp .ne 31, 3) := by decide +kernel
theorem dX12_stood_131 : decode cX12_stood 131 = .ok (.iload 6, 2) := by decide +kernel
theorem dX12_stood_133 : decode cX12_stood 133 = .ok (.iconst 1, 1) := by decide +kernel
theorem dX12_stood_134 : decode cX12_stood 134 = .ok (.iadd, 1) := by decide +kernel
theorem dX12_stood_135 : decode cX12_stood 135 = .ok (.iload 5, 2) := by decide +kernel
theorem dX12_stood_137 : decode cX12_stood 137 = .ok (.if_icmp .ge 20, 3) := by decide +kernel
theorem dX12_stood_140 : decode cX12_stood 140 = .ok (.aload_n 0, 1) := by decide +kernel
theorem dX12_stood_141 : decode cX12_stood 141 = .ok (.getfield 199, 3) := by decide +kernel
theorem dX12_stood_144 : decode cX12_stood 144 = .ok (.aload_n 0, 1) := by decide +kernel
theorem dX12_stood_145 : decode cX12_stood 145 = .ok (.getfield 208, 3) := by decide +kernel
theorem dX12_stood_148 : decode cX12_stood 148 = .ok (.iload 6, 2) := by decide +kernel
theorem dX12_stood_150 : decode cX12_stood 150 = .ok (.iconst 1, 1) := by decide +kernel
theorem dX12_stood_151 : decode cX12_stood 151 = .ok (.iadd, 1) := by decide +kernel
theorem dX12_stood_152 : decode cX12_stood 152 = .ok (.iaload, 1) := by decide +kernel
theorem dX12_stood_153 : decode cX12_stood 153 = .ok (.iaload, 1) := by decide +kernel
theorem dX12_stood_154 : decode cX12_stood 154 = .ok (.goto 4, 3) := by decide +kernel
theorem dX12_stood_157 : decode cX12_stood 157 = .ok (.iconst (-1), 1) := by decide +kernel
theorem dX12_stood_158 : decode cX12_stood 158 = .ok (.ireturn, 1) := by decide +kernel
theorem dX12_stood_159 : decode cX12_stood 159 = .ok (.iload 7, 2) := by decide +kernel
theorem dX12_stood_161 : decode cX12_stood 161 = .ok (.istore 8, 2) := by decide +kernel
theorem dX12_stood_163 : decode cX12_stood 163 = .ok (.iload 8, 2) := by decide +kernel
theorem dX12_stood_165 : decode cX12_stood 165 = .ok (.iload 6, 2) := by decide +kernel
theorem dX12_stood_167 : decode cX12_stood 167 = .ok (.if_icmp .ge 22, 3) := by decide +kernel
theorem dX12_stood_170 : decode cX12_stood 170 = .ok (.aload_n 0, 1) := by decide +kernel
theorem dX12_stood_171 : decode cX12_stood 171 = .ok (.iload 8, 2) := by decide +kernel
theorem dX12_stood_173 : decode cX12_stood 173 = .ok (.iload_n 2, 1) := by decide +kernel
theorem dX12_stood_174 : decode cX12_stood 174 = .ok (.invokevirtual 537, 3) := by decide +kernel
theorem dX12_stood_177 : decode cX12_stood 177 = .ok (.ifCond .eq 12, 3) := by decide +kernel
theorem dX12_stood_180 : decode cX12_stood 180 = .ok (.iload 8, 2) := by decide +kernel
theorem dX12_stood_182 : decode cX12_stood 182 = .ok (.iconst 1, 1) := by decide +kernel
theorem dX12_stood_183 : decode cX12_stood 183 = .ok (.iadd, 1) := by decide +kernel
theorem dX12_stood_184 : decode cX12_stood 184 = .ok (.istore 8, 2) := by decide +kernel
theorem dX12_stood_186 : decode cX12_stood 186 = .ok (.goto (-23), 3) := by decide +kernel
theorem dX12_stood_189 : decode cX12_stood 189 = .ok (.iload 8, 2) := by decide +kernel
theorem dX12_stood_191 : decode cX12_stood 191 = .ok (.iload 6, 2) := by decide +kernel
theorem dX12_stood_193 : decode cX12_stood 193 = .ok (.if_icmp .ne 5, 3) := by decide +kernel
theorem dX12_stood_196 : decode cX12_stood 196 = .ok (.iconst (-1), 1) := by decide +kernel
theorem dX12_stood_197 : decode cX12_stood 197 = .ok (.ireturn, 1) := by decide +kernel
theorem dX12_stood_198 : decode cX12_stood 198 = .ok (.iload 8, 2) := by decide +kernel
theorem dX12_stood_200 : decode cX12_stood 200 = .ok (.istore 9, 2) := by decide +kernel
theorem dX12_stood_202 : decode cX12_stood 202 = .ok (.aload_n 0, 1) := by decide +kernel
theorem dX12_stood_203 : decode cX12_stood 203 = .ok (.iload 9, 2) := by decide +kernel
theorem dX12_stood_205 : decode cX12_stood 205 = .ok (.iload_n 2, 1) := by decide +kernel
theorem dX12_stood_206 : decode cX12_stood 206 = .ok (.invokevirtual 537, 3) := by decide +kernel
theorem dX12_stood_209 : decode cX12_stood 209 = .ok (.ifCond .ne 12, 3) := by decide +kernel
theorem dX12_stood_212 : decode cX12_stood 212 = .ok (.iload 9, 2) := by decide +kernel
theorem dX12_stood_214 : decode cX12_stood 214 = .ok (.iconst 1, 1) := by decide +kernel
theorem dX12_stood_215 : decode cX12_stood 215 = .ok (.iadd, 1) := by decide +kernel
theorem dX12_stood_216 : decode cX12_stood 216 = .ok (.istore 9, 2) := by decide +kernel
theorem dX12_stood_218 : decode cX12_stood 218 = .ok (.goto (-16), 3) := by decide +kernel
theorem dX12_stood_221 : decode cX12_stood 221 = .ok (.aload_n 0, 1) := by decide +kernel
theorem dX12_stood_222 : decode cX12_stood 222 = .ok (.getfield 208, 3) := by decide +kernel
theorem dX12_stood_225 : decode cX12_stood 225 = .ok (.iload 4, 2) := by decide +kernel
theorem dX12_stood_227 : decode cX12_stood 227 = .ok (.iconst 2, 1) := by decide +kernel
theorem dX12_stood_228 : decode cX12_stood 228 = .ok (.if_icmp .ne 8, 3) := by decide +kernel
theorem dX12_stood_231 : decode cX12_stood 231 = .ok (.iload 8, 2) := by decide +kernel
theorem dX12_stood_233 : decode cX12_stood 233 = .ok (.goto 5, 3) := by decide +kernel
theorem dX12_stood_236 : decode cX12_stood 236 = .ok (.iload 9, 2) := by decide +kernel
theorem dX12_stood_238 : decode cX12_stood 238 = .ok (.iaload, 1) := by decide +kernel
theorem dX12_stood_239 : decode cX12_stood 239 = .ok (.ireturn, 1) := by decide +kernel
theorem dX12_ash_0 : decode cX12_ash 0 = .ok (.iload_n 1, 1) := by decide +kernel
theorem dX12_ash_1 : decode cX12_ash 1 = .ok (.invokestatic 305, 3) := by decide +kernel
theorem dX12_ash_4 : decode cX12_ash 4 = .ok (.ifCond .eq 23, 3) := by decide +kernel
theorem dX12_ash_7 : decode cX12_ash 7 = .ok (.iload_n 2, 1) := by decide +kernel
theorem dX12_ash_8 : decode cX12_ash 8 = .ok (.iconst 0, 1) := by decide +kernel
theorem dX12_ash_9 : decode cX12_ash 9 = .ok (.bipush 99, 2) := by decide +kernel
theorem dX12_ash_11 : decode cX12_ash 11 = .ok (.invokestatic 278, 3) := by decide +kernel
theorem dX12_ash_14 : decode cX12_ash 14 = .ok (.ifCond .eq 13, 3) := by decide +kernel
theorem dX12_ash_17 : decode cX12_ash 17 = .ok (.iload_n 3, 1) := by decide +kernel
theorem dX12_ash_18 : decode cX12_ash 18 = .ok (.iload_n 2, 1) := by decide +kernel
theorem dX12_ash_19 : decode cX12_ash 19 = .ok (.bipush 99, 2) := by decide +kernel
theorem dX12_ash_21 : decode cX12_ash 21 = .ok (.invokestatic 278, 3) := by decide +kernel
theorem dX12_ash_24 : decode cX12_ash 24 = .ok (.ifCond .ne 5, 3) := by decide +kernel
theorem dX12_ash_27 : decode cX12_ash 27 = .ok (.iconst 0, 1) := by decide +kernel
theorem dX12_ash_28 : decode cX12_ash 28 = .ok (.ireturn, 1) := by decide +kernel
theorem dX12_ash_29 : decode cX12_ash 29 = .ok (.aload_n 0, 1) := by decide +kernel
theorem dX12_ash_30 : decode cX12_ash 30 = .ok (.getfield 214, 3) := by decide +kernel
theorem dX12_ash_33 : decode cX12_ash 33 = .ok (.iload_n 1, 1) := by decide +kernel
theorem dX12_ash_34 : decode cX12_ash 34 = .ok (.iload_n 2, 1) := by decide +kernel
theorem dX12_ash_35 : decode cX12_ash 35 = .ok (.iastore, 1) := by decide +kernel
theorem dX12_ash_36 : decode cX12_ash 36 = .ok (.aload_n 0, 1) := by decide +kernel
theorem dX12_ash_37 : decode cX12_ash 37 = .ok (.getfield 217, 3) := by decide +kernel
theorem dX12_ash_40 : decode cX12_ash 40 = .ok (.iload_n 1, 1) := by decide +kernel
theorem dX12_ash_41 : decode cX12_ash 41 = .ok (.iload_n 3, 1) := by decide +kernel
theorem dX12_ash_42 : decode cX12_ash 42 = .ok (.iastore, 1) := by decide +kernel
theorem dX12_ash_43 : decode cX12_ash 43 = .ok (.iconst 1, 1) := by decide +kernel
theorem dX12_ash_44 : decode cX12_ash 44 = .ok (.ireturn, 1) := by decide +kernel
theorem dX12_above_0 : decode cX12_above 0 = .ok (.iload_n 1, 1) := by decide +kernel
theorem dX12_above_1 : decode cX12_above 1 = .ok (.invokestatic 305, 3) := by decide +kernel
theorem dX12_above_4 : decode cX12_above 4 = .ok (.ifCond .eq 24, 3) := by decide +kernel
theorem dX12_above_7 : decode cX12_above 7 = .ok (.iload_n 2, 1) := by decide +kernel
theorem dX12_above_8 : decode cX12_above 8 = .ok (.invokestatic 305, 3) := by decide +kernel
theorem dX12_above_11 : decode cX12_above 11 = .ok (.ifCond .eq 17, 3) := by decide +kernel
theorem dX12_above_14 : decode cX12_above 14 = .ok (.iload_n 1, 1) := by decide +kernel
theorem dX12_above_15 : decode cX12_above 15 = .ok (.iload_n 2, 1) := by decide +kernel
theorem dX12_above_16 : decode cX12_above 16 = .ok (.if_icmp .eq 12, 3) := by decide +kernel
theorem dX12_above_19 : decode cX12_above 19 = .ok (.aload_n 0, 1) := by decide +kernel
theorem dX12_above_20 : decode cX12_above 20 = .ok (.getfield 540, 3) := by decide +kernel
theorem dX12_above_23 : decode cX12_above 23 = .ok (.bipush 40, 2) := by decide +kernel
theorem dX12_above_25 : decode cX12_above 25 = .ok (.if_icmp .ne 5, 3) := by decide +kernel
theorem dX12_above_28 : decode cX12_above 28 = .ok (.iconst 0, 1) := by decide +kernel
theorem dX12_above_29 : decode cX12_above 29 = .ok (.ireturn, 1) := by decide +kernel
theorem dX12_above_30 : decode cX12_above 30 = .ok (.aload_n 0, 1) := by decide +kernel
theorem dX12_above_31 : decode cX12_above 31 = .ok (.getfield 220, 3) := by decide +kernel
theorem dX12_above_34 : decode cX12_above 34 = .ok (.aload_n 0, 1) := by decide +kernel
theorem dX12_above_35 : decode cX12_above 35 = .ok (.getfield 540, 3) := by decide +kernel
theorem dX12_above_38 : decode cX12_above 38 = .ok (.iload_n 1, 1) := by decide +kernel
theorem dX12_above_39 : decode cX12_above 39 = .ok (.iastore, 1) := by decide +kernel
theorem dX12_above_40 : decode cX12_above 40 = .ok (.aload_n 0, 1) := by decide +kernel
theorem dX12_above_41 : decode cX12_above 41 = .ok (.getfield 223, 3) := by decide +kernel
theorem dX12_above_44 : decode cX12_above 44 = .ok (.aload_n 0, 1) := by decide +kernel
theorem dX12_above_45 : decode cX12_above 45 = .ok (.getfield 540, 3) := by decide +kernel
theorem dX12_above_48 : decode cX12_above 48 = .ok (.iload_n 2, 1) := by decide +kernel
theorem dX12_above_49 : decode cX12_above 49 = .ok (.iastore, 1) := by decide +kernel
theorem dX12_above_50 : decode cX12_above 50 = .ok (.aload_n 0, 1) := by decide +kernel
theorem dX12_above_51 : decode cX12_above 51 = .ok (.aload_n 0, 1) := by decide +kernel
theorem dX12_above_52 : decode cX12_above 52 = .ok (.getfield 540, 3) := by decide +kernel
theorem dX12_above_55 : decode cX12_above 55 = .ok (.iconst 1, 1) := by decide +kernel
theorem dX12_above_56 : decode cX12_above 56 = .ok (.iadd, 1) := by decide +kernel
theorem dX12_above_57 : decode cX12_above 57 = .ok (.putfield 540, 3) := by decide +kernel
theorem dX12_above_60 : decode cX12_above 60 = .ok (.iconst 1, 1) := by decide +kernel
theorem dX12_above_61 : decode cX12_above 61 = .ok (.ireturn, 1) := by decide +kernel
theorem dX12_hours_0 : decode cX12_hours 0 = .ok (.iconst 0, 1) := by decide +kernel
theorem dX12_hours_1 : decode cX12_hours 1 = .ok (.istore_n 1, 1) := by decide +kernel
theorem dX12_hours_2 : decode cX12_hours 2 = .ok (.iload_n 1, 1) := by decide +kernel
theorem dX12_hours_3 : decode cX12_hours 3 = .ok (.bipush 8, 2) := by decide +kernel
theorem dX12_hours_5 : decode cX12_hours 5 = .ok (.if_icmp .ge 33, 3) := by decide +kernel
theorem dX12_hours_8 : decode cX12_hours 8 = .ok (.aload_n 0, 1) := by decide +kernel
theorem dX12_hours_9 : decode cX12_hours 9 = .ok (.getfield 226, 3) := by decide +kernel
theorem dX12_hours_12 : decode cX12_hours 12 = .ok (.iload_n 1, 1) := by decide +kernel
theorem dX12_hours_13 : decode cX12_hours 13 = .ok (.aload_n 0, 1) := by decide +kernel
theorem dX12_hours_14 : decode cX12_hours 14 = .ok (.getfield 214, 3) := by decide +kernel
theorem dX12_hours_17 : decode cX12_hours 17 = .ok (.iload_n 1, 1) := by decide +kernel
theorem dX12_hours_18 : decode cX12_hours 18 = .ok (.iaload, 1) := by decide +kernel
theorem dX12_hours_19 : decode cX12_hours 19 = .ok (.iastore, 1) := by decide +kernel
theorem dX12_hours_20 : decode cX12_hours 20 = .ok (.aload_n 0, 1) := by decide +kernel
theorem dX12_hours_21 : decode cX12_hours 21 = .ok (.getfield 229, 3) := by decide +kernel
theorem dX12_hours_24 : decode cX12_hours 24 = .ok (.iload_n 1, 1) := by decide +kernel
theorem dX12_hours_25 : decode cX12_hours 25 = .ok (.aload_n 0, 1) := by decide +kernel
theorem dX12_hours_26 : decode cX12_hours 26 = .ok (.getfield 217, 3) := by decide +kernel
theorem dX12_hours_29 : decode cX12_hours 29 = .ok (.iload_n 1, 1) := by decide +kernel
theorem dX12_hours_30 : decode cX12_hours 30 = .ok (.iaload, 1) := by decide +kernel
theorem dX12_hours_31 : decode cX12_hours 31 = .ok (.iastore, 1) := by decide +kernel
theorem dX12_hours_32 : decode cX12_hours 32 = .ok (.iinc 1 1, 3) := by decide +kernel
theorem dX12_hours_35 : decode cX12_hours 35 = .ok (.goto (-33), 3) := by decide +kernel
theorem dX12_hours_38 : decode cX12_hours 38 = .ok (.iconst 1, 1) := by decide +kernel
theorem dX12_hours_39 : decode cX12_hours 39 = .ok (.istore_n 1, 1) := by decide +kernel
theorem dX12_hours_40 : decode cX12_hours 40 = .ok (.iload_n 1, 1) := by decide +kernel
theorem dX12_hours_41 : decode cX12_hours 41 = .ok (.ifCond .eq 143, 3) := by decide +kernel
theorem dX12_hours_44 : decode cX12_hours 44 = .ok (.iconst 0, 1) := by decide +kernel
theorem dX12_hours_45 : decode cX12_hours 45 = .ok (.istore_n 1, 1) := by decide +kernel
theorem dX12_hours_46 : decode cX12_hours 46 = .ok (.iconst 0, 1) := by decide +kernel
theorem dX12_hours_47 : decode cX12_hours 47 = .ok (.istore_n 2, 1) := by decide +kernel
theorem dX12_hours_48 : decode cX12_hours 48 = .ok (.iload_n 2, 1) := by decide +kernel
theorem dX12_hours_49 : decode cX12_hours 49 = .ok (.aload_n 0, 1) := by decide +kernel
theorem dX12_hours_50 : decode cX12_hours 50 = .ok (.getfield 540, 3) := by decide +kernel
theorem dX12_hours_53 : decode cX12_hours 53 = .ok (.if_icmp .ge 128, 3) := by decide +kernel
theorem dX12_hours_56 : decode cX12_hours 56 = .ok (.aload_n 0, 1) := by decide +kernel
theorem dX12_hours_57 : decode cX12_hours 57 = .ok (.getfield 220, 3) := by decide +kernel
theorem dX12_hours_60 : decode cX12_hours 60 = .ok (.iload_n 2, 1) := by decide +kernel
theorem dX12_hours_61 : decode cX12_hours 61 = .ok (.iaload, 1) := by decide +kernel
theorem dX12_hours_62 : decode cX12_hours 62 = .ok (.istore_n 3, 1) := by decide +kernel
theorem dX12_hours_63 : decode cX12_hours 63 = .ok (.aload_n 0, 1) := by decide +kernel
theorem dX12_hours_64 : decode cX12_hours 64 = .ok (.getfield 223, 3) := by decide +kernel
theorem dX12_hours_67 : decode cX12_hours 67 = .ok (.iload_n 2, 1) := by decide +kernel
theorem dX12_hours_68 : decode cX12_hours 68 = .ok (.iaload, 1) := by decide +kernel
theorem dX12_hours_69 : decode cX12_hours 69 = .ok (.istore 4, 2) := by decide +kernel
theorem dX12_hours_71 : decode cX12_hours 71 = .ok (.aload_n 0, 1) := by decide +kernel
theorem dX12_hours_72 : decode cX12_hours 72 = .ok (.getfield 226, 3) := by decide +kernel
theorem dX12_hours_75 : decode cX12_hours 75 = .ok (.iload_n 3, 1) := by decide +kernel
theorem dX12_hours_76 : decode cX12_hours 76 = .ok (.iaload, 1) := by decide +kernel
theorem dX12_hours_77 : decode cX12_hours 77 = .ok (.aload_n 0, 1) := by decide +kernel
theorem dX12_hours_78 : decode cX12_hours 78 = .ok (.getfield 226, 3) := by decide +kernel
theorem dX12_hours_81 : decode cX12_hours 81 = .ok (.iload 4, 2) := by decide +kernel
theorem dX12_hours_83 : decode cX12_hours 83 = .ok (.iaload, 1) := by decide +kernel
theorem dX12_hours_84 : decode cX12_hours 84 = .ok (.iconst 1, 1) := by decide +kernel
theorem dX12_hours_85 : decode cX12_hours 85 = .ok (.iadd, 1) := by decide +kernel
theorem dX12_hours_86 : decode cX12_hours 86 = .ok (.if_icmp .ge 20, 3) := by decide +kernel
theorem dX12_hours_89 : decode cX12_hours 89 = .ok (.aload_n 0, 1) := by decide +kernel
theorem dX12_hours_90 : decode cX12_hours 90 = .ok (.getfield 226, 3) := by decide +kernel
theorem dX12_hours_93 : decode cX12_hours 93 = .ok (.iload_n 3, 1) := by decide +kernel
theorem dX12_hours_94 : decode cX12_hours 94 = .ok (.aload_n 0, 1) := by decide +kernel
theorem dX12_hours_95 : decode cX12_hours 95 = .ok (.getfield 226, 3) := by decide +kernel
theorem dX12_hours_98 : decode cX12_hours 98 = .ok (.iload 4, 2) := by decide +kernel
theorem dX12_hours_100 : decode cX12_hours 100 = .ok (.iaload, 1) := by decide +kernel
theorem dX12_hours_101 : decode cX12_hours 101 = .ok (.iconst 1, 1) := by decide +kernel
theorem dX12_hours_102 : decode cX12_hours 102 = .ok (.iadd, 1) := by decide +kernel
theorem dX12_hours_103 : decode cX12_hours 103 = .ok (.iastore, 1) := by decide +kernel
theorem dX12_hours_104 : decode cX12_hours 104 = .ok (.iconst 1, 1) := by decide +kernel
theorem dX12_hours_105 : decode cX12_hours 105 = .ok (.istore_n 1, 1) := by decide +kernel
theorem dX12_hours_106 : decode cX12_hours 106 = .ok (.aload_n 0, 1) := by decide +kernel
theorem dX12_hours_107 : decode cX12_hours 107 = .ok (.getfield 229, 3) := by decide +kernel
theorem dX12_hours_110 : decode cX12_hours 110 = .ok (.iload 4, 2) := by decide +kernel
theorem dX12_hours_112 : decode cX12_hours 112 = .ok (.iaload, 1) := by decide +kernel
theorem dX12_hours_113 : decode cX12_hours 113 = .ok (.aload_n 0, 1) := by decide +kernel
theorem dX12_hours_114 : decode cX12_hours 114 = .ok (.getfield 229, 3) := by decide +kernel
theorem dX12_hours_117 : decode cX12_hours 117 = .ok (.iload_n 3, 1) := by decide +kernel
theorem dX12_hours_118 : decode cX12_hours 118 = .ok (.iaload, 1) := by decide +kernel
theorem dX12_hours_119 : decode cX12_hours 119 = .ok (.iconst 1, 1) := by decide +kernel
theorem dX12_hours_120 : decode cX12_hours 120 = .ok (.isub, 1) := by decide +kernel
theorem dX12_hours_121 : decode cX12_hours 121 = .ok (.if_icmp .le 20, 3) := by decide +kernel
theorem dX12_hours_124 : decode cX12_hours 124 = .ok (.aload_n 0, 1) := by decide +kernel
theorem dX12_hours_125 : decode cX12_hours 125 = .ok (.getfield 229, 3) := by decide +kernel
