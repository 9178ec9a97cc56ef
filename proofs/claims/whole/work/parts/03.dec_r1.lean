theorem dX12_branch_10 : decode cX12_branch 10 = .ok (.istore_n 2, 1) := by decide +kernel
theorem dX12_branch_11 : decode cX12_branch 11 = .ok (.aload_n 0, 1) := by decide +kernel
theorem dX12_branch_12 : decode cX12_branch 12 = .ok (.invokevirtual 271, 3) := by decide +kernel
theorem dX12_branch_15 : decode cX12_branch 15 = .ok (.aload_n 0, 1) := by decide +kernel
theorem dX12_branch_16 : decode cX12_branch 16 = .ok (.iload_n 2, 1) := by decide +kernel
theorem dX12_branch_17 : decode cX12_branch 17 = .ok (.invokevirtual 293, 3) := by decide +kernel
theorem dX12_branch_20 : decode cX12_branch 20 = .ok (.aload_n 0, 1) := by decide +kernel
theorem dX12_branch_21 : decode cX12_branch 21 = .ok (.iload_n 1, 1) := by decide +kernel
theorem dX12_branch_22 : decode cX12_branch 22 = .ok (.ifCond .eq 8, 3) := by decide +kernel
theorem dX12_branch_25 : decode cX12_branch 25 = .ok (.bipush 23, 2) := by decide +kernel
theorem dX12_branch_27 : decode cX12_branch 27 = .ok (.goto 5, 3) := by decide +kernel
theorem dX12_branch_30 : decode cX12_branch 30 = .ok (.bipush 22, 2) := by decide +kernel
theorem dX12_branch_32 : decode cX12_branch 32 = .ok (.invokevirtual 330, 3) := by decide +kernel
theorem dX12_branch_35 : decode cX12_branch 35 = .ok (.istore_n 3, 1) := by decide +kernel
theorem dX12_branch_36 : decode cX12_branch 36 = .ok (.aload_n 0, 1) := by decide +kernel
theorem dX12_branch_37 : decode cX12_branch 37 = .ok (.invokevirtual 250, 3) := by decide +kernel
theorem dX12_branch_40 : decode cX12_branch 40 = .ok (.aload_n 0, 1) := by decide +kernel
theorem dX12_branch_41 : decode cX12_branch 41 = .ok (.bipush 40, 2) := by decide +kernel
theorem dX12_branch_43 : decode cX12_branch 43 = .ok (.invokevirtual 300, 3) := by decide +kernel
theorem dX12_branch_46 : decode cX12_branch 46 = .ok (.aload_n 0, 1) := by decide +kernel
theorem dX12_branch_47 : decode cX12_branch 47 = .ok (.getfield 56, 3) := by decide +kernel
theorem dX12_branch_50 : decode cX12_branch 50 = .ok (.iload_n 3, 1) := by decide +kernel
theorem dX12_branch_51 : decode cX12_branch 51 = .ok (.aload_n 0, 1) := by decide +kernel
theorem dX12_branch_52 : decode cX12_branch 52 = .ok (.bipush 41, 2) := by decide +kernel
theorem dX12_branch_54 : decode cX12_branch 54 = .ok (.invokevirtual 357, 3) := by decide +kernel
theorem dX12_branch_57 : decode cX12_branch 57 = .ok (.iastore, 1) := by decide +kernel
theorem dX12_branch_58 : decode cX12_branch 58 = .ok (.aload_n 0, 1) := by decide +kernel
theorem dX12_branch_59 : decode cX12_branch 59 = .ok (.bipush 41, 2) := by decide +kernel
theorem dX12_branch_61 : decode cX12_branch 61 = .ok (.invokevirtual 307, 3) := by decide +kernel
theorem dX12_branch_64 : decode cX12_branch 64 = .ok (.aload_n 0, 1) := by decide +kernel
theorem dX12_branch_65 : decode cX12_branch 65 = .ok (.invokevirtual 243, 3) := by decide +kernel
theorem dX12_branch_68 : decode cX12_branch 68 = .ok (.ifCond .eq 17, 3) := by decide +kernel
theorem dX12_branch_71 : decode cX12_branch 71 = .ok (.aload_n 0, 1) := by decide +kernel
theorem dX12_branch_72 : decode cX12_branch 72 = .ok (.iload_n 1, 1) := by decide +kernel
theorem dX12_branch_73 : decode cX12_branch 73 = .ok (.ifCond .eq 7, 3) := by decide +kernel
theorem dX12_branch_76 : decode cX12_branch 76 = .ok (.iconst 3, 1) := by decide +kernel
theorem dX12_branch_77 : decode cX12_branch 77 = .ok (.goto 4, 3) := by decide +kernel
theorem dX12_branch_80 : decode cX12_branch 80 = .ok (.iconst 1, 1) := by decide +kernel
theorem dX12_branch_81 : decode cX12_branch 81 = .ok (.iload_n 3, 1) := by decide +kernel
theorem dX12_branch_82 : decode cX12_branch 82 = .ok (.invokevirtual 336, 3) := by decide +kernel
theorem dX12_branch_85 : decode cX12_branch 85 = .ok (.iconst (-1), 1) := by decide +kernel
theorem dX12_branch_86 : decode cX12_branch 86 = .ok (.ireturn, 1) := by decide +kernel
theorem dX12_assignment_0 : decode cX12_assignment 0 = .ok (.aload_n 0, 1) := by decide +kernel
theorem dX12_assignment_1 : decode cX12_assignment 1 = .ok (.getfield 199, 3) := by decide +kernel
theorem dX12_assignment_4 : decode cX12_assignment 4 = .ok (.istore_n 1, 1) := by decide +kernel
theorem dX12_assignment_5 : decode cX12_assignment 5 = .ok (.aload_n 0, 1) := by decide +kernel
theorem dX12_assignment_6 : decode cX12_assignment 6 = .ok (.getfield 202, 3) := by decide +kernel
theorem dX12_assignment_9 : decode cX12_assignment 9 = .ok (.lstore_n 2, 1) := by decide +kernel
theorem dX12_assignment_10 : decode cX12_assignment 10 = .ok (.aload_n 0, 1) := by decide +kernel
theorem dX12_assignment_11 : decode cX12_assignment 11 = .ok (.lload_n 2, 1) := by decide +kernel
theorem dX12_assignment_12 : decode cX12_assignment 12 = .ok (.invokevirtual 324, 3) := by decide +kernel
theorem dX12_assignment_15 : decode cX12_assignment 15 = .ok (.istore 4, 2) := by decide +kernel
theorem dX12_assignment_17 : decode cX12_assignment 17 = .ok (.aload_n 0, 1) := by decide +kernel
theorem dX12_assignment_18 : decode cX12_assignment 18 = .ok (.lload_n 2, 1) := by decide +kernel
theorem dX12_assignment_19 : decode cX12_assignment 19 = .ok (.invokevirtual 286, 3) := by decide +kernel
theorem dX12_assignment_22 : decode cX12_assignment 22 = .ok (.istore 5, 2) := by decide +kernel
theorem dX12_assignment_24 : decode cX12_assignment 24 = .ok (.iload 4, 2) := by decide +kernel
theorem dX12_assignment_26 : decode cX12_assignment 26 = .ok (.ifCond .ge 16, 3) := by decide +kernel
theorem dX12_assignment_29 : decode cX12_assignment 29 = .ok (.iload 5, 2) := by decide +kernel
theorem dX12_assignment_31 : decode cX12_assignment 31 = .ok (.ifCond .ge 11, 3) := by decide +kernel
theorem dX12_assignment_34 : decode cX12_assignment 34 = .ok (.aload_n 0, 1) := by decide +kernel
theorem dX12_assignment_35 : decode cX12_assignment 35 = .ok (.iconst 3, 1) := by decide +kernel
theorem dX12_assignment_36 : decode cX12_assignment 36 = .ok (.iload_n 1, 1) := by decide +kernel
theorem dX12_assignment_37 : decode cX12_assignment 37 = .ok (.invokevirtual 239, 3) := by decide +kernel
theorem dX12_assignment_40 : decode cX12_assignment 40 = .ok (.iconst (-1), 1) := by decide +kernel
theorem dX12_assignment_41 : decode cX12_assignment 41 = .ok (.ireturn, 1) := by decide +kernel
theorem dX12_assignment_42 : decode cX12_assignment 42 = .ok (.aload_n 0, 1) := by decide +kernel
theorem dX12_assignment_43 : decode cX12_assignment 43 = .ok (.iload_n 1, 1) := by decide +kernel
theorem dX12_assignment_44 : decode cX12_assignment 44 = .ok (.invokevirtual 293, 3) := by decide +kernel
theorem dX12_assignment_47 : decode cX12_assignment 47 = .ok (.aload_n 0, 1) := by decide +kernel
theorem dX12_assignment_48 : decode cX12_assignment 48 = .ok (.invokevirtual 250, 3) := by decide +kernel
theorem dX12_assignment_51 : decode cX12_assignment 51 = .ok (.iload 4, 2) := by decide +kernel
theorem dX12_assignment_53 : decode cX12_assignment 53 = .ok (.ifCond .lt 7, 3) := by decide +kernel
theorem dX12_assignment_56 : decode cX12_assignment 56 = .ok (.iconst 0, 1) := by decide +kernel
theorem dX12_assignment_57 : decode cX12_assignment 57 = .ok (.goto 10, 3) := by decide +kernel
theorem dX12_assignment_60 : decode cX12_assignment 60 = .ok (.aload_n 0, 1) := by decide +kernel
theorem dX12_assignment_61 : decode cX12_assignment 61 = .ok (.getfield 32, 3) := by decide +kernel
theorem dX12_assignment_64 : decode cX12_assignment 64 = .ok (.iload 5, 2) := by decide +kernel
theorem dX12_assignment_66 : decode cX12_assignment 66 = .ok (.iaload, 1) := by decide +kernel
theorem dX12_assignment_67 : decode cX12_assignment 67 = .ok (.istore 6, 2) := by decide +kernel
theorem dX12_assignment_69 : decode cX12_assignment 69 = .ok (.aload_n 0, 1) := by decide +kernel
theorem dX12_assignment_70 : decode cX12_assignment 70 = .ok (.bipush 30, 2) := by decide +kernel
theorem dX12_assignment_72 : decode cX12_assignment 72 = .ok (.invokevirtual 330, 3) := by decide +kernel
theorem dX12_assignment_75 : decode cX12_assignment 75 = .ok (.istore 7, 2) := by decide +kernel
theorem dX12_assignment_77 : decode cX12_assignment 77 = .ok (.aload_n 0, 1) := by decide +kernel
theorem dX12_assignment_78 : decode cX12_assignment 78 = .ok (.bipush 61, 2) := by decide +kernel
theorem dX12_assignment_80 : decode cX12_assignment 80 = .ok (.invokevirtual 247, 3) := by decide +kernel
theorem dX12_assignment_83 : decode cX12_assignment 83 = .ok (.ifCond .eq 91, 3) := by decide +kernel
theorem dX12_assignment_86 : decode cX12_assignment 86 = .ok (.iload 6, 2) := by decide +kernel
theorem dX12_assignment_88 : decode cX12_assignment 88 = .ok (.ifCond .eq 12, 3) := by decide +kernel
theorem dX12_assignment_91 : decode cX12_assignment 91 = .ok (.aload_n 0, 1) := by decide +kernel
theorem dX12_assignment_92 : decode cX12_assignment 92 = .ok (.iconst 5, 1) := by decide +kernel
theorem dX12_assignment_93 : decode cX12_assignment 93 = .ok (.iload_n 1, 1) := by decide +kernel
theorem dX12_assignment_94 : decode cX12_assignment 94 = .ok (.invokevirtual 239, 3) := by decide +kernel
theorem dX12_assignment_97 : decode cX12_assignment 97 = .ok (.iload 7, 2) := by decide +kernel
theorem dX12_assignment_99 : decode cX12_assignment 99 = .ok (.ireturn, 1) := by decide +kernel
theorem dX12_assignment_100 : decode cX12_assignment 100 = .ok (.aload_n 0, 1) := by decide +kernel
theorem dX12_assignment_101 : decode cX12_assignment 101 = .ok (.getfield 53, 3) := by decide +kernel
theorem dX12_assignment_104 : decode cX12_assignment 104 = .ok (.iload 7, 2) := by decide +kernel
theorem dX12_assignment_106 : decode cX12_assignment 106 = .ok (.iload 4, 2) := by decide +kernel
theorem dX12_assignment_108 : decode cX12_assignment 108 = .ok (.ifCond .lt 8, 3) := by decide +kernel
theorem dX12_assignment_111 : decode cX12_assignment 111 = .ok (.bipush 27, 2) := by decide +kernel
theorem dX12_assignment_113 : decode cX12_assignment 113 = .ok (.goto 5, 3) := by decide +kernel
theorem dX12_assignment_116 : decode cX12_assignment 116 = .ok (.bipush 26, 2) := by decide +kernel
theorem dX12_assignment_118 : decode cX12_assignment 118 = .ok (.iastore, 1) := by decide +kernel
theorem dX12_assignment_119 : decode cX12_assignment 119 = .ok (.aload_n 0, 1) := by decide +kernel
theorem dX12_assignment_120 : decode cX12_assignment 120 = .ok (.getfield 65, 3) := by decide +kernel
theorem dX12_assignment_123 : decode cX12_assignment 123 = .ok (.iload 7, 2) := by decide +kernel
theorem dX12_assignment_125 : decode cX12_assignment 125 = .ok (.iload 4, 2) := by decide +kernel
theorem dX12_assignment_127 : decode cX12_assignment 127 = .ok (.ifCond .lt 13, 3) := by decide +kernel
theorem dX12_assignment_130 : decode cX12_assignment 130 = .ok (.aload_n 0, 1) := by decide +kernel
theorem dX12_assignment_131 : decode cX12_assignment 131 = .ok (.getfield 50, 3) := by decide +kernel
theorem dX12_assignment_134 : decode cX12_assignment 134 = .ok (.iload 4, 2) := by decide +kernel
theorem dX12_assignment_136 : decode cX12_assignment 136 = .ok (.iaload, 1) := by decide +kernel
theorem dX12_assignment_137 : decode cX12_assignment 137 = .ok (.goto 10, 3) := by decide +kernel
theorem dX12_assignment_140 : decode cX12_assignment 140 = .ok (.aload_n 0, 1) := by decide +kernel
theorem dX12_assignment_141 : decode cX12_assignment 141 = .ok (.getfield 35, 3) := by decide +kernel
theorem dX12_assignment_144 : decode cX12_assignment 144 = .ok (.iload 5, 2) := by decide +kernel
theorem dX12_assignment_146 : decode cX12_assignment 146 = .ok (.iaload, 1) := by decide +kernel
theorem dX12_assignment_147 : decode cX12_assignment 147 = .ok (.iastore, 1) := by decide +kernel
theorem dX12_assignment_148 : decode cX12_assignment 148 = .ok (.aload_n 0, 1) := by decide +kernel
theorem dX12_assignment_149 : decode cX12_assignment 149 = .ok (.invokevirtual 250, 3) := by decide +kernel
theorem dX12_assignment_152 : decode cX12_assignment 152 = .ok (.aload_n 0, 1) := by decide +kernel
theorem dX12_assignment_153 : decode cX12_assignment 153 = .ok (.getfield 56, 3) := by decide +kernel
theorem dX12_assignment_156 : decode cX12_assignment 156 = .ok (.iload 7, 2) := by decide +kernel
theorem dX12_assignment_158 : decode cX12_assignment 158 = .ok (.aload_n 0, 1) := by decide +kernel
theorem dX12_assignment_159 : decode cX12_assignment 159 = .ok (.bipush 59, 2) := by decide +kernel
theorem dX12_assignment_161 : decode cX12_assignment 161 = .ok (.invokevirtual 357, 3) := by decide +kernel
theorem dX12_assignment_164 : decode cX12_assignment 164 = .ok (.iastore, 1) := by decide +kernel
theorem dX12_assignment_165 : decode cX12_assignment 165 = .ok (.aload_n 0, 1) := by decide +kernel
theorem dX12_assignment_166 : decode cX12_assignment 166 = .ok (.bipush 59, 2) := by decide +kernel
theorem dX12_assignment_168 : decode cX12_assignment 168 = .ok (.invokevirtual 274, 3) := by decide +kernel
theorem dX12_assignment_171 : decode cX12_assignment 171 = .ok (.goto 177, 3) := by decide +kernel
theorem dX12_assignment_174 : decode cX12_assignment 174 = .ok (.aload_n 0, 1) := by decide +kernel
theorem dX12_assignment_175 : decode cX12_assignment 175 = .ok (.bipush 91, 2) := by decide +kernel
theorem dX12_assignment_177 : decode cX12_assignment 177 = .ok (.invokevirtual 247, 3) := by decide +kernel
theorem dX12_assignment_180 : decode cX12_assignment 180 = .ok (.ifCond .eq 108, 3) := by decide +kernel
theorem dX12_assignment_183 : decode cX12_assignment 183 = .ok (.iload 6, 2) := by decide +kernel
theorem dX12_assignment_185 : decode cX12_assignment 185 = .ok (.iconst 1, 1) := by decide +kernel
theorem dX12_assignment_186 : decode cX12_assignment 186 = .ok (.if_icmp .eq 12, 3) := by decide +kernel
theorem dX12_assignment_189 : decode cX12_assignment 189 = .ok (.aload_n 0, 1) := by decide +kernel
theorem dX12_assignment_190 : decode cX12_assignment 190 = .ok (.iconst 5, 1) := by decide +kernel
theorem dX12_assignment_191 : decode cX12_assignment 191 = .ok (.iload_n 1, 1) := by decide +kernel
theorem dX12_assignment_192 : decode cX12_assignment 192 = .ok (.invokevirtual 239, 3) := by decide +kernel
theorem dX12_assignment_195 : decode cX12_assignment 195 = .ok (.iload 7, 2) := by decide +kernel
theorem dX12_assignment_197 : decode cX12_assignment 197 = .ok (.ireturn, 1) := by decide +kernel
theorem dX12_assignment_198 : decode cX12_assignment 198 = .ok (.aload_n 0, 1) := by decide +kernel
theorem dX12_assignment_199 : decode cX12_assignment 199 = .ok (.getfield 53, 3) := by decide +kernel
theorem dX12_assignment_202 : decode cX12_assignment 202 = .ok (.iload 7, 2) := by decide +kernel
theorem dX12_assignment_204 : decode cX12_assignment 204 = .ok (.bipush 28, 2) := by decide +kernel
theorem dX12_assignment_206 : decode cX12_assignment 206 = .ok (.iastore, 1) := by decide +kernel
theorem dX12_assignment_207 : decode cX12_assignment 207 = .ok (.aload_n 0, 1) := by decide +kernel
theorem dX12_assignment_208 : decode cX12_assignment 208 = .ok (.getfield 65, 3) := by decide +kernel
theorem dX12_assignment_211 : decode cX12_assignment 211 = .ok (.iload 7, 2) := by decide +kernel
theorem dX12_assignment_213 : decode cX12_assignment 213 = .ok (.aload_n 0, 1) := by decide +kernel
theorem dX12_assignment_214 : decode cX12_assignment 214 = .ok (.getfield 35, 3) := by decide +kernel
theorem dX12_assignment_217 : decode cX12_assignment 217 = .ok (.iload 5, 2) := by decide +kernel
theorem dX12_assignment_219 : decode cX12_assignment 219 = .ok (.iaload, 1) := by decide +kernel
theorem dX12_assignment_220 : decode cX12_assignment 220 = .ok (.iastore, 1) := by decide +kernel
theorem dX12_assignment_221 : decode cX12_assignment 221 = .ok (.aload_n 0, 1) := by decide +kernel
theorem dX12_assignment_222 : decode cX12_assignment 222 = .ok (.getfield 68, 3) := by decide +kernel
theorem dX12_assignment_225 : decode cX12_assignment 225 = .ok (.iload 7, 2) := by decide +kernel
theorem dX12_assignment_227 : decode cX12_assignment 227 = .ok (.aload_n 0, 1) := by decide +kernel
theorem dX12_assignment_228 : decode cX12_assignment 228 = .ok (.getfield 38, 3) := by decide +kernel
theorem dX12_assignment_231 : decode cX12_assignment 231 = .ok (.iload 5, 2) := by decide +kernel
theorem dX12_assignment_233 : decode cX12_assignment 233 = .ok (.iaload, 1) := by decide +kernel
theorem dX12_assignment_234 : decode cX12_assignment 234 = .ok (.iastore, 1) := by decide +kernel
theorem dX12_assignment_235 : decode cX12_assignment 235 = .ok (.aload_n 0, 1) := by decide +kernel
theorem dX12_assignment_236 : decode cX12_assignment 236 = .ok (.bipush 91, 2) := by decide +kernel
theorem dX12_assignment_238 : decode cX12_assignment 238 = .ok (.invokevirtual 300, 3) := by decide +kernel
theorem dX12_assignment_241 : decode cX12_assignment 241 = .ok (.aload_n 0, 1) := by decide +kernel
theorem dX12_assignment_242 : decode cX12_assignment 242 = .ok (.getfield 56, 3) := by decide +kernel
theorem dX12_assignment_245 : decode cX12_assignment 245 = .ok (.iload 7, 2) := by decide +kernel
theorem dX12_assignment_247 : decode cX12_assignment 247 = .ok (.aload_n 0, 1) := by decide +kernel
theorem dX12_assignment_248 : decode cX12_assignment 248 = .ok (.bipush 93, 2) := by decide +kernel
theorem dX12_assignment_250 : decode cX12_assignment 250 = .ok (.invokevirtual 357, 3) := by decide +kernel
theorem dX12_assignment_253 : decode cX12_assignment 253 = .ok (.iastore, 1) := by decide +kernel
theorem dX12_assignment_254 : decode cX12_assignment 254 = .ok (.aload_n 0, 1) := by decide +kernel
theorem dX12_assignment_255 : decode cX12_assignment 255 = .ok (.bipush 93, 2) := by decide +kernel
theorem dX12_assignment_257 : decode cX12_assignment 257 = .ok (.invokevirtual 307, 3) := by decide +kernel
theorem dX12_assignment_260 : decode cX12_assignment 260 = .ok (.aload_n 0, 1) := by decide +kernel
theorem dX12_assignment_261 : decode cX12_assignment 261 = .ok (.bipush 61, 2) := by decide +kernel
theorem dX12_assignment_263 : decode cX12_assignment 263 = .ok (.invokevirtual 274, 3) := by decide +kernel
theorem dX12_assignment_266 : decode cX12_assignment 266 = .ok (.aload_n 0, 1) := by decide +kernel
theorem dX12_assignment_267 : decode cX12_assignment 267 = .ok (.getfield 59, 3) := by decide +kernel
theorem dX12_assignment_270 : decode cX12_assignment 270 = .ok (.iload 7, 2) := by decide +kernel
theorem dX12_assignment_272 : decode cX12_assignment 272 = .ok (.aload_n 0, 1) := by decide +kernel
theorem dX12_assignment_273 : decode cX12_assignment 273 = .ok (.bipush 59, 2) := by decide +kernel
theorem dX12_assignment_275 : decode cX12_assignment 275 = .ok (.invokevirtual 357, 3) := by decide +kernel
theorem dX12_assignment_278 : decode cX12_assignment 278 = .ok (.iastore, 1) := by decide +kernel
theorem dX12_assignment_279 : decode cX12_assignment 279 = .ok (.aload_n 0, 1) := by decide +kernel
theorem dX12_assignment_280 : decode cX12_assignment 280 = .ok (.bipush 59, 2) := by decide +kernel
theorem dX12_assignment_282 : decode cX12_assignment 282 = .ok (.invokevirtual 274, 3) := by decide +kernel
theorem dX12_assignment_285 : decode cX12_assignment 285 = .ok (.goto 63, 3) := by decide +kernel
theorem dX12_assignment_288 : decode cX12_assignment 288 = .ok (.aload_n 0, 1) := by decide +kernel
theorem dX12_assignment_289 : decode cX12_assignment 289 = .ok (.bipush 40, 2) := by decide +kernel
theorem dX12_assignment_291 : decode cX12_assignment 291 = .ok (.invokevirtual 247, 3) := by decide +kernel
theorem dX12_assignment_294 : decode cX12_assignment 294 = .ok (.ifCond .eq 50, 3) := by decide +kernel
theorem dX12_assignment_297 : decode cX12_assignment 297 = .ok (.iload 6, 2) := by decide +kernel
theorem dX12_assignment_299 : decode cX12_assignment 299 = .ok (.iconst 2, 1) := by decide +kernel
theorem dX12_assignment_300 : decode cX12_assignment 300 = .ok (.if_icmp .eq 12, 3) := by decide +kernel
theorem dX12_assignment_303 : decode cX12_assignment 303 = .ok (.aload_n 0, 1) := by decide +kernel
theorem dX12_assignment_304 : decode cX12_assignment 304 = .ok (.iconst 5, 1) := by decide +kernel
theorem dX12_assignment_305 : decode cX12_assignment 305 = .ok (.iload_n 1, 1) := by decide +kernel
theorem dX12_assignment_306 : decode cX12_assignment 306 = .ok (.invokevirtual 239, 3) := by decide +kernel
theorem dX12_assignment_309 : decode cX12_assignment 309 = .ok (.iload 7, 2) := by decide +kernel
theorem dX12_assignment_311 : decode cX12_assignment 311 = .ok (.ireturn, 1) := by decide +kernel
theorem dX12_assignment_312 : decode cX12_assignment 312 = .ok (.aload_n 0, 1) := by decide +kernel
theorem dX12_assignment_313 : decode cX12_assignment 313 = .ok (.getfield 53, 3) := by decide +kernel
theorem dX12_assignment_316 : decode cX12_assignment 316 = .ok (.iload 7, 2) := by decide +kernel
theorem dX12_assignment_318 : decode cX12_assignment 318 = .ok (.bipush 29, 2) := by decide +kernel
theorem dX12_assignment_320 : decode cX12_assignment 320 = .ok (.iastore, 1) := by decide +kernel
theorem dX12_assignment_321 : decode cX12_assignment 321 = .ok (.aload_n 0, 1) := by decide +kernel
theorem dX12_assignment_322 : decode cX12_assignment 322 = .ok (.getfield 56, 3) := by decide +kernel
theorem dX12_assignment_325 : decode cX12_assignment 325 = .ok (.iload 7, 2) := by decide +kernel
theorem dX12_assignment_327 : decode cX12_assignment 327 = .ok (.aload_n 0, 1) := by decide +kernel
theorem dX12_assignment_328 : decode cX12_assignment 328 = .ok (.iload_n 1, 1) := by decide +kernel
theorem dX12_assignment_329 : decode cX12_assignment 329 = .ok (.iload 5, 2) := by decide +kernel
theorem dX12_assignment_331 : decode cX12_assignment 331 = .ok (.invokevirtual 366, 3) := by decide +kernel
theorem dX12_assignment_334 : decode cX12_assignment 334 = .ok (.iastore, 1) := by decide +kernel
theorem dX12_assignment_335 : decode cX12_assignment 335 = .ok (.aload_n 0, 1) := by decide +kernel
theorem dX12_assignment_336 : decode cX12_assignment 336 = .ok (.bipush 59, 2) := by decide +kernel
theorem dX12_assignment_338 : decode cX12_assignment 338 = .ok (.invokevirtual 274, 3) := by decide +kernel
theorem dX12_assignment_341 : decode cX12_assignment 341 = .ok (.goto 7, 3) := by decide +kernel
theorem dX12_assignment_344 : decode cX12_assignment 344 = .ok (.aload_n 0, 1) := by decide +kernel
theorem dX12_assignment_345 : decode cX12_assignment 345 = .ok (.invokevirtual 253, 3) := by decide +kernel
theorem dX12_assignment_348 : decode cX12_assignment 348 = .ok (.iload 7, 2) := by decide +kernel
theorem dX12_assignment_350 : decode cX12_assignment 350 = .ok (.ireturn, 1) := by decide +kernel
theorem dX12_level_0 : decode cX12_level 0 = .ok (.lload_n 0, 1) := by decide +kernel
theorem dX12_level_1 : decode cX12_level 1 = .ok (.l2i, 1) := by decide +kernel
theorem dX12_level_2 : decode cX12_level 2 = .ok (.lookupswitch 178 #[(37, 175), (38, 162), (42, 175), (43, 172), (45, 172), (47, 175), (60, 166), (62, 166), (94, 160), (124, 158), (8509, 164), (9766, 156), (15420, 169), (15421, 166), (15677, 164), (15933, 166), (15934, 169), (31868, 154)], 154) := by decide +kernel
theorem dX12_level_156 : decode cX12_level 156 = .ok (.iconst 0, 1) := by decide +kernel
theorem dX12_level_157 : decode cX12_level 157 = .ok (.ireturn, 1) := by decide +kernel
theorem dX12_level_158 : decode cX12_level 158 = .ok (.iconst 1, 1) := by decide +kernel
theorem dX12_level_159 : decode cX12_level 159 = .ok (.ireturn, 1) := by decide +kernel
theorem dX12_level_160 : decode cX12_level 160 = .ok (.iconst 2, 1) := by decide +kernel
theorem dX12_level_161 : decode cX12_level 161 = .ok (.ireturn, 1) := by decide +kernel
theorem dX12_level_162 : decode cX12_level 162 = .ok (.iconst 3, 1) := by decide +kernel
theorem dX12_level_163 : decode cX12_level 163 = .ok (.ireturn, 1) := by decide +kernel
theorem dX12_level_164 : decode cX12_level 164 = .ok (.iconst 4, 1) := by decide +kernel
theorem dX12_level_165 : decode cX12_level 165 = .ok (.ireturn, 1) := by decide +kernel
theorem dX12_level_166 : decode cX12_level 166 = .ok (.iconst 5, 1) := by decide +kernel
theorem dX12_level_167 : decode cX12_level 167 = .ok (.ireturn, 1) := by decide +kernel
theorem dX12_level_168 : decode cX12_level 168 = .ok (.bipush 6, 2) := by decide +kernel
theorem dX12_level_170 : decode cX12_level 170 = .ok (.ireturn, 1) := by decide +kernel
theorem dX12_level_171 : decode cX12_level 171 = .ok (.bipush 7, 2) := by decide +kernel
theorem dX12_level_173 : decode cX12_level 173 = .ok (.ireturn, 1) := by decide +kernel
theorem dX12_level_174 : decode cX12_level 174 = .ok (.bipush 8, 2) := by decide +kernel
theorem dX12_level_176 : decode cX12_level 176 = .ok (.ireturn, 1) := by decide +kernel
theorem dX12_level_177 : decode cX12_level 177 = .ok (.bipush 9, 2) := by decide +kernel
theorem dX12_level_179 : decode cX12_level 179 = .ok (.ireturn, 1) := by decide +kernel
theorem dX12_level_180 : decode cX12_level 180 = .ok (.iconst (-1), 1) := by decide +kernel
theorem dX12_level_181 : decode cX12_level 181 = .ok (.ireturn, 1) := by decide +kernel
theorem dX12_opOf_0 : decode cX12_opOf 0 = .ok (.lload_n 0, 1) := by decide +kernel
theorem dX12_opOf_1 : decode cX12_opOf 1 = .ok (.l2i, 1) := by decide +kernel
theorem dX12_opOf_2 : decode cX12_opOf 2 = .ok (.lookupswitch 175 #[(38, 136), (42, 169), (43, 163), (45, 166), (47, 172), (60, 145), (62, 151), (94, 133), (124, 130), (8509, 142), (15420, 157), (15421, 148), (15677, 139), (15933, 154), (15934, 160)], 130) := by decide +kernel
theorem dX12_opOf_132 : decode cX12_opOf 132 = .ok (.bipush 10, 2) := by decide +kernel
theorem dX12_opOf_134 : decode cX12_opOf 134 = .ok (.ireturn, 1) := by decide +kernel
theorem dX12_opOf_135 : decode cX12_opOf 135 = .ok (.bipush 11, 2) := by decide +kernel
theorem dX12_opOf_137 : decode cX12_opOf 137 = .ok (.ireturn, 1) := by decide +kernel
theorem dX12_opOf_138 : decode cX12_opOf 138 = .ok (.bipush 12, 2) := by decide +kernel
theorem dX12_opOf_140 : decode cX12_opOf 140 = .ok (.ireturn, 1) := by decide +kernel
theorem dX12_opOf_141 : decode cX12_opOf 141 = .ok (.bipush 13, 2) := by decide +kernel
theorem dX12_opOf_143 : decode cX12_opOf 143 = .ok (.ireturn, 1) := by decide +kernel
theorem dX12_opOf_144 : decode cX12_opOf 144 = .ok (.bipush 14, 2) := by decide +kernel
theorem dX12_opOf_146 : decode cX12_opOf 146 = .ok (.ireturn, 1) := by decide +kernel
theorem dX12_opOf_147 : decode cX12_opOf 147 = .ok (.bipush 15, 2) := by decide +kernel
theorem dX12_opOf_149 : decode cX12_opOf 149 = .ok (.ireturn, 1) := by decide +kernel
theorem dX12_opOf_150 : decode cX12_opOf 150 = .ok (.bipush 16, 2) := by decide +kernel
theorem dX12_opOf_152 : decode cX12_opOf 152 = .ok (.ireturn, 1) := by decide +kernel
theorem dX12_opOf_153 : decode cX12_opOf 153 = .ok (.bipush 17, 2) := by decide +kernel
theorem dX12_opOf_155 : decode cX12_opOf 155 = .ok (.ireturn, 1) := by decide +kernel
theorem dX12_opOf_156 : decode cX12_opOf 156 = .ok (.bipush 18, 2) := by decide +kernel
theorem dX12_opOf_158 : decode cX12_opOf 158 = .ok (.ireturn, 1) := by decide +kernel
theorem dX12_opOf_159 : decode cX12_opOf 159 = .ok (.bipush 19, 2) := by decide +kernel
theorem dX12_opOf_161 : decode cX12_opOf 161 = .ok (.ireturn, 1) := by decide +kernel
theorem dX12_opOf_162 : decode cX12_opOf 162 = .ok (.bipush 20, 2) := by decide +kernel
theorem dX12_opOf_164 : decode cX12_opOf 164 = .ok (.ireturn, 1) := by decide +kernel
theorem dX12_opOf_165 : decode cX12_opOf 165 = .ok (.bipush 21, 2) := by decide +kernel
theorem dX12_opOf_167 : decode cX12_opOf 167 = .ok (.ireturn, 1) := by decide +kernel
theorem dX12_opOf_168 : decode cX12_opOf 168 = .ok (.bipush 22, 2) := by decide +kernel
theorem dX12_opOf_170 : decode cX12_opOf 170 = .ok (.ireturn, 1) := by decide +kernel
theorem dX12_opOf_171 : decode cX12_opOf 171 = .ok (.bipush 23, 2) := by decide +kernel
theorem dX12_opOf_173 : decode cX12_opOf 173 = .ok (.ireturn, 1) := by decide +kernel
theorem dX12_opOf_174 : decode cX12_opOf 174 = .ok (.bipush 27, 2) := by decide +kernel
theorem dX12_opOf_176 : decode cX12_opOf 176 = .ok (.ireturn, 1) := by decide +kernel
theorem dX12_opOf_177 : decode cX12_opOf 177 = .ok (.bipush 28, 2) := by decide +kernel
theorem dX12_opOf_179 : decode cX12_opOf 179 = .ok (.ireturn, 1) := by decide +kernel
theorem dX12_waits_0 : decode cX12_waits 0 = .ok (.aload_n 0, 1) := by decide +kernel
theorem dX12_waits_1 : decode cX12_waits 1 = .ok (.getfield 96, 3) := by decide +kernel
theorem dX12_waits_4 : decode cX12_waits 4 = .ok (.aload_n 0, 1) := by decide +kernel
theorem dX12_waits_5 : decode cX12_waits 5 = .ok (.getfield 370, 3) := by decide +kernel
theorem dX12_waits_8 : decode cX12_waits 8 = .ok (.iload_n 1, 1) := by decide +kernel
theorem dX12_waits_9 : decode cX12_waits 9 = .ok (.iastore, 1) := by decide +kernel
theorem dX12_waits_10 : decode cX12_waits 10 = .ok (.aload_n 0, 1) := by decide +kernel
theorem dX12_waits_11 : decode cX12_waits 11 = .ok (.getfield 99, 3) := by decide +kernel
theorem dX12_waits_14 : decode cX12_waits 14 = .ok (.aload_n 0, 1) := by decide +kernel
theorem dX12_waits_15 : decode cX12_waits 15 = .ok (.getfield 370, 3) := by decide +kernel
theorem dX12_waits_18 : decode cX12_waits 18 = .ok (.iload_n 2, 1) := by decide +kernel
theorem dX12_waits_19 : decode cX12_waits 19 = .ok (.iastore, 1) := by decide +kernel
theorem dX12_waits_20 : decode cX12_waits 20 = .ok (.aload_n 0, 1) := by decide +kernel
theorem dX12_waits_21 : decode cX12_waits 21 = .ok (.getfield 102, 3) := by decide +kernel
theorem dX12_waits_24 : decode cX12_waits 24 = .ok (.aload_n 0, 1) := by decide +kernel
theorem dX12_waits_25 : decode cX12_waits 25 = .ok (.getfield 370, 3) := by decide +kernel
theorem dX12_waits_28 : decode cX12_waits 28 = .ok (.iload_n 3, 1) := by decide +kernel
theorem dX12_waits_29 : decode cX12_waits 29 = .ok (.iastore, 1) := by decide +kernel
theorem dX12_waits_30 : decode cX12_waits 30 = .ok (.aload_n 0, 1) := by decide +kernel
theorem dX12_waits_31 : decode cX12_waits 31 = .ok (.getfield 105, 3) := by decide +kernel
theorem dX12_waits_34 : decode cX12_waits 34 = .ok (.aload_n 0, 1) := by decide +kernel
theorem dX12_waits_35 : decode cX12_waits 35 = .ok (.getfield 370, 3) := by decide +kernel
theorem dX12_waits_38 : decode cX12_waits 38 = .ok (.iconst (-1), 1) := by decide +kernel
theorem dX12_waits_39 : decode cX12_waits 39 = .ok (.iastore, 1) := by decide +kernel
theorem dX12_waits_40 : decode cX12_waits 40 = .ok (.aload_n 0, 1) := by decide +kernel
theorem dX12_waits_41 : decode cX12_waits 41 = .ok (.getfield 108, 3) := by decide +kernel
theorem dX12_waits_44 : decode cX12_waits 44 = .ok (.aload_n 0, 1) := by decide +kernel
theorem dX12_waits_45 : decode cX12_waits 45 = .ok (.getfield 370, 3) := by decide +kernel
theorem dX12_waits_48 : decode cX12_waits 48 = .ok (.iconst (-1), 1) := by decide +kernel
theorem dX12_waits_49 : decode cX12_waits 49 = .ok (.iastore, 1) := by decide +kernel
theorem dX12_waits_50 : decode cX12_waits 50 = .ok (.aload_n 0, 1) := by decide +kernel
theorem dX12_waits_51 : decode cX12_waits 51 = .ok (.dup, 1) := by decide +kernel
theorem dX12_waits_52 : decode cX12_waits 52 = .ok (.getfield 370, 3) := by decide +kernel
theorem dX12_waits_55 : decode cX12_waits 55 = .ok (.iconst 1, 1) := by decide +kernel
theorem dX12_waits_56 : decode cX12_waits 56 = .ok (.iadd, 1) := by decide +kernel
theorem dX12_waits_57 : decode cX12_waits 57 = .ok (.putfield 370, 3) := by decide +kernel
theorem dX12_waits_60 : decode cX12_waits 60 = .ok (.return_, 1) := by decide +kernel
theorem dX12_expression_0 : decode cX12_expression 0 = .ok (.aload_n 0, 1) := by decide +kernel
theorem dX12_expression_1 : decode cX12_expression 1 = .ok (.iconst 0, 1) := by decide +kernel
theorem dX12_expression_2 : decode cX12_expression 2 = .ok (.putfield 370, 3) := by decide +kernel
theorem dX12_expression_5 : decode cX12_expression 5 = .ok (.aload_n 0, 1) := by decide +kernel
theorem dX12_expression_6 : decode cX12_expression 6 = .ok (.iconst 0, 1) := by decide +kernel
theorem dX12_expression_7 : decode cX12_expression 7 = .ok (.iconst (-1), 1) := by decide +kernel
theorem dX12_expression_8 : decode cX12_expression 8 = .ok (.iload_n 1, 1) := by decide +kernel
theorem dX12_expression_9 : decode cX12_expression 9 = .ok (.invokevirtual 373, 3) := by decide +kernel
theorem dX12_expression_12 : decode cX12_expression 12 = .ok (.aload_n 0, 1) := by decide +kernel
theorem dX12_expression_13 : decode cX12_expression 13 = .ok (.invokevirtual 377, 3) := by decide +kernel
theorem dX12_expression_16 : decode cX12_expression 16 = .ok (.ireturn, 1) := by decide +kernel
theorem dX12_callAlone_0 : decode cX12_callAlone 0 = .ok (.aload_n 0, 1) := by decide +kernel
theorem dX12_callAlone_1 : decode cX12_callAlone 1 = .ok (.iconst 0, 1) := by decide +kernel
theorem dX12_callAlone_2 : decode cX12_callAlone 2 = .ok (.putfield 370, 3) := by decide +kernel
theorem dX12_callAlone_5 : decode cX12_callAlone 5 = .ok (.aload_n 0, 1) := by decide +kernel
theorem dX12_callAlone_6 : decode cX12_callAlone 6 = .ok (.iload_n 1, 1) := by decide +kernel
theorem dX12_callAlone_7 : decode cX12_callAlone 7 = .ok (.iload_n 2, 1) := by decide +kernel
theorem dX12_callAlone_8 : decode cX12_callAlone 8 = .ok (.invokevirtual 380, 3) := by decide +kernel
theorem dX12_callAlone_11 : decode cX12_callAlone 11 = .ok (.istore_n 3, 1) := by decide +kernel
theorem dX12_callAlone_12 : decode cX12_callAlone 12 = .ok (.iload_n 3, 1) := by decide +kernel
theorem dX12_callAlone_13 : decode cX12_callAlone 13 = .ok (.ifCond .lt 7, 3) := by decide +kernel
theorem dX12_callAlone_16 : decode cX12_callAlone 16 = .ok (.iload_n 3, 1) := by decide +kernel
theorem dX12_callAlone_17 : decode cX12_callAlone 17 = .ok (.goto 7, 3) := by decide +kernel
theorem dX12_callAlone_20 : decode cX12_callAlone 20 = .ok (.aload_n 0, 1) := by decide +kernel
theorem dX12_callAlone_21 : decode cX12_callAlone 21 = .ok (.invokevirtual 377, 3) := by decide +kernel
theorem dX12_callAlone_24 : decode cX12_callAlone 24 = .ok (.ireturn, 1) := by decide +kernel
theorem dX12_works_0 : decode cX12_works 0 = .ok (.iconst (-1), 1) := by decide +kernel
theorem dX12_works_1 : decode cX12_works 1 = .ok (.istore_n 1, 1) := by decide +kernel
theorem dX12_works_2 : decode cX12_works 2 = .ok (.aload_n 0, 1) := by decide +kernel
theorem dX12_works_3 : decode cX12_works 3 = .ok (.invokevirtual 243, 3) := by decide +kernel
theorem dX12_works_6 : decode cX12_works 6 = .ok (.ifCond .eq 129, 3) := by decide +kernel
theorem dX12_works_9 : decode cX12_works 9 = .ok (.aload_n 0, 1) := by decide +kernel
theorem dX12_works_10 : decode cX12_works 10 = .ok (.getfield 370, 3) := by decide +kernel
theorem dX12_works_13 : decode cX12_works 13 = .ok (.ifCond .le 122, 3) := by decide +kernel
theorem dX12_works_16 : decode cX12_works 16 = .ok (.iload_n 1, 1) := by decide +kernel
theorem dX12_works_17 : decode cX12_works 17 = .ok (.ifCond .ge 11, 3) := by decide +kernel
theorem dX12_works_20 : decode cX12_works 20 = .ok (.aload_n 0, 1) := by decide +kernel
theorem dX12_works_21 : decode cX12_works 21 = .ok (.invokevirtual 383, 3) := by decide +kernel
theorem dX12_works_24 : decode cX12_works 24 = .ok (.istore_n 1, 1) := by decide +kernel
theorem dX12_works_25 : decode cX12_works 25 = .ok (.goto (-23), 3) := by decide +kernel
theorem dX12_works_28 : decode cX12_works 28 = .ok (.aload_n 0, 1) := by decide +kernel
theorem dX12_works_29 : decode cX12_works 29 = .ok (.getfield 96, 3) := by decide +kernel
theorem dX12_works_32 : decode cX12_works 32 = .ok (.aload_n 0, 1) := by decide +kernel
theorem dX12_works_33 : decode cX12_works 33 = .ok (.getfield 370, 3) := by decide +kernel
theorem dX12_works_36 : decode cX12_works 36 = .ok (.iconst 1, 1) := by decide +kernel
theorem dX12_works_37 : decode cX12_works 37 = .ok (.isub, 1) := by decide +kernel
theorem dX12_works_38 : decode cX12_works 38 = .ok (.iaload, 1) := by decide +kernel
theorem dX12_works_39 : decode cX12_works 39 = .ok (.iconst 4, 1) := by decide +kernel
theorem dX12_works_40 : decode cX12_works 40 = .ok (.if_icmp .ne 51, 3) := by decide +kernel
theorem dX12_works_43 : decode cX12_works 43 = .ok (.aload_n 0, 1) := by decide +kernel
theorem dX12_works_44 : decode cX12_works 44 = .ok (.dup, 1) := by decide +kernel
theorem dX12_works_45 : decode cX12_works 45 = .ok (.getfield 370, 3) := by decide +kernel
theorem dX12_works_48 : decode cX12_works 48 = .ok (.iconst 1, 1) := by decide +kernel
theorem dX12_works_49 : decode cX12_works 49 = .ok (.isub, 1) := by decide +kernel
theorem dX12_works_50 : decode cX12_works 50 = .ok (.putfield 370, 3) := by decide +kernel
theorem dX12_works_53 : decode cX12_works 53 = .ok (.aload_n 0, 1) := by decide +kernel
theorem dX12_works_54 : decode cX12_works 54 = .ok (.dup, 1) := by decide +kernel
theorem dX12_works_55 : decode cX12_works 55 = .ok (.getfield 268, 3) := by decide +kernel
theorem dX12_works_58 : decode cX12_works 58 = .ok (.iconst 1, 1) := by decide +kernel
theorem dX12_works_59 : decode cX12_works 59 = .ok (.isub, 1) := by decide +kernel
theorem dX12_works_60 : decode cX12_works 60 = .ok (.putfield 268, 3) := by decide +kernel
theorem dX12_works_63 : decode cX12_works 63 = .ok (.aload_n 0, 1) := by decide +kernel
theorem dX12_works_64 : decode cX12_works 64 = .ok (.getfield 56, 3) := by decide +kernel
theorem dX12_works_67 : decode cX12_works 67 = .ok (.aload_n 0, 1) := by decide +kernel
theorem dX12_works_68 : decode cX12_works 68 = .ok (.getfield 99, 3) := by decide +kernel
theorem dX12_works_71 : decode cX12_works 71 = .ok (.aload_n 0, 1) := by decide +kernel
theorem dX12_works_72 : decode cX12_works 72 = .ok (.getfield 370, 3) := by decide +kernel
theorem dX12_works_75 : decode cX12_works 75 = .ok (.iaload, 1) := by decide +kernel
theorem dX12_works_76 : decode cX12_works 76 = .ok (.iload_n 1, 1) := by decide +kernel
theorem dX12_works_77 : decode cX12_works 77 = .ok (.iastore, 1) := by decide +kernel
theorem dX12_works_78 : decode cX12_works 78 = .ok (.aload_n 0, 1) := by decide +kernel
theorem dX12_works_79 : decode cX12_works 79 = .ok (.getfield 99, 3) := by decide +kernel
theorem dX12_works_82 : decode cX12_works 82 = .ok (.aload_n 0, 1) := by decide +kernel
theorem dX12_works_83 : decode cX12_works 83 = .ok (.getfield 370, 3) := by decide +kernel
theorem dX12_works_86 : decode cX12_works 86 = .ok (.iaload, 1) := by decide +kernel
theorem dX12_works_87 : decode cX12_works 87 = .ok (.istore_n 1, 1) := by decide +kernel
theorem dX12_works_88 : decode cX12_works 88 = .ok (.goto (-60), 3) := by decide +kernel
theorem dX12_works_91 : decode cX12_works 91 = .ok (.aload_n 0, 1) := by decide +kernel
theorem dX12_works_92 : decode cX12_works 92 = .ok (.getfield 206, 3) := by decide +kernel
theorem dX12_works_95 : decode cX12_works 95 = .ok (.iconst 4, 1) := by decide +kernel
theorem dX12_works_96 : decode cX12_works 96 = .ok (.if_icmp .ne 23, 3) := by decide +kernel
theorem dX12_works_99 : decode cX12_works 99 = .ok (.aload_n 0, 1) := by decide +kernel
theorem dX12_works_100 : decode cX12_works 100 = .ok (.getfield 202, 3) := by decide +kernel
theorem dX12_works_103 : decode cX12_works 103 = .ok (.invokestatic 386, 3) := by decide +kernel
theorem dX12_works_106 : decode cX12_works 106 = .ok (.ifCond .lt 13, 3) := by decide +kernel
theorem dX12_works_109 : decode cX12_works 109 = .ok (.aload_n 0, 1) := by decide +kernel
theorem dX12_works_110 : decode cX12_works 110 = .ok (.iload_n 1, 1) := by decide +kernel
theorem dX12_works_111 : decode cX12_works 111 = .ok (.invokevirtual 389, 3) := by decide +kernel
theorem dX12_works_114 : decode cX12_works 114 = .ok (.iconst (-1), 1) := by decide +kernel
theorem dX12_works_115 : decode cX12_works 115 = .ok (.istore_n 1, 1) := by decide +kernel
theorem dX12_works_116 : decode cX12_works 116 = .ok (.goto (-114), 3) := by decide +kernel
theorem dX12_works_119 : decode cX12_works 119 = .ok (.aload_n 0, 1) := by decide +kernel
theorem dX12_works_120 : decode cX12_works 120 = .ok (.iload_n 1, 1) := by decide +kernel
theorem dX12_works_121 : decode cX12_works 121 = .ok (.iconst (-1), 1) := by decide +kernel
theorem dX12_works_122 : decode cX12_works 122 = .ok (.invokevirtual 392, 3) := by decide +kernel
theorem dX12_works_125 : decode cX12_works 125 = .ok (.istore_n 1, 1) := by decide +kernel
theorem dX12_works_126 : decode cX12_works 126 = .ok (.aload_n 0, 1) := by decide +kernel
theorem dX12_works_127 : decode cX12_works 127 = .ok (.iload_n 1, 1) := by decide +kernel
theorem dX12_works_128 : decode cX12_works 128 = .ok (.invokevirtual 395, 3) := by decide +kernel
theorem dX12_works_131 : decode cX12_works 131 = .ok (.istore_n 1, 1) := by decide +kernel
theorem dX12_works_132 : decode cX12_works 132 = .ok (.goto (-130), 3) := by decide +kernel
theorem dX12_works_135 : decode cX12_works 135 = .ok (.iload_n 1, 1) := by decide +kernel
theorem dX12_works_136 : decode cX12_works 136 = .ok (.ifCond .ge 7, 3) := by decide +kernel
theorem dX12_works_139 : decode cX12_works 139 = .ok (.iconst 0, 1) := by decide +kernel
theorem dX12_works_140 : decode cX12_works 140 = .ok (.goto 4, 3) := by decide +kernel
theorem dX12_works_143 : decode cX12_works 143 = .ok (.iload_n 1, 1) := by decide +kernel
theorem dX12_works_144 : decode cX12_works 144 = .ok (.ireturn, 1) := by decide +kernel
theorem dX12_second_0 : decode cX12_second 0 = .ok (.iload_n 1, 1) := by decide +kernel
theorem dX12_second_1 : decode cX12_second 1 = .ok (.istore_n 3, 1) := by decide +kernel
theorem dX12_second_2 : decode cX12_second 2 = .ok (.aload_n 0, 1) := by decide +kernel
theorem dX12_second_3 : decode cX12_second 3 = .ok (.getfield 96, 3) := by decide +kernel
theorem dX12_second_6 : decode cX12_second 6 = .ok (.aload_n 0, 1) := by decide +kernel
theorem dX12_second_7 : decode cX12_second 7 = .ok (.getfield 370, 3) := by decide +kernel
theorem dX12_second_10 : decode cX12_second 10 = .ok (.iconst 1, 1) := by decide +kernel
theorem dX12_second_11 : decode cX12_second 11 = .ok (.isub, 1) := by decide +kernel
theorem dX12_second_12 : decode cX12_second 12 = .ok (.iaload, 1) := by decide +kernel
theorem dX12_second_13 : decode cX12_second 13 = .ok (.iconst 5, 1) := by decide +kernel
theorem dX12_second_14 : decode cX12_second 14 = .ok (.if_icmp .ne 56, 3) := by decide +kernel
theorem dX12_second_17 : decode cX12_second 17 = .ok (.aload_n 0, 1) := by decide +kernel
theorem dX12_second_18 : decode cX12_second 18 = .ok (.getfield 102, 3) := by decide +kernel
theorem dX12_second_21 : decode cX12_second 21 = .ok (.aload_n 0, 1) := by decide +kernel
theorem dX12_second_22 : decode cX12_second 22 = .ok (.getfield 370, 3) := by decide +kernel
theorem dX12_second_25 : decode cX12_second 25 = .ok (.iconst 1, 1) := by decide +kernel
theorem dX12_second_26 : decode cX12_second 26 = .ok (.isub, 1) := by decide +kernel
theorem dX12_second_27 : decode cX12_second 27 = .ok (.iaload, 1) := by decide +kernel
theorem dX12_second_28 : decode cX12_second 28 = .ok (.iload_n 2, 1) := by decide +kernel
theorem dX12_second_29 : decode cX12_second 29 = .ok (.if_icmp .lt 41, 3) := by decide +kernel
theorem dX12_second_32 : decode cX12_second 32 = .ok (.aload_n 0, 1) := by decide +kernel
theorem dX12_second_33 : decode cX12_second 33 = .ok (.dup, 1) := by decide +kernel
theorem dX12_second_34 : decode cX12_second 34 = .ok (.getfield 370, 3) := by decide +kernel
theorem dX12_second_37 : decode cX12_second 37 = .ok (.iconst 1, 1) := by decide +kernel
theorem dX12_second_38 : decode cX12_second 38 = .ok (.isub, 1) := by decide +kernel
theorem dX12_second_39 : decode cX12_second 39 = .ok (.putfield 370, 3) := by decide +kernel
theorem dX12_second_42 : decode cX12_second 42 = .ok (.aload_n 0, 1) := by decide +kernel
theorem dX12_second_43 : decode cX12_second 43 = .ok (.getfield 59, 3) := by decide +kernel
theorem dX12_second_46 : decode cX12_second 46 = .ok (.aload_n 0, 1) := by decide +kernel
theorem dX12_second_47 : decode cX12_second 47 = .ok (.getfield 99, 3) := by decide +kernel
theorem dX12_second_50 : decode cX12_second 50 = .ok (.aload_n 0, 1) := by decide +kernel
theorem dX12_second_51 : decode cX12_second 51 = .ok (.getfield 370, 3) := by decide +kernel
theorem dX12_second_54 : decode cX12_second 54 = .ok (.iaload, 1) := by decide +kernel
theorem dX12_second_55 : decode cX12_second 55 = .ok (.iload_n 3, 1) := by decide +kernel
theorem dX12_second_56 : decode cX12_second 56 = .ok (.iastore, 1) := by decide +kernel
theorem dX12_second_57 : decode cX12_second 57 = .ok (.aload_n 0, 1) := by decide +kernel
theorem dX12_second_58 : decode cX12_second 58 = .ok (.getfield 99, 3) := by decide +kernel
theorem dX12_second_61 : decode cX12_second 61 = .ok (.aload_n 0, 1) := by decide +kernel
theorem dX12_second_62 : decode cX12_second 62 = .ok (.getfield 370, 3) := by decide +kernel
theorem dX12_second_65 : decode cX12_second 65 = .ok (.iaload, 1) := by decide +kernel
theorem dX12_second_66 : decode cX12_second 66 = .ok (.istore_n 3, 1) := by decide +kernel
theorem dX12_second_67 : decode cX12_second 67 = .ok (.goto (-65), 3) := by decide +kernel
theorem dX12_second_70 : decode cX12_second 70 = .ok (.iload_n 3, 1) := by decide +kernel
theorem dX12_second_71 : decode cX12_second 71 = .ok (.ireturn, 1) := by decide +kernel
theorem dX12_binary_0 : decode cX12_binary 0 = .ok (.aload_n 0, 1) := by decide +kernel
theorem dX12_binary_1 : decode cX12_binary 1 = .ok (.getfield 202, 3) := by decide +kernel
theorem dX12_binary_4 : decode cX12_binary 4 = .ok (.invokestatic 386, 3) := by decide +kernel
theorem dX12_binary_7 : decode cX12_binary 7 = .ok (.istore_n 2, 1) := by decide +kernel
theorem dX12_binary_8 : decode cX12_binary 8 = .ok (.aload_n 0, 1) := by decide +kernel
theorem dX12_binary_9 : decode cX12_binary 9 = .ok (.iload_n 1, 1) := by decide +kernel
theorem dX12_binary_10 : decode cX12_binary 10 = .ok (.iload_n 2, 1) := by decide +kernel
theorem dX12_binary_11 : decode cX12_binary 11 = .ok (.invokevirtual 392, 3) := by decide +kernel
theorem dX12_binary_14 : decode cX12_binary 14 = .ok (.istore_n 3, 1) := by decide +kernel
theorem dX12_binary_15 : decode cX12_binary 15 = .ok (.aload_n 0, 1) := by decide +kernel
theorem dX12_binary_16 : decode cX12_binary 16 = .ok (.aload_n 0, 1) := by decide +kernel
theorem dX12_binary_17 : decode cX12_binary 17 = .ok (.getfield 199, 3) := by decide +kernel
theorem dX12_binary_20 : decode cX12_binary 20 = .ok (.invokevirtual 293, 3) := by decide +kernel
theorem dX12_binary_23 : decode cX12_binary 23 = .ok (.aload_n 0, 1) := by decide +kernel
theorem dX12_binary_24 : decode cX12_binary 24 = .ok (.iload_n 2, 1) := by decide +kernel
theorem dX12_binary_25 : decode cX12_binary 25 = .ok (.ifCond .ne 8, 3) := by decide +kernel
theorem dX12_binary_28 : decode cX12_binary 28 = .ok (.bipush 8, 2) := by decide +kernel
theorem dX12_binary_30 : decode cX12_binary 30 = .ok (.goto 15, 3) := by decide +kernel
theorem dX12_binary_33 : decode cX12_binary 33 = .ok (.iload_n 2, 1) := by decide +kernel
theorem dX12_binary_34 : decode cX12_binary 34 = .ok (.iconst 1, 1) := by decide +kernel
theorem dX12_binary_35 : decode cX12_binary 35 = .ok (.if_icmp .ne 8, 3) := by decide +kernel
theorem dX12_binary_38 : decode cX12_binary 38 = .ok (.bipush 7, 2) := by decide +kernel
theorem dX12_binary_40 : decode cX12_binary 40 = .ok (.goto 5, 3) := by decide +kernel
theorem dX12_binary_43 : decode cX12_binary 43 = .ok (.bipush 6, 2) := by decide +kernel
theorem dX12_binary_45 : decode cX12_binary 45 = .ok (.invokevirtual 330, 3) := by decide +kernel
theorem dX12_binary_48 : decode cX12_binary 48 = .ok (.istore 4, 2) := by decide +kernel
theorem dX12_binary_50 : decode cX12_binary 50 = .ok (.aload_n 0, 1) := by decide +kernel
theorem dX12_binary_51 : decode cX12_binary 51 = .ok (.getfield 65, 3) := by decide +kernel
theorem dX12_binary_54 : decode cX12_binary 54 = .ok (.iload 4, 2) := by decide +kernel
theorem dX12_binary_56 : decode cX12_binary 56 = .ok (.aload_n 0, 1) := by decide +kernel
theorem dX12_binary_57 : decode cX12_binary 57 = .ok (.getfield 202, 3) := by decide +kernel
theorem dX12_binary_60 : decode cX12_binary 60 = .ok (.invokestatic 398, 3) := by decide +kernel
theorem dX12_binary_63 : decode cX12_binary 63 = .ok (.iastore, 1) := by decide +kernel
theorem dX12_binary_64 : decode cX12_binary 64 = .ok (.aload_n 0, 1) := by decide +kernel
theorem dX12_binary_65 : decode cX12_binary 65 = .ok (.getfield 56, 3) := by decide +kernel
theorem dX12_binary_68 : decode cX12_binary 68 = .ok (.iload 4, 2) := by decide +kernel
theorem dX12_binary_70 : decode cX12_binary 70 = .ok (.iload_n 3, 1) := by decide +kernel
theorem dX12_binary_71 : decode cX12_binary 71 = .ok (.iastore, 1) := by decide +kernel
theorem dX12_binary_72 : decode cX12_binary 72 = .ok (.aload_n 0, 1) := by decide +kernel
theorem dX12_binary_73 : decode cX12_binary 73 = .ok (.iconst 5, 1) := by decide +kernel
theorem dX12_binary_74 : decode cX12_binary 74 = .ok (.iload 4, 2) := by decide +kernel
theorem dX12_binary_76 : decode cX12_binary 76 = .ok (.iload_n 2, 1) := by decide +kernel
theorem dX12_binary_77 : decode cX12_binary 77 = .ok (.invokevirtual 373, 3) := by decide +kernel
theorem dX12_binary_80 : decode cX12_binary 80 = .ok (.aload_n 0, 1) := by decide +kernel
theorem dX12_binary_81 : decode cX12_binary 81 = .ok (.invokevirtual 250, 3) := by decide +kernel
theorem dX12_binary_84 : decode cX12_binary 84 = .ok (.return_, 1) := by decide +kernel
theorem dX12_endsOpen_0 : decode cX12_endsOpen 0 = .ok (.aload_n 0, 1) := by decide +kernel
theorem dX12_endsOpen_1 : decode cX12_endsOpen 1 = .ok (.getfield 370, 3) := by decide +kernel
theorem dX12_endsOpen_4 : decode cX12_endsOpen 4 = .ok (.iconst 1, 1) := by decide +kernel
theorem dX12_endsOpen_5 : decode cX12_endsOpen 5 = .ok (.isub, 1) := by decide +kernel
theorem dX12_endsOpen_6 : decode cX12_endsOpen 6 = .ok (.istore_n 2, 1) := by decide +kernel
theorem dX12_endsOpen_7 : decode cX12_endsOpen 7 = .ok (.aload_n 0, 1) := by decide +kernel
theorem dX12_endsOpen_8 : decode cX12_endsOpen 8 = .ok (.getfield 99, 3) := by decide +kernel
theorem dX12_endsOpen_11 : decode cX12_endsOpen 11 = .ok (.iload_n 2, 1) := by decide +kernel
theorem dX12_endsOpen_12 : decode cX12_endsOpen 12 = .ok (.iaload, 1) := by decide +kernel
theorem dX12_endsOpen_13 : decode cX12_endsOpen 13 = .ok (.istore_n 3, 1) := by decide +kernel
theorem dX12_endsOpen_14 : decode cX12_endsOpen 14 = .ok (.aload_n 0, 1) := by decide +kernel
theorem dX12_endsOpen_15 : decode cX12_endsOpen 15 = .ok (.getfield 96, 3) := by decide +kernel
theorem dX12_endsOpen_18 : decode cX12_endsOpen 18 = .ok (.iload_n 2, 1) := by decide +kernel
theorem dX12_endsOpen_19 : decode cX12_endsOpen 19 = .ok (.iaload, 1) := by decide +kernel
theorem dX12_endsOpen_20 : decode cX12_endsOpen 20 = .ok (.tableswitch 162 1 3 #[28, 46, 71], 28) := by decide +kernel
theorem dX12_endsOpen_48 : decode cX12_endsOpen 48 = .ok (.aload_n 0, 1) := by decide +kernel
theorem dX12_endsOpen_49 : decode cX12_endsOpen 49 = .ok (.bipush 41, 2) := by decide +kernel
theorem dX12_endsOpen_51 : decode cX12_endsOpen 51 = .ok (.invokevirtual 307, 3) := by decide +kernel
theorem dX12_endsOpen_54 : decode cX12_endsOpen 54 = .ok (.aload_n 0, 1) := by decide +kernel
theorem dX12_endsOpen_55 : decode cX12_endsOpen 55 = .ok (.dup, 1) := by decide +kernel
theorem dX12_endsOpen_56 : decode cX12_endsOpen 56 = .ok (.getfield 370, 3) := by decide +kernel
theorem dX12_endsOpen_59 : decode cX12_endsOpen 59 = .ok (.iconst 1, 1) := by decide +kernel
theorem dX12_endsOpen_60 : decode cX12_endsOpen 60 = .ok (.isub, 1) := by decide +kernel
theorem dX12_endsOpen_61 : decode cX12_endsOpen 61 = .ok (.putfield 370, 3) := by decide +kernel
theorem dX12_endsOpen_64 : decode cX12_endsOpen 64 = .ok (.iload_n 1, 1) := by decide +kernel
theorem dX12_endsOpen_65 : decode cX12_endsOpen 65 = .ok (.ireturn, 1) := by decide +kernel
theorem dX12_endsOpen_66 : decode cX12_endsOpen 66 = .ok (.aload_n 0, 1) := by decide +kernel
theorem dX12_endsOpen_67 : decode cX12_endsOpen 67 = .ok (.bipush 93, 2) := by decide +kernel
theorem dX12_endsOpen_69 : decode cX12_endsOpen 69 = .ok (.invokevirtual 307, 3) := by decide +kernel
theorem dX12_endsOpen_72 : decode cX12_endsOpen 72 = .ok (.aload_n 0, 1) := by decide +kernel
theorem dX12_endsOpen_73 : decode cX12_endsOpen 73 = .ok (.dup, 1) := by decide +kernel
theorem dX12_endsOpen_74 : decode cX12_endsOpen 74 = .ok (.getfield 370, 3) := by decide +kernel
theorem dX12_endsOpen_77 : decode cX12_endsOpen 77 = .ok (.iconst 1, 1) := by decide +kernel
theorem dX12_endsOpen_78 : decode cX12_endsOpen 78 = .ok (.isub, 1) := by decide +kernel
theorem dX12_endsOpen_79 : decode cX12_endsOpen 79 = .ok (.putfield 370, 3) := by decide +kernel
theorem dX12_endsOpen_82 : decode cX12_endsOpen 82 = .ok (.aload_n 0, 1) := by decide +kernel
theorem dX12_endsOpen_83 : decode cX12_endsOpen 83 = .ok (.getfield 56, 3) := by decide +kernel
theorem dX12_endsOpen_86 : decode cX12_endsOpen 86 = .ok (.iload_n 3, 1) := by decide +kernel
theorem dX12_endsOpen_87 : decode cX12_endsOpen 87 = .ok (.iload_n 1, 1) := by decide +kernel
theorem dX12_endsOpen_88 : decode cX12_endsOpen 88 = .ok (.iastore, 1) := by decide +kernel
theorem dX12_endsOpen_89 : decode cX12_endsOpen 89 = .ok (.iload_n 3, 1) := by decide +kernel
theorem dX12_endsOpen_90 : decode cX12_endsOpen 90 = .ok (.ireturn, 1) := by decide +kernel
theorem dX12_endsOpen_91 : decode cX12_endsOpen 91 = .ok (.aload_n 0, 1) := by decide +kernel
theorem dX12_endsOpen_92 : decode cX12_endsOpen 92 = .ok (.getfield 108, 3) := by decide +kernel
theorem dX12_endsOpen_95 : decode cX12_endsOpen 95 = .ok (.iload_n 2, 1) := by decide +kernel
theorem dX12_endsOpen_96 : decode cX12_endsOpen 96 = .ok (.iaload, 1) := by decide +kernel
theorem dX12_endsOpen_97 : decode cX12_endsOpen 97 = .ok (.iconst (-1), 1) := by decide +kernel
theorem dX12_endsOpen_98 : decode cX12_endsOpen 98 = .ok (.if_icmp .ne 13, 3) := by decide +kernel
theorem dX12_endsOpen_101 : decode cX12_endsOpen 101 = .ok (.aload_n 0, 1) := by decide +kernel
theorem dX12_endsOpen_102 : decode cX12_endsOpen 102 = .ok (.getfield 56, 3) := by decide +kernel
theorem dX12_endsOpen_105 : decode cX12_endsOpen 105 = .ok (.iload_n 3, 1) := by decide +kernel
theorem dX12_endsOpen_106 : decode cX12_endsOpen 106 = .ok (.iload_n 1, 1) := by decide +kernel
theorem dX12_endsOpen_107 : decode cX12_endsOpen 107 = .ok (.iastore, 1) := by decide +kernel
theorem dX12_endsOpen_108 : decode cX12_endsOpen 108 = .ok (.goto 15, 3) := by decide +kernel
theorem dX12_endsOpen_111 : decode cX12_endsOpen 111 = .ok (.aload_n 0, 1) := by decide +kernel
theorem dX12_endsOpen_112 : decode cX12_endsOpen 112 = .ok (.getfield 71, 3) := by decide +kernel
theorem dX12_endsOpen_115 : decode cX12_endsOpen 115 = .ok (.aload_n 0, 1) := by decide +kernel
theorem dX12_endsOpen_116 : decode cX12_endsOpen 116 = .ok (.getfield 108, 3) := by decide +kernel
theorem dX12_endsOpen_119 : decode cX12_endsOpen 119 = .ok (.iload_n 2, 1) := by decide +kernel
theorem dX12_endsOpen_120 : decode cX12_endsOpen 120 = .ok (.iaload, 1) := by decide +kernel
theorem dX12_endsOpen_121 : decode cX12_endsOpen 121 = .ok (.iload_n 1, 1) := by decide +kernel
theorem dX12_endsOpen_122 : decode cX12_endsOpen 122 = .ok (.iastore, 1) := by decide +kernel
theorem dX12_endsOpen_123 : decode cX12_endsOpen 123 = .ok (.aload_n 0, 1) := by decide +kernel
theorem dX12_endsOpen_124 : decode cX12_endsOpen 124 = .ok (.getfield 108, 3) := by decide +kernel
theorem dX12_endsOpen_127 : decode cX12_endsOpen 127 = .ok (.iload_n 2, 1) := by decide +kernel
theorem dX12_endsOpen_128 : decode cX12_endsOpen 128 = .ok (.iload_n 1, 1) := by decide +kernel
theorem dX12_endsOpen_129 : decode cX12_endsOpen 129 = .ok (.iastore, 1) := by decide +kernel
theorem dX12_endsOpen_130 : decode cX12_endsOpen 130 = .ok (.aload_n 0, 1) := by decide +kernel
theorem dX12_endsOpen_131 : decode cX12_endsOpen 131 = .ok (.getfield 68, 3) := by decide +kernel
theorem dX12_endsOpen_134 : decode cX12_endsOpen 134 = .ok (.iload_n 3, 1) := by decide +kernel
theorem dX12_endsOpen_135 : decode cX12_endsOpen 135 = .ok (.dup2, 1) := by decide +kernel
theorem dX12_endsOpen_136 : decode cX12_endsOpen 136 = .ok (.iaload, 1) := by decide +kernel
theorem dX12_endsOpen_137 : decode cX12_endsOpen 137 = .ok (.iconst 1, 1) := by decide +kernel
theorem dX12_endsOpen_138 : decode cX12_endsOpen 138 = .ok (.iadd, 1) := by decide +kernel
theorem dX12_endsOpen_139 : decode cX12_endsOpen 139 = .ok (.iastore, 1) := by decide +kernel
theorem dX12_endsOpen_140 : decode cX12_endsOpen 140 = .ok (.aload_n 0, 1) := by decide +kernel
theorem dX12_endsOpen_141 : decode cX12_endsOpen 141 = .ok (.bipush 44, 2) := by decide +kernel
theorem dX12_endsOpen_143 : decode cX12_endsOpen 143 = .ok (.invokevirtual 247, 3) := by decide +kernel
theorem dX12_endsOpen_146 : decode cX12_endsOpen 146 = .ok (.ifCond .eq 9, 3) := by decide +kernel
theorem dX12_endsOpen_149 : decode cX12_endsOpen 149 = .ok (.aload_n 0, 1) := by decide +kernel
theorem dX12_endsOpen_150 : decode cX12_endsOpen 150 = .ok (.invokevirtual 250, 3) := by decide +kernel
theorem dX12_endsOpen_153 : decode cX12_endsOpen 153 = .ok (.iconst (-1), 1) := by decide +kernel
theorem dX12_endsOpen_154 : decode cX12_endsOpen 154 = .ok (.ireturn, 1) := by decide +kernel
theorem dX12_endsOpen_155 : decode cX12_endsOpen 155 = .ok (.aload_n 0, 1) := by decide +kernel
theorem dX12_endsOpen_156 : decode cX12_endsOpen 156 = .ok (.bipush 41, 2) := by decide +kernel
theorem dX12_endsOpen_158 : decode cX12_endsOpen 158 = .ok (.invokevirtual 247, 3) := by decide +kernel
theorem dX12_endsOpen_161 : decode cX12_endsOpen 161 = .ok (.ifCond .ne 9, 3) := by decide +kernel
theorem dX12_endsOpen_164 : decode cX12_endsOpen 164 = .ok (.aload_n 0, 1) := by decide +kernel
theorem dX12_endsOpen_165 : decode cX12_endsOpen 165 = .ok (.invokevirtual 253, 3) := by decide +kernel
theorem dX12_endsOpen_168 : decode cX12_endsOpen 168 = .ok (.iload_n 3, 1) := by decide +kernel
theorem dX12_endsOpen_169 : decode cX12_endsOpen 169 = .ok (.ireturn, 1) := by decide +kernel
theorem dX12_endsOpen_170 : decode cX12_endsOpen 170 = .ok (.aload_n 0, 1) := by decide +kernel
theorem dX12_endsOpen_171 : decode cX12_endsOpen 171 = .ok (.iload_n 3, 1) := by decide +kernel
theorem dX12_endsOpen_172 : decode cX12_endsOpen 172 = .ok (.aload_n 0, 1) := by decide +kernel
theorem dX12_endsOpen_173 : decode cX12_endsOpen 173 = .ok (.getfield 105, 3) := by decide +kernel
theorem dX12_endsOpen_176 : decode cX12_endsOpen 176 = .ok (.iload_n 2, 1) := by decide +kernel
theorem dX12_endsOpen_177 : decode cX12_endsOpen 177 = .ok (.iaload, 1) := by decide +kernel
theorem dX12_endsOpen_178 : decode cX12_endsOpen 178 = .ok (.invokevirtual 401, 3) := by decide +kernel
theorem dX12_endsOpen_181 : decode cX12_endsOpen 181 = .ok (.ireturn, 1) := by decide +kernel
theorem dX12_endsOpen_182 : decode cX12_endsOpen 182 = .ok (.aload_n 0, 1) := by decide +kernel
theorem dX12_endsOpen_183 : decode cX12_endsOpen 183 = .ok (.dup, 1) := by decide +kernel
theorem dX12_endsOpen_184 : decode cX12_endsOpen 184 = .ok (.getfield 370, 3) := by decide +kernel
theorem dX12_endsOpen_187 : decode cX12_endsOpen 187 = .ok (.iconst 1, 1) := by decide +kernel
theorem dX12_endsOpen_188 : decode cX12_endsOpen 188 = .ok (.isub, 1) := by decide +kernel
theorem dX12_endsOpen_189 : decode cX12_endsOpen 189 = .ok (.putfield 370, 3) := by decide +kernel
theorem dX12_endsOpen_192 : decode cX12_endsOpen 192 = .ok (.iload_n 1, 1) := by decide +kernel
theorem dX12_endsOpen_193 : decode cX12_endsOpen 193 = .ok (.ireturn, 1) := by decide +kernel
theorem dX12_endsCall_0 : decode cX12_endsCall 0 = .ok (.aload_n 0, 1) := by decide +kernel
theorem dX12_endsCall_1 : decode cX12_endsCall 1 = .ok (.getfield 68, 3) := by decide +kernel
theorem dX12_endsCall_4 : decode cX12_endsCall 4 = .ok (.iload_n 1, 1) := by decide +kernel
theorem dX12_endsCall_5 : decode cX12_endsCall 5 = .ok (.iaload, 1) := by decide +kernel
theorem dX12_endsCall_6 : decode cX12_endsCall 6 = .ok (.aload_n 0, 1) := by decide +kernel
theorem dX12_endsCall_7 : decode cX12_endsCall 7 = .ok (.getfield 38, 3) := by decide +kernel
theorem dX12_endsCall_10 : decode cX12_endsCall 10 = .ok (.aload_n 0, 1) := by decide +kernel
theorem dX12_endsCall_11 : decode cX12_endsCall 11 = .ok (.getfield 65, 3) := by decide +kernel
theorem dX12_endsCall_14 : decode cX12_endsCall 14 = .ok (.iload_n 1, 1) := by decide +kernel
theorem dX12_endsCall_15 : decode cX12_endsCall 15 = .ok (.iaload, 1) := by decide +kernel
theorem dX12_endsCall_16 : decode cX12_endsCall 16 = .ok (.iaload, 1) := by decide +kernel
theorem dX12_endsCall_17 : decode cX12_endsCall 17 = .ok (.if_icmp .eq 10, 3) := by decide +kernel
theorem dX12_endsCall_20 : decode cX12_endsCall 20 = .ok (.aload_n 0, 1) := by decide +kernel
theorem dX12_endsCall_21 : decode cX12_endsCall 21 = .ok (.bipush 6, 2) := by decide +kernel
theorem dX12_endsCall_23 : decode cX12_endsCall 23 = .ok (.iload_n 2, 1) := by decide +kernel
theorem dX12_endsCall_24 : decode cX12_endsCall 24 = .ok (.invokevirtual 239, 3) := by decide +kernel
theorem dX12_endsCall_27 : decode cX12_endsCall 27 = .ok (.aload_n 0, 1) := by decide +kernel
theorem dX12_endsCall_28 : decode cX12_endsCall 28 = .ok (.bipush 41, 2) := by decide +kernel
theorem dX12_endsCall_30 : decode cX12_endsCall 30 = .ok (.invokevirtual 307, 3) := by decide +kernel
theorem dX12_endsCall_33 : decode cX12_endsCall 33 = .ok (.aload_n 0, 1) := by decide +kernel
theorem dX12_endsCall_34 : decode cX12_endsCall 34 = .ok (.dup, 1) := by decide +kernel
theorem dX12_endsCall_35 : decode cX12_endsCall 35 = .ok (.getfield 370, 3) := by decide +kernel
theorem dX12_endsCall_38 : decode cX12_endsCall 38 = .ok (.iconst 1, 1) := by decide +kernel
theorem dX12_endsCall_39 : decode cX12_endsCall 39 = .ok (.isub, 1) := by decide +kernel
theorem dX12_endsCall_40 : decode cX12_endsCall 40 = .ok (.putfield 370, 3) := by decide +kernel
theorem dX12_endsCall_43 : decode cX12_endsCall 43 = .ok (.iload_n 1, 1) := by decide +kernel
theorem dX12_endsCall_44 : decode cX12_endsCall 44 = .ok (.ireturn, 1) := by decide +kernel
theorem dX12_part_0 : decode cX12_part 0 = .ok (.aload_n 0, 1) := by decide +kernel
theorem dX12_part_1 : decode cX12_part 1 = .ok (.getfield 199, 3) := by decide +kernel
theorem dX12_part_4 : decode cX12_part 4 = .ok (.istore_n 1, 1) := by decide +kernel
theorem dX12_part_5 : decode cX12_part 5 = .ok (.aload_n 0, 1) := by decide +kernel
theorem dX12_part_6 : decode cX12_part 6 = .ok (.bipush 45, 2) := by decide +kernel
theorem dX12_part_8 : decode cX12_part 8 = .ok (.invokevirtual 247, 3) := by decide +kernel
theorem dX12_part_11 : decode cX12_part 11 = .ok (.ifCond .ne 21, 3) := by decide +kernel
theorem dX12_part_14 : decode cX12_part 14 = .ok (.aload_n 0, 1) := by decide +kernel
theorem dX12_part_15 : decode cX12_part 15 = .ok (.bipush 33, 2) := by decide +kernel
theorem dX12_part_17 : decode cX12_part 17 = .ok (.invokevirtual 247, 3) := by decide +kernel
theorem dX12_part_20 : decode cX12_part 20 = .ok (.ifCond .ne 12, 3) := by decide +kernel
theorem dX12_part_23 : decode cX12_part 23 = .ok (.aload_n 0, 1) := by decide +kernel
theorem dX12_part_24 : decode cX12_part 24 = .ok (.bipush 126, 2) := by decide +kernel
theorem dX12_part_26 : decode cX12_part 26 = .ok (.invokevirtual 247, 3) := by decide +kernel
theorem dX12_part_29 : decode cX12_part 29 = .ok (.ifCond .eq 78, 3) := by decide +kernel
theorem dX12_part_32 : decode cX12_part 32 = .ok (.aload_n 0, 1) := by decide +kernel
theorem dX12_part_33 : decode cX12_part 33 = .ok (.invokevirtual 271, 3) := by decide +kernel
theorem dX12_part_36 : decode cX12_part 36 = .ok (.aload_n 0, 1) := by decide +kernel
theorem dX12_part_37 : decode cX12_part 37 = .ok (.iload_n 1, 1) := by decide +kernel
theorem dX12_part_38 : decode cX12_part 38 = .ok (.invokevirtual 293, 3) := by decide +kernel
theorem dX12_part_41 : decode cX12_part 41 = .ok (.aload_n 0, 1) := by decide +kernel
theorem dX12_part_42 : decode cX12_part 42 = .ok (.iconst 5, 1) := by decide +kernel
theorem dX12_part_43 : decode cX12_part 43 = .ok (.invokevirtual 330, 3) := by decide +kernel
theorem dX12_part_46 : decode cX12_part 46 = .ok (.istore_n 2, 1) := by decide +kernel
theorem dX12_part_47 : decode cX12_part 47 = .ok (.aload_n 0, 1) := by decide +kernel
theorem dX12_part_48 : decode cX12_part 48 = .ok (.getfield 65, 3) := by decide +kernel
theorem dX12_part_51 : decode cX12_part 51 = .ok (.iload_n 2, 1) := by decide +kernel
theorem dX12_part_52 : decode cX12_part 52 = .ok (.aload_n 0, 1) := by decide +kernel
theorem dX12_part_53 : decode cX12_part 53 = .ok (.getfield 202, 3) := by decide +kernel
theorem dX12_part_56 : decode cX12_part 56 = .ok (.ldc2_w 404, 3) := by decide +kernel
theorem dX12_part_59 : decode cX12_part 59 = .ok (.lcmp, 1) := by decide +kernel
theorem dX12_part_60 : decode cX12_part 60 = .ok (.ifCond .ne 8, 3) := by decide +kernel
theorem dX12_part_63 : decode cX12_part 63 = .ok (.bipush 24, 2) := by decide +kernel
theorem dX12_part_65 : decode cX12_part 65 = .ok (.goto 21, 3) := by decide +kernel
theorem dX12_part_68 : decode cX12_part 68 = .ok (.aload_n 0, 1) := by decide +kernel
theorem dX12_part_69 : decode cX12_part 69 = .ok (.getfield 202, 3) := by decide +kernel
theorem dX12_part_72 : decode cX12_part 72 = .ok (.ldc2_w 406, 3) := by decide +kernel
theorem dX12_part_75 : decode cX12_part 75 = .ok (.lcmp, 1) := by decide +kernel
theorem dX12_part_76 : decode cX12_part 76 = .ok (.ifCond .ne 8, 3) := by decide +kernel
theorem dX12_part_79 : decode cX12_part 79 = .ok (.bipush 25, 2) := by decide +kernel
theorem dX12_part_81 : decode cX12_part 81 = .ok (.goto 5, 3) := by decide +kernel
theorem dX12_part_84 : decode cX12_part 84 = .ok (.bipush 26, 2) := by decide +kernel
theorem dX12_part_86 : decode cX12_part 86 = .ok (.iastore, 1) := by decide +kernel
theorem dX12_part_87 : decode cX12_part 87 = .ok (.aload_n 0, 1) := by decide +kernel
theorem dX12_part_88 : decode cX12_part 88 = .ok (.invokevirtual 243, 3) := by decide +kernel
theorem dX12_part_91 : decode cX12_part 91 = .ok (.ifCond .eq 14, 3) := by decide +kernel
theorem dX12_part_94 : decode cX12_part 94 = .ok (.aload_n 0, 1) := by decide +kernel
theorem dX12_part_95 : decode cX12_part 95 = .ok (.iconst 4, 1) := by decide +kernel
theorem dX12_part_96 : decode cX12_part 96 = .ok (.iload_n 2, 1) := by decide +kernel
theorem dX12_part_97 : decode cX12_part 97 = .ok (.iconst (-1), 1) := by decide +kernel
theorem dX12_part_98 : decode cX12_part 98 = .ok (.invokevirtual 373, 3) := by decide +kernel
theorem dX12_part_101 : decode cX12_part 101 = .ok (.aload_n 0, 1) := by decide +kernel
theorem dX12_part_102 : decode cX12_part 102 = .ok (.invokevirtual 250, 3) := by decide +kernel
theorem dX12_part_105 : decode cX12_part 105 = .ok (.iconst (-1), 1) := by decide +kernel
theorem dX12_part_106 : decode cX12_part 106 = .ok (.ireturn, 1) := by decide +kernel
theorem dX12_part_107 : decode cX12_part 107 = .ok (.aload_n 0, 1) := by decide +kernel
theorem dX12_part_108 : decode cX12_part 108 = .ok (.getfield 206, 3) := by decide +kernel
theorem dX12_part_111 : decode cX12_part 111 = .ok (.iconst 2, 1) := by decide +kernel
theorem dX12_part_112 : decode cX12_part 112 = .ok (.if_icmp .ne 49, 3) := by decide +kernel
theorem dX12_part_115 : decode cX12_part 115 = .ok (.aload_n 0, 1) := by decide +kernel
theorem dX12_part_116 : decode cX12_part 116 = .ok (.iload_n 1, 1) := by decide +kernel
theorem dX12_part_117 : decode cX12_part 117 = .ok (.invokevirtual 293, 3) := by decide +kernel
theorem dX12_part_120 : decode cX12_part 120 = .ok (.aload_n 0, 1) := by decide +kernel
theorem dX12_part_121 : decode cX12_part 121 = .ok (.getfield 202, 3) := by decide +kernel
theorem dX12_part_124 : decode cX12_part 124 = .ok (.ldc2_w 408, 3) := by decide +kernel
theorem dX12_part_127 : decode cX12_part 127 = .ok (.lcmp, 1) := by decide +kernel
theorem dX12_part_128 : decode cX12_part 128 = .ok (.ifCond .le 10, 3) := by decide +kernel
theorem dX12_part_131 : decode cX12_part 131 = .ok (.aload_n 0, 1) := by decide +kernel
theorem dX12_part_132 : decode cX12_part 132 = .ok (.bipush 11, 2) := by decide +kernel
theorem dX12_part_134 : decode cX12_part 134 = .ok (.iload_n 1, 1) := by decide +kernel
theorem dX12_part_135 : decode cX12_part 135 = .ok (.invokevirtual 239, 3) := by decide +kernel
theorem dX12_part_138 : decode cX12_part 138 = .ok (.aload_n 0, 1) := by decide +kernel
theorem dX12_part_139 : decode cX12_part 139 = .ok (.iconst 1, 1) := by decide +kernel
theorem dX12_part_140 : decode cX12_part 140 = .ok (.invokevirtual 330, 3) := by decide +kernel
theorem dX12_part_143 : decode cX12_part 143 = .ok (.istore_n 2, 1) := by decide +kernel
theorem dX12_part_144 : decode cX12_part 144 = .ok (.aload_n 0, 1) := by decide +kernel
theorem dX12_part_145 : decode cX12_part 145 = .ok (.getfield 65, 3) := by decide +kernel
theorem dX12_part_148 : decode cX12_part 148 = .ok (.iload_n 2, 1) := by decide +kernel
theorem dX12_part_149 : decode cX12_part 149 = .ok (.aload_n 0, 1) := by decide +kernel
theorem dX12_part_150 : decode cX12_part 150 = .ok (.getfield 202, 3) := by decide +kernel
theorem dX12_part_153 : decode cX12_part 153 = .ok (.l2i, 1) := by decide +kernel
theorem dX12_part_154 : decode cX12_part 154 = .ok (.iastore, 1) := by decide +kernel
theorem dX12_part_155 : decode cX12_part 155 = .ok (.aload_n 0, 1) := by decide +kernel
theorem dX12_part_156 : decode cX12_part 156 = .ok (.invokevirtual 250, 3) := by decide +kernel
theorem dX12_part_159 : decode cX12_part 159 = .ok (.iload_n 2, 1) := by decide +kernel
theorem dX12_part_160 : decode cX12_part 160 = .ok (.ireturn, 1) := by decide +kernel
theorem dX12_part_161 : decode cX12_part 161 = .ok (.aload_n 0, 1) := by decide +kernel
theorem dX12_part_162 : decode cX12_part 162 = .ok (.bipush 6, 2) := by decide +kernel
theorem dX12_part_164 : decode cX12_part 164 = .ok (.invokevirtual 290, 3) := by decide +kernel
theorem dX12_part_167 : decode cX12_part 167 = .ok (.ifCond .eq 33, 3) := by decide +kernel
theorem dX12_part_170 : decode cX12_part 170 = .ok (.aload_n 0, 1) := by decide +kernel
theorem dX12_part_171 : decode cX12_part 171 = .ok (.iload_n 1, 1) := by decide +kernel
theorem dX12_part_172 : decode cX12_part 172 = .ok (.invokevirtual 293, 3) := by decide +kernel
theorem dX12_part_175 : decode cX12_part 175 = .ok (.aload_n 0, 1) := by decide +kernel
theorem dX12_part_176 : decode cX12_part 176 = .ok (.bipush 10, 2) := by decide +kernel
theorem dX12_part_178 : decode cX12_part 178 = .ok (.invokevirtual 330, 3) := by decide +kernel
theorem dX12_part_181 : decode cX12_part 181 = .ok (.istore_n 2, 1) := by decide +kernel
theorem dX12_part_182 : decode cX12_part 182 = .ok (.aload_n 0, 1) := by decide +kernel
theorem dX12_part_183 : decode cX12_part 183 = .ok (.invokevirtual 250, 3) := by decide +kernel
theorem dX12_part_186 : decode cX12_part 186 = .ok (.aload_n 0, 1) := by decide +kernel
theorem dX12_part_187 : decode cX12_part 187 = .ok (.bipush 40, 2) := by decide +kernel
theorem dX12_part_189 : decode cX12_part 189 = .ok (.invokevirtual 300, 3) := by decide +kernel
theorem dX12_part_192 : decode cX12_part 192 = .ok (.aload_n 0, 1) := by decide +kernel
theorem dX12_part_193 : decode cX12_part 193 = .ok (.bipush 41, 2) := by decide +kernel
theorem dX12_part_195 : decode cX12_part 195 = .ok (.invokevirtual 307, 3) := by decide +kernel
theorem dX12_part_198 : decode cX12_part 198 = .ok (.iload_n 2, 1) := by decide +kernel
theorem dX12_part_199 : decode cX12_part 199 = .ok (.ireturn, 1) := by decide +kernel
theorem dX12_part_200 : decode cX12_part 200 = .ok (.aload_n 0, 1) := by decide +kernel
theorem dX12_part_201 : decode cX12_part 201 = .ok (.bipush 40, 2) := by decide +kernel
theorem dX12_part_203 : decode cX12_part 203 = .ok (.invokevirtual 247, 3) := by decide +kernel
theorem dX12_part_206 : decode cX12_part 206 = .ok (.ifCond .eq 25, 3) := by decide +kernel
theorem dX12_part_209 : decode cX12_part 209 = .ok (.aload_n 0, 1) := by decide +kernel
theorem dX12_part_210 : decode cX12_part 210 = .ok (.bipush 40, 2) := by decide +kernel
theorem dX12_part_212 : decode cX12_part 212 = .ok (.invokevirtual 300, 3) := by decide +kernel
theorem dX12_part_215 : decode cX12_part 215 = .ok (.aload_n 0, 1) := by decide +kernel
theorem dX12_part_216 : decode cX12_part 216 = .ok (.invokevirtual 243, 3) := by decide +kernel
theorem dX12_part_219 : decode cX12_part 219 = .ok (.ifCond .eq 10, 3) := by decide +kernel
theorem dX12_part_222 : decode cX12_part 222 = .ok (.aload_n 0, 1) := by decide +kernel
theorem dX12_part_223 : decode cX12_part 223 = .ok (.iconst 1, 1) := by decide +kernel
theorem dX12_part_224 : decode cX12_part 224 = .ok (.iconst (-1), 1) := by decide +kernel
theorem dX12_part_225 : decode cX12_part 225 = .ok (.iconst (-1), 1) := by decide +kernel
theorem dX12_part_226 : decode cX12_part 226 = .ok (.invokevirtual 373, 3) := by decide +kernel
theorem dX12_part_229 : decode cX12_part 229 = .ok (.iconst (-1), 1) := by decide +kernel
theorem dX12_part_230 : decode cX12_part 230 = .ok (.ireturn, 1) := by decide +kernel
theorem dX12_part_231 : decode cX12_part 231 = .ok (.aload_n 0, 1) := by decide +kernel
theorem dX12_part_232 : decode cX12_part 232 = .ok (.getfield 206, 3) := by decide +kernel
theorem dX12_part_235 : decode cX12_part 235 = .ok (.iconst 1, 1) := by decide +kernel
theorem dX12_part_236 : decode cX12_part 236 = .ok (.if_icmp .ne 8, 3) := by decide +kernel
theorem dX12_part_239 : decode cX12_part 239 = .ok (.aload_n 0, 1) := by decide +kernel
theorem dX12_part_240 : decode cX12_part 240 = .ok (.invokevirtual 410, 3) := by decide +kernel
theorem dX12_part_243 : decode cX12_part 243 = .ok (.ireturn, 1) := by decide +kernel
theorem dX12_part_244 : decode cX12_part 244 = .ok (.aload_n 0, 1) := by decide +kernel
theorem dX12_part_245 : decode cX12_part 245 = .ok (.invokevirtual 253, 3) := by decide +kernel
theorem dX12_part_248 : decode cX12_part 248 = .ok (.iconst (-1), 1) := by decide +kernel
theorem dX12_part_249 : decode cX12_part 249 = .ok (.ireturn, 1) := by decide +kernel
theorem dX12_follows_0 : decode cX12_follows 0 = .ok (.aload_n 0, 1) := by decide +kernel
theorem dX12_follows_1 : decode cX12_follows 1 = .ok (.getfield 370, 3) := by decide +kernel
theorem dX12_follows_4 : decode cX12_follows 4 = .ok (.iconst 1, 1) := by decide +kernel
theorem dX12_follows_5 : decode cX12_follows 5 = .ok (.isub, 1) := by decide +kernel
theorem dX12_follows_6 : decode cX12_follows 6 = .ok (.istore_n 1, 1) := by decide +kernel
theorem dX12_follows_7 : decode cX12_follows 7 = .ok (.aload_n 0, 1) := by decide +kernel
theorem dX12_follows_8 : decode cX12_follows 8 = .ok (.getfield 96, 3) := by decide +kernel
theorem dX12_follows_11 : decode cX12_follows 11 = .ok (.iload_n 1, 1) := by decide +kernel
theorem dX12_follows_12 : decode cX12_follows 12 = .ok (.iaload, 1) := by decide +kernel
theorem dX12_follows_13 : decode cX12_follows 13 = .ok (.iconst 4, 1) := by decide +kernel
theorem dX12_follows_14 : decode cX12_follows 14 = .ok (.if_icmp .eq 13, 3) := by decide +kernel
theorem dX12_follows_17 : decode cX12_follows 17 = .ok (.aload_n 0, 1) := by decide +kernel
theorem dX12_follows_18 : decode cX12_follows 18 = .ok (.getfield 96, 3) := by decide +kernel
theorem dX12_follows_21 : decode cX12_follows 21 = .ok (.iload_n 1, 1) := by decide +kernel
theorem dX12_follows_22 : decode cX12_follows 22 = .ok (.iaload, 1) := by decide +kernel
theorem dX12_follows_23 : decode cX12_follows 23 = .ok (.iconst 5, 1) := by decide +kernel
theorem dX12_follows_24 : decode cX12_follows 24 = .ok (.if_icmp .ne 9, 3) := by decide +kernel
theorem dX12_follows_27 : decode cX12_follows 27 = .ok (.iinc 1 (-1), 3) := by decide +kernel
theorem dX12_follows_30 : decode cX12_follows 30 = .ok (.goto (-23), 3) := by decide +kernel
theorem dX12_follows_33 : decode cX12_follows 33 = .ok (.aload_n 0, 1) := by decide +kernel
theorem dX12_follows_34 : decode cX12_follows 34 = .ok (.getfield 96, 3) := by decide +kernel
theorem dX12_follows_37 : decode cX12_follows 37 = .ok (.iload_n 1, 1) := by decide +kernel
theorem dX12_follows_38 : decode cX12_follows 38 = .ok (.iaload, 1) := by decide +kernel
theorem dX12_follows_39 : decode cX12_follows 39 = .ok (.ifCond .ne 12, 3) := by decide +kernel
theorem dX12_follows_42 : decode cX12_follows 42 = .ok (.aload_n 0, 1) := by decide +kernel
theorem dX12_follows_43 : decode cX12_follows 43 = .ok (.getfield 102, 3) := by decide +kernel
theorem dX12_follows_46 : decode cX12_follows 46 = .ok (.iload_n 1, 1) := by decide +kernel
theorem dX12_follows_47 : decode cX12_follows 47 = .ok (.iaload, 1) := by decide +kernel
theorem dX12_follows_48 : decode cX12_follows 48 = .ok (.goto 20, 3) := by decide +kernel
theorem dX12_follows_51 : decode cX12_follows 51 = .ok (.aload_n 0, 1) := by decide +kernel
theorem dX12_follows_52 : decode cX12_follows 52 = .ok (.getfield 96, 3) := by decide +kernel
theorem dX12_follows_55 : decode cX12_follows 55 = .ok (.iload_n 1, 1) := by decide +kernel
theorem dX12_follows_56 : decode cX12_follows 56 = .ok (.iaload, 1) := by decide +kernel
theorem dX12_follows_57 : decode cX12_follows 57 = .ok (.iconst 2, 1) := by decide +kernel
theorem dX12_follows_58 : decode cX12_follows 58 = .ok (.if_icmp .ne 8, 3) := by decide +kernel
theorem dX12_follows_61 : decode cX12_follows 61 = .ok (.bipush 93, 2) := by decide +kernel
theorem dX12_follows_63 : decode cX12_follows 63 = .ok (.goto 5, 3) := by decide +kernel
theorem dX12_follows_66 : decode cX12_follows 66 = .ok (.bipush 41, 2) := by decide +kernel
theorem dX12_follows_68 : decode cX12_follows 68 = .ok (.istore_n 2, 1) := by decide +kernel
theorem dX12_follows_69 : decode cX12_follows 69 = .ok (.aload_n 0, 1) := by decide +kernel
theorem dX12_follows_70 : decode cX12_follows 70 = .ok (.getfield 206, 3) := by decide +kernel
theorem dX12_follows_73 : decode cX12_follows 73 = .ok (.iconst 4, 1) := by decide +kernel
theorem dX12_follows_74 : decode cX12_follows 74 = .ok (.if_icmp .ne 48, 3) := by decide +kernel
theorem dX12_follows_77 : decode cX12_follows 77 = .ok (.aload_n 0, 1) := by decide +kernel
theorem dX12_follows_78 : decode cX12_follows 78 = .ok (.getfield 202, 3) := by decide +kernel
theorem dX12_follows_81 : decode cX12_follows 81 = .ok (.invokestatic 386, 3) := by decide +kernel
theorem dX12_follows_84 : decode cX12_follows 84 = .ok (.ifCond .ge 34, 3) := by decide +kernel
theorem dX12_follows_87 : decode cX12_follows 87 = .ok (.aload_n 0, 1) := by decide +kernel
theorem dX12_follows_88 : decode cX12_follows 88 = .ok (.getfield 202, 3) := by decide +kernel
theorem dX12_follows_91 : decode cX12_follows 91 = .ok (.iload_n 2, 1) := by decide +kernel
theorem dX12_follows_92 : decode cX12_follows 92 = .ok (.i2l, 1) := by decide +kernel
theorem dX12_follows_93 : decode cX12_follows 93 = .ok (.lcmp, 1) := by decide +kernel
theorem dX12_follows_94 : decode cX12_follows 94 = .ok (.ifCond .eq 24, 3) := by decide +kernel
theorem dX12_follows_97 : decode cX12_follows 97 = .ok (.aload_n 0, 1) := by decide +kernel
theorem dX12_follows_98 : decode cX12_follows 98 = .ok (.getfield 96, 3) := by decide +kernel
theorem dX12_follows_101 : decode cX12_follows 101 = .ok (.iload_n 1, 1) := by decide +kernel
theorem dX12_follows_102 : decode cX12_follows 102 = .ok (.iaload, 1) := by decide +kernel
theorem dX12_follows_103 : decode cX12_follows 103 = .ok (.iconst 3, 1) := by decide +kernel
theorem dX12_follows_104 : decode cX12_follows 104 = .ok (.if_icmp .ne 18, 3) := by decide +kernel
theorem dX12_follows_107 : decode cX12_follows 107 = .ok (.aload_n 0, 1) := by decide +kernel
theorem dX12_follows_108 : decode cX12_follows 108 = .ok (.getfield 202, 3) := by decide +kernel
theorem dX12_follows_111 : decode cX12_follows 111 = .ok (.ldc2_w 413, 3) := by decide +kernel
theorem dX12_follows_114 : decode cX12_follows 114 = .ok (.lcmp, 1) := by decide +kernel
theorem dX12_follows_115 : decode cX12_follows 115 = .ok (.ifCond .ne 7, 3) := by decide +kernel
theorem dX12_follows_118 : decode cX12_follows 118 = .ok (.iconst 1, 1) := by decide +kernel
theorem dX12_follows_119 : decode cX12_follows 119 = .ok (.goto 4, 3) := by decide +kernel
theorem dX12_follows_122 : decode cX12_follows 122 = .ok (.iconst 0, 1) := by decide +kernel
theorem dX12_follows_123 : decode cX12_follows 123 = .ok (.ireturn, 1) := by decide +kernel
theorem dX12_nameIn_0 : decode cX12_nameIn 0 = .ok (.aload_n 0, 1) := by decide +kernel
theorem dX12_nameIn_1 : decode cX12_nameIn 1 = .ok (.getfield 199, 3) := by decide +kernel
theorem dX12_nameIn_4 : decode cX12_nameIn 4 = .ok (.istore_n 1, 1) := by decide +kernel
theorem dX12_nameIn_5 : decode cX12_nameIn 5 = .ok (.aload_n 0, 1) := by decide +kernel
theorem dX12_nameIn_6 : decode cX12_nameIn 6 = .ok (.aload_n 0, 1) := by decide +kernel
theorem dX12_nameIn_7 : decode cX12_nameIn 7 = .ok (.getfield 202, 3) := by decide +kernel
theorem dX12_nameIn_10 : decode cX12_nameIn 10 = .ok (.invokevirtual 324, 3) := by decide +kernel
theorem dX12_nameIn_13 : decode cX12_nameIn 13 = .ok (.istore_n 2, 1) := by decide +kernel
theorem dX12_nameIn_14 : decode cX12_nameIn 14 = .ok (.aload_n 0, 1) := by decide +kernel
theorem dX12_nameIn_15 : decode cX12_nameIn 15 = .ok (.aload_n 0, 1) := by decide +kernel
theorem dX12_nameIn_16 : decode cX12_nameIn 16 = .ok (.getfield 202, 3) := by decide +kernel
theorem dX12_nameIn_19 : decode cX12_nameIn 19 = .ok (.invokevirtual 286, 3) := by decide +kernel
theorem dX12_nameIn_22 : decode cX12_nameIn 22 = .ok (.istore_n 3, 1) := by decide +kernel
theorem dX12_nameIn_23 : decode cX12_nameIn 23 = .ok (.iload_n 2, 1) := by decide +kernel
theorem dX12_nameIn_24 : decode cX12_nameIn 24 = .ok (.ifCond .ge 15, 3) := by decide +kernel
theorem dX12_nameIn_27 : decode cX12_nameIn 27 = .ok (.iload_n 3, 1) := by decide +kernel
theorem dX12_nameIn_28 : decode cX12_nameIn 28 = .ok (.ifCond .ge 11, 3) := by decide +kernel
theorem dX12_nameIn_31 : decode cX12_nameIn 31 = .ok (.aload_n 0, 1) := by decide +kernel
theorem dX12_nameIn_32 : decode cX12_nameIn 32 = .ok (.iconst 3, 1) := by decide +kernel
theorem dX12_nameIn_33 : decode cX12_nameIn 33 = .ok (.iload_n 1, 1) := by decide +kernel
theorem dX12_nameIn_34 : decode cX12_nameIn 34 = .ok (.invokevirtual 239, 3) := by decide +kernel
theorem dX12_nameIn_37 : decode cX12_nameIn 37 = .ok (.iconst (-1), 1) := by decide +kernel
theorem dX12_nameIn_38 : decode cX12_nameIn 38 = .ok (.ireturn, 1) := by decide +kernel
theorem dX12_nameIn_39 : decode cX12_nameIn 39 = .ok (.aload_n 0, 1) := by decide +kernel
theorem dX12_nameIn_40 : decode cX12_nameIn 40 = .ok (.iload_n 1, 1) := by decide +kernel
theorem dX12_nameIn_41 : decode cX12_nameIn 41 = .ok (.invokevirtual 293, 3) := by decide +kernel
theorem dX12_nameIn_44 : decode cX12_nameIn 44 = .ok (.aload_n 0, 1) := by decide +kernel
theorem dX12_nameIn_45 : decode cX12_nameIn 45 = .ok (.invokevirtual 243, 3) := by decide +kernel
theorem dX12_nameIn_48 : decode cX12_nameIn 48 = .ok (.ifCond .ne 5, 3) := by decide +kernel
theorem dX12_nameIn_51 : decode cX12_nameIn 51 = .ok (.iconst (-1), 1) := by decide +kernel
theorem dX12_nameIn_52 : decode cX12_nameIn 52 = .ok (.ireturn, 1) := by decide +kernel
theorem dX12_nameIn_53 : decode cX12_nameIn 53 = .ok (.aload_n 0, 1) := by decide +kernel
theorem dX12_nameIn_54 : decode cX12_nameIn 54 = .ok (.invokevirtual 250, 3) := by decide +kernel
theorem dX12_nameIn_57 : decode cX12_nameIn 57 = .ok (.iload_n 2, 1) := by decide +kernel
theorem dX12_nameIn_58 : decode cX12_nameIn 58 = .ok (.ifCond .lt 7, 3) := by decide +kernel
theorem dX12_nameIn_61 : decode cX12_nameIn 61 = .ok (.iconst 0, 1) := by decide +kernel
theorem dX12_nameIn_62 : decode cX12_nameIn 62 = .ok (.goto 9, 3) := by decide +kernel
theorem dX12_nameIn_65 : decode cX12_nameIn 65 = .ok (.aload_n 0, 1) := by decide +kernel
theorem dX12_nameIn_66 : decode cX12_nameIn 66 = .ok (.getfield 32, 3) := by decide +kernel
theorem dX12_nameIn_69 : decode cX12_nameIn 69 = .ok (.iload_n 3, 1) := by decide +kernel
theorem dX12_nameIn_70 : decode cX12_nameIn 70 = .ok (.iaload, 1) := by decide +kernel
theorem dX12_nameIn_71 : decode cX12_nameIn 71 = .ok (.istore 4, 2) := by decide +kernel
theorem dX12_nameIn_73 : decode cX12_nameIn 73 = .ok (.aload_n 0, 1) := by decide +kernel
theorem dX12_nameIn_74 : decode cX12_nameIn 74 = .ok (.bipush 91, 2) := by decide +kernel
theorem dX12_nameIn_76 : decode cX12_nameIn 76 = .ok (.invokevirtual 247, 3) := by decide +kernel
theorem dX12_nameIn_79 : decode cX12_nameIn 79 = .ok (.istore 5, 2) := by decide +kernel
theorem dX12_nameIn_81 : decode cX12_nameIn 81 = .ok (.iload 5, 2) := by decide +kernel
theorem dX12_nameIn_83 : decode cX12_nameIn 83 = .ok (.ifCond .ne 12, 3) := by decide +kernel
theorem dX12_nameIn_86 : decode cX12_nameIn 86 = .ok (.aload_n 0, 1) := by decide +kernel
theorem dX12_nameIn_87 : decode cX12_nameIn 87 = .ok (.bipush 40, 2) := by decide +kernel
theorem dX12_nameIn_89 : decode cX12_nameIn 89 = .ok (.invokevirtual 247, 3) := by decide +kernel
theorem dX12_nameIn_92 : decode cX12_nameIn 92 = .ok (.ifCond .eq 46, 3) := by decide +kernel
theorem dX12_nameIn_95 : decode cX12_nameIn 95 = .ok (.iload 4, 2) := by decide +kernel
theorem dX12_nameIn_97 : decode cX12_nameIn 97 = .ok (.iload 5, 2) := by decide +kernel
theorem dX12_nameIn_99 : decode cX12_nameIn 99 = .ok (.ifCond .eq 7, 3) := by decide +kernel
theorem dX12_nameIn_102 : decode cX12_nameIn 102 = .ok (.iconst 1, 1) := by decide +kernel
theorem dX12_nameIn_103 : decode cX12_nameIn 103 = .ok (.goto 4, 3) := by decide +kernel
theorem dX12_nameIn_106 : decode cX12_nameIn 106 = .ok (.iconst 2, 1) := by decide +kernel
theorem dX12_nameIn_107 : decode cX12_nameIn 107 = .ok (.if_icmp .eq 11, 3) := by decide +kernel
theorem dX12_nameIn_110 : decode cX12_nameIn 110 = .ok (.aload_n 0, 1) := by decide +kernel
theorem dX12_nameIn_111 : decode cX12_nameIn 111 = .ok (.iconst 5, 1) := by decide +kernel
theorem dX12_nameIn_112 : decode cX12_nameIn 112 = .ok (.iload_n 1, 1) := by decide +kernel
theorem dX12_nameIn_113 : decode cX12_nameIn 113 = .ok (.invokevirtual 239, 3) := by decide +kernel
theorem dX12_nameIn_116 : decode cX12_nameIn 116 = .ok (.iconst (-1), 1) := by decide +kernel
theorem dX12_nameIn_117 : decode cX12_nameIn 117 = .ok (.ireturn, 1) := by decide +kernel
theorem dX12_nameIn_118 : decode cX12_nameIn 118 = .ok (.iload 5, 2) := by decide +kernel
theorem dX12_nameIn_120 : decode cX12_nameIn 120 = .ok (.ifCond .eq 11, 3) := by decide +kernel
theorem dX12_nameIn_123 : decode cX12_nameIn 123 = .ok (.aload_n 0, 1) := by decide +kernel
theorem dX12_nameIn_124 : decode cX12_nameIn 124 = .ok (.iload_n 3, 1) := by decide +kernel
theorem dX12_nameIn_125 : decode cX12_nameIn 125 = .ok (.invokevirtual 415, 3) := by decide +kernel
theorem dX12_nameIn_128 : decode cX12_nameIn 128 = .ok (.goto 9, 3) := by decide +kernel
theorem dX12_nameIn_131 : decode cX12_nameIn 131 = .ok (.aload_n 0, 1) := by decide +kernel
theorem dX12_nameIn_132 : decode cX12_nameIn 132 = .ok (.iload_n 1, 1) := by decide +kernel
theorem dX12_nameIn_133 : decode cX12_nameIn 133 = .ok (.iload_n 3, 1) := by decide +kernel
theorem dX12_nameIn_134 : decode cX12_nameIn 134 = .ok (.invokevirtual 380, 3) := by decide +kernel
theorem dX12_nameIn_137 : decode cX12_nameIn 137 = .ok (.ireturn, 1) := by decide +kernel
theorem dX12_nameIn_138 : decode cX12_nameIn 138 = .ok (.aload_n 0, 1) := by decide +kernel
theorem dX12_nameIn_139 : decode cX12_nameIn 139 = .ok (.invokevirtual 418, 3) := by decide +kernel
theorem dX12_nameIn_142 : decode cX12_nameIn 142 = .ok (.ifCond .ne 9, 3) := by decide +kernel
theorem dX12_nameIn_145 : decode cX12_nameIn 145 = .ok (.aload_n 0, 1) := by decide +kernel
theorem dX12_nameIn_146 : decode cX12_nameIn 146 = .ok (.invokevirtual 253, 3) := by decide +kernel
theorem dX12_nameIn_149 : decode cX12_nameIn 149 = .ok (.iconst (-1), 1) := by decide +kernel
theorem dX12_nameIn_150 : decode cX12_nameIn 150 = .ok (.ireturn, 1) := by decide +kernel
theorem dX12_nameIn_151 : decode cX12_nameIn 151 = .ok (.iload 4, 2) := by decide +kernel
theorem dX12_nameIn_153 : decode cX12_nameIn 153 = .ok (.ifCond .eq 11, 3) := by decide +kernel
theorem dX12_nameIn_156 : decode cX12_nameIn 156 = .ok (.aload_n 0, 1) := by decide +kernel
theorem dX12_nameIn_157 : decode cX12_nameIn 157 = .ok (.iconst 5, 1) := by decide +kernel
theorem dX12_nameIn_158 : decode cX12_nameIn 158 = .ok (.iload_n 1, 1) := by decide +kernel
theorem dX12_nameIn_159 : decode cX12_nameIn 159 = .ok (.invokevirtual 239, 3) := by decide +kernel
theorem dX12_nameIn_162 : decode cX12_nameIn 162 = .ok (.iconst (-1), 1) := by decide +kernel
theorem dX12_nameIn_163 : decode cX12_nameIn 163 = .ok (.ireturn, 1) := by decide +kernel
theorem dX12_nameIn_164 : decode cX12_nameIn 164 = .ok (.aload_n 0, 1) := by decide +kernel
theorem dX12_nameIn_165 : decode cX12_nameIn 165 = .ok (.iload_n 2, 1) := by decide +kernel
theorem dX12_nameIn_166 : decode cX12_nameIn 166 = .ok (.ifCond .lt 7, 3) := by decide +kernel
theorem dX12_nameIn_169 : decode cX12_nameIn 169 = .ok (.iconst 3, 1) := by decide +kernel
theorem dX12_nameIn_170 : decode cX12_nameIn 170 = .ok (.goto 4, 3) := by decide +kernel
theorem dX12_nameIn_173 : decode cX12_nameIn 173 = .ok (.iconst 2, 1) := by decide +kernel
theorem dX12_nameIn_174 : decode cX12_nameIn 174 = .ok (.invokevirtual 330, 3) := by decide +kernel
theorem dX12_nameIn_177 : decode cX12_nameIn 177 = .ok (.istore 6, 2) := by decide +kernel
theorem dX12_nameIn_179 : decode cX12_nameIn 179 = .ok (.aload_n 0, 1) := by decide +kernel
theorem dX12_nameIn_180 : decode cX12_nameIn 180 = .ok (.getfield 65, 3) := by decide +kernel
theorem dX12_nameIn_183 : decode cX12_nameIn 183 = .ok (.iload 6, 2) := by decide +kernel
theorem dX12_nameIn_185 : decode cX12_nameIn 185 = .ok (.iload_n 2, 1) := by decide +kernel
theorem dX12_nameIn_186 : decode cX12_nameIn 186 = .ok (.ifCond .lt 12, 3) := by decide +kernel
theorem dX12_nameIn_189 : decode cX12_nameIn 189 = .ok (.aload_n 0, 1) := by decide +kernel
theorem dX12_nameIn_190 : decode cX12_nameIn 190 = .ok (.getfield 50, 3) := by decide +kernel
theorem dX12_nameIn_193 : decode cX12_nameIn 193 = .ok (.iload_n 2, 1) := by decide +kernel
theorem dX12_nameIn_194 : decode cX12_nameIn 194 = .ok (.iaload, 1) := by decide +kernel
theorem dX12_nameIn_195 : decode cX12_nameIn 195 = .ok (.goto 9, 3) := by decide +kernel
theorem dX12_nameIn_198 : decode cX12_nameIn 198 = .ok (.aload_n 0, 1) := by decide +kernel
theorem dX12_nameIn_199 : decode cX12_nameIn 199 = .ok (.getfield 35, 3) := by decide +kernel
theorem dX12_nameIn_202 : decode cX12_nameIn 202 = .ok (.iload_n 3, 1) := by decide +kernel
theorem dX12_nameIn_203 : decode cX12_nameIn 203 = .ok (.iaload, 1) := by decide +kernel
theorem dX12_nameIn_204 : decode cX12_nameIn 204 = .ok (.iastore, 1) := by decide +kernel
theorem dX12_nameIn_205 : decode cX12_nameIn 205 = .ok (.iload 6, 2) := by decide +kernel
theorem dX12_nameIn_207 : decode cX12_nameIn 207 = .ok (.ireturn, 1) := by decide +kernel
theorem dX12_itemOf_0 : decode cX12_itemOf 0 = .ok (.aload_n 0, 1) := by decide +kernel
theorem dX12_itemOf_1 : decode cX12_itemOf 1 = .ok (.iconst 4, 1) := by decide +kernel
theorem dX12_itemOf_2 : decode cX12_itemOf 2 = .ok (.invokevirtual 330, 3) := by decide +kernel
theorem dX12_itemOf_5 : decode cX12_itemOf 5 = .ok (.istore_n 2, 1) := by decide +kernel
theorem dX12_itemOf_6 : decode cX12_itemOf 6 = .ok (.aload_n 0, 1) := by decide +kernel
theorem dX12_itemOf_7 : decode cX12_itemOf 7 = .ok (.getfield 65, 3) := by decide +kernel
theorem dX12_itemOf_10 : decode cX12_itemOf 10 = .ok (.iload_n 2, 1) := by decide +kernel
theorem dX12_itemOf_11 : decode cX12_itemOf 11 = .ok (.aload_n 0, 1) := by decide +kernel
theorem dX12_itemOf_12 : decode cX12_itemOf 12 = .ok (.getfield 35, 3) := by decide +kernel
theorem dX12_itemOf_15 : decode cX12_itemOf 15 = .ok (.iload_n 1, 1) := by decide +kernel
theorem dX12_itemOf_16 : decode cX12_itemOf 16 = .ok (.iaload, 1) := by decide +kernel
theorem dX12_itemOf_17 : decode cX12_itemOf 17 = .ok (.iastore, 1) := by decide +kernel
theorem dX12_itemOf_18 : decode cX12_itemOf 18 = .ok (.aload_n 0, 1) := by decide +kernel
theorem dX12_itemOf_19 : decode cX12_itemOf 19 = .ok (.getfield 68, 3) := by decide +kernel
theorem dX12_itemOf_22 : decode cX12_itemOf 22 = .ok (.iload_n 2, 1) := by decide +kernel
theorem dX12_itemOf_23 : decode cX12_itemOf 23 = .ok (.aload_n 0, 1) := by decide +kernel
theorem dX12_itemOf_24 : decode cX12_itemOf 24 = .ok (.getfield 38, 3) := by decide +kernel
theorem dX12_itemOf_27 : decode cX12_itemOf 27 = .ok (.iload_n 1, 1) := by decide +kernel
theorem dX12_itemOf_28 : decode cX12_itemOf 28 = .ok (.iaload, 1) := by decide +kernel
theorem dX12_itemOf_29 : decode cX12_itemOf 29 = .ok (.iastore, 1) := by decide +kernel
theorem dX12_itemOf_30 : decode cX12_itemOf 30 = .ok (.aload_n 0, 1) := by decide +kernel
theorem dX12_itemOf_31 : decode cX12_itemOf 31 = .ok (.bipush 91, 2) := by decide +kernel
theorem dX12_itemOf_33 : decode cX12_itemOf 33 = .ok (.invokevirtual 300, 3) := by decide +kernel
theorem dX12_itemOf_36 : decode cX12_itemOf 36 = .ok (.aload_n 0, 1) := by decide +kernel
theorem dX12_itemOf_37 : decode cX12_itemOf 37 = .ok (.invokevirtual 243, 3) := by decide +kernel
theorem dX12_itemOf_40 : decode cX12_itemOf 40 = .ok (.ifCond .eq 10, 3) := by decide +kernel
theorem dX12_itemOf_43 : decode cX12_itemOf 43 = .ok (.aload_n 0, 1) := by decide +kernel
theorem dX12_itemOf_44 : decode cX12_itemOf 44 = .ok (.iconst 2, 1) := by decide +kernel
theorem dX12_itemOf_45 : decode cX12_itemOf 45 = .ok (.iload_n 2, 1) := by decide +kernel
theorem dX12_itemOf_46 : decode cX12_itemOf 46 = .ok (.iconst (-1), 1) := by decide +kernel
theorem dX12_itemOf_47 : decode cX12_itemOf 47 = .ok (.invokevirtual 373, 3) := by decide +kernel
theorem dX12_itemOf_50 : decode cX12_itemOf 50 = .ok (.iconst (-1), 1) := by decide +kernel
theorem dX12_itemOf_51 : decode cX12_itemOf 51 = .ok (.ireturn, 1) := by decide +kernel
theorem dX12_call_0 : decode cX12_call 0 = .ok (.aload_n 0, 1) := by decide +kernel
theorem dX12_call_1 : decode cX12_call 1 = .ok (.bipush 9, 2) := by decide +kernel
theorem dX12_call_3 : decode cX12_call 3 = .ok (.invokevirtual 330, 3) := by decide +kernel
theorem dX12_call_6 : decode cX12_call 6 = .ok (.istore_n 3, 1) := by decide +kernel
theorem dX12_call_7 : decode cX12_call 7 = .ok (.aload_n 0, 1) := by decide +kernel
theorem dX12_call_8 : decode cX12_call 8 = .ok (.getfield 65, 3) := by decide +kernel
theorem dX12_call_11 : decode cX12_call 11 = .ok (.iload_n 3, 1) := by decide +kernel
theorem dX12_call_12 : decode cX12_call 12 = .ok (.iload_n 2, 1) := by decide +kernel
theorem dX12_call_13 : decode cX12_call 13 = .ok (.iastore, 1) := by decide +kernel
theorem dX12_call_14 : decode cX12_call 14 = .ok (.aload_n 0, 1) := by decide +kernel
theorem dX12_call_15 : decode cX12_call 15 = .ok (.bipush 40, 2) := by decide +kernel
theorem dX12_call_17 : decode cX12_call 17 = .ok (.invokevirtual 300, 3) := by decide +kernel
theorem dX12_call_20 : decode cX12_call 20 = .ok (.aload_n 0, 1) := by decide +kernel
theorem dX12_call_21 : decode cX12_call 21 = .ok (.invokevirtual 243, 3) := by decide +kernel
theorem dX12_call_24 : decode cX12_call 24 = .ok (.ifCond .ne 5, 3) := by decide +kernel
theorem dX12_call_27 : decode cX12_call 27 = .ok (.iconst (-1), 1) := by decide +kernel
theorem dX12_call_28 : decode cX12_call 28 = .ok (.ireturn, 1) := by decide +kernel
theorem dX12_call_29 : decode cX12_call 29 = .ok (.aload_n 0, 1) := by decide +kernel
theorem dX12_call_30 : decode cX12_call 30 = .ok (.iconst 3, 1) := by decide +kernel
theorem dX12_call_31 : decode cX12_call 31 = .ok (.iload_n 3, 1) := by decide +kernel
theorem dX12_call_32 : decode cX12_call 32 = .ok (.iconst (-1), 1) := by decide +kernel
theorem dX12_call_33 : decode cX12_call 33 = .ok (.invokevirtual 373, 3) := by decide +kernel
theorem dX12_call_36 : decode cX12_call 36 = .ok (.aload_n 0, 1) := by decide +kernel
theorem dX12_call_37 : decode cX12_call 37 = .ok (.getfield 105, 3) := by decide +kernel
theorem dX12_call_40 : decode cX12_call 40 = .ok (.aload_n 0, 1) := by decide +kernel
theorem dX12_call_41 : decode cX12_call 41 = .ok (.getfield 370, 3) := by decide +kernel
theorem dX12_call_44 : decode cX12_call 44 = .ok (.iconst 1, 1) := by decide +kernel
theorem dX12_call_45 : decode cX12_call 45 = .ok (.isub, 1) := by decide +kernel
theorem dX12_call_46 : decode cX12_call 46 = .ok (.iload_n 1, 1) := by decide +kernel
theorem dX12_call_47 : decode cX12_call 47 = .ok (.iastore, 1) := by decide +kernel
theorem dX12_call_48 : decode cX12_call 48 = .ok (.aload_n 0, 1) := by decide +kernel
theorem dX12_call_49 : decode cX12_call 49 = .ok (.bipush 41, 2) := by decide +kernel
theorem dX12_call_51 : decode cX12_call 51 = .ok (.invokevirtual 247, 3) := by decide +kernel
theorem dX12_call_54 : decode cX12_call 54 = .ok (.ifCond .eq 12, 3) := by decide +kernel
theorem dX12_call_57 : decode cX12_call 57 = .ok (.aload_n 0, 1) := by decide +kernel
theorem dX12_call_58 : decode cX12_call 58 = .ok (.iload_n 3, 1) := by decide +kernel
theorem dX12_call_59 : decode cX12_call 59 = .ok (.iload_n 1, 1) := by decide +kernel
theorem dX12_call_60 : decode cX12_call 60 = .ok (.invokevirtual 401, 3) := by decide +kernel
theorem dX12_call_63 : decode cX12_call 63 = .ok (.goto 4, 3) := by decide +kernel
theorem dX12_call_66 : decode cX12_call 66 = .ok (.iconst (-1), 1) := by decide +kernel
theorem dX12_call_67 : decode cX12_call 67 = .ok (.ireturn, 1) := by decide +kernel
theorem dX12_put_0 : decode cX12_put 0 = .ok (.aload_n 0, 1) := by decide +kernel
theorem dX12_put_1 : decode cX12_put 1 = .ok (.getfield 421, 3) := by decide +kernel
theorem dX12_put_4 : decode cX12_put 4 = .ok (.sipush 30000, 3) := by decide +kernel
theorem dX12_put_7 : decode cX12_put 7 = .ok (.if_icmp .ge 13, 3) := by decide +kernel
theorem dX12_put_10 : decode cX12_put 10 = .ok (.aload_n 0, 1) := by decide +kernel
theorem dX12_put_11 : decode cX12_put 11 = .ok (.getfield 111, 3) := by decide +kernel
theorem dX12_put_14 : decode cX12_put 14 = .ok (.aload_n 0, 1) := by decide +kernel
theorem dX12_put_15 : decode cX12_put 15 = .ok (.getfield 421, 3) := by decide +kernel
theorem dX12_put_18 : decode cX12_put 18 = .ok (.iload_n 1, 1) := by decide +kernel
theorem dX12_put_19 : decode cX12_put 19 = .ok (.iastore, 1) := by decide +kernel
theorem dX12_put_20 : decode cX12_put 20 = .ok (.aload_n 0, 1) := by decide +kernel
theorem dX12_put_21 : decode cX12_put 21 = .ok (.dup, 1) := by decide +kernel
theorem dX12_put_22 : decode cX12_put 22 = .ok (.getfield 421, 3) := by decide +kernel
theorem dX12_put_25 : decode cX12_put 25 = .ok (.iconst 1, 1) := by decide +kernel
theorem dX12_put_26 : decode cX12_put 26 = .ok (.iadd, 1) := by decide +kernel
theorem dX12_put_27 : decode cX12_put 27 = .ok (.putfield 421, 3) := by decide +kernel
theorem dX12_put_30 : decode cX12_put 30 = .ok (.return_, 1) := by decide +kernel
theorem dX12_make_0 : decode cX12_make 0 = .ok (.aload_n 0, 1) := by decide +kernel
theorem dX12_make_1 : decode cX12_make 1 = .ok (.iconst 0, 1) := by decide +kernel
theorem dX12_make_2 : decode cX12_make 2 = .ok (.putfield 421, 3) := by decide +kernel
theorem dX12_make_5 : decode cX12_make 5 = .ok (.aload_n 0, 1) := by decide +kernel
theorem dX12_make_6 : decode cX12_make 6 = .ok (.bipush 32, 2) := by decide +kernel
theorem dX12_make_8 : decode cX12_make 8 = .ok (.invokevirtual 424, 3) := by decide +kernel
theorem dX12_make_11 : decode cX12_make 11 = .ok (.aload_n 0, 1) := by decide +kernel
theorem dX12_make_12 : decode cX12_make 12 = .ok (.iconst 0, 1) := by decide +kernel
theorem dX12_make_13 : decode cX12_make 13 = .ok (.invokevirtual 424, 3) := by decide +kernel
theorem dX12_make_16 : decode cX12_make 16 = .ok (.aload_n 0, 1) := by decide +kernel
theorem dX12_make_17 : decode cX12_make 17 = .ok (.iconst 0, 1) := by decide +kernel
theorem dX12_make_18 : decode cX12_make 18 = .ok (.invokevirtual 424, 3) := by decide +kernel
theorem dX12_make_21 : decode cX12_make 21 = .ok (.aload_n 0, 1) := by decide +kernel
theorem dX12_make_22 : decode cX12_make 22 = .ok (.iconst 0, 1) := by decide +kernel
theorem dX12_make_23 : decode cX12_make 23 = .ok (.invokevirtual 424, 3) := by decide +kernel
theorem dX12_make_26 : decode cX12_make 26 = .ok (.iconst 0, 1) := by decide +kernel
theorem dX12_make_27 : decode cX12_make 27 = .ok (.istore_n 1, 1) := by decide +kernel
theorem dX12_make_28 : decode cX12_make 28 = .ok (.iload_n 1, 1) := by decide +kernel
theorem dX12_make_29 : decode cX12_make 29 = .ok (.aload_n 0, 1) := by decide +kernel
theorem dX12_make_30 : decode cX12_make 30 = .ok (.getfield 256, 3) := by decide +kernel
theorem dX12_make_33 : decode cX12_make 33 = .ok (.if_icmp .ge 86, 3) := by decide +kernel
theorem dX12_make_36 : decode cX12_make 36 = .ok (.aload_n 0, 1) := by decide +kernel
theorem dX12_make_37 : decode cX12_make 37 = .ok (.getfield 32, 3) := by decide +kernel
theorem dX12_make_40 : decode cX12_make 40 = .ok (.iload_n 1, 1) := by decide +kernel
theorem dX12_make_41 : decode cX12_make 41 = .ok (.iaload, 1) := by decide +kernel
theorem dX12_make_42 : decode cX12_make 42 = .ok (.iconst 2, 1) := by decide +kernel
theorem dX12_make_43 : decode cX12_make 43 = .ok (.if_icmp .ne 70, 3) := by decide +kernel
theorem dX12_make_46 : decode cX12_make 46 = .ok (.aload_n 0, 1) := by decide +kernel
theorem dX12_make_47 : decode cX12_make 47 = .ok (.getfield 114, 3) := by decide +kernel
theorem dX12_make_50 : decode cX12_make 50 = .ok (.iload_n 1, 1) := by decide +kernel
theorem dX12_make_51 : decode cX12_make 51 = .ok (.aload_n 0, 1) := by decide +kernel
theorem dX12_make_52 : decode cX12_make 52 = .ok (.getfield 421, 3) := by decide +kernel
theorem dX12_make_55 : decode cX12_make 55 = .ok (.iastore, 1) := by decide +kernel
theorem dX12_make_56 : decode cX12_make 56 = .ok (.aload_n 0, 1) := by decide +kernel
theorem dX12_make_57 : decode cX12_make 57 = .ok (.bipush 37, 2) := by decide +kernel
theorem dX12_make_59 : decode cX12_make 59 = .ok (.invokevirtual 424, 3) := by decide +kernel
theorem dX12_make_62 : decode cX12_make 62 = .ok (.aload_n 0, 1) := by decide +kernel
theorem dX12_make_63 : decode cX12_make 63 = .ok (.aload_n 0, 1) := by decide +kernel
theorem dX12_make_64 : decode cX12_make 64 = .ok (.getfield 44, 3) := by decide +kernel
theorem dX12_make_67 : decode cX12_make 67 = .ok (.iload_n 1, 1) := by decide +kernel
theorem dX12_make_68 : decode cX12_make 68 = .ok (.iaload, 1) := by decide +kernel
theorem dX12_make_69 : decode cX12_make 69 = .ok (.invokevirtual 424, 3) := by decide +kernel
theorem dX12_make_72 : decode cX12_make 72 = .ok (.aload_n 0, 1) := by decide +kernel
theorem dX12_make_73 : decode cX12_make 73 = .ok (.iload_n 1, 1) := by decide +kernel
theorem dX12_make_74 : decode cX12_make 74 = .ok (.putfield 312, 3) := by decide +kernel
theorem dX12_make_77 : decode cX12_make 77 = .ok (.aload_n 0, 1) := by decide +kernel
theorem dX12_make_78 : decode cX12_make 78 = .ok (.aload_n 0, 1) := by decide +kernel
theorem dX12_make_79 : decode cX12_make 79 = .ok (.getfield 41, 3) := by decide +kernel
theorem dX12_make_82 : decode cX12_make 82 = .ok (.iload_n 1, 1) := by decide +kernel
theorem dX12_make_83 : decode cX12_make 83 = .ok (.iaload, 1) := by decide +kernel
theorem dX12_make_84 : decode cX12_make 84 = .ok (.invokevirtual 427, 3) := by decide +kernel
theorem dX12_make_87 : decode cX12_make 87 = .ok (.aload_n 0, 1) := by decide +kernel
theorem dX12_make_88 : decode cX12_make 88 = .ok (.iconst 1, 1) := by decide +kernel
theorem dX12_make_89 : decode cX12_make 89 = .ok (.invokevirtual 424, 3) := by decide +kernel
theorem dX12_make_92 : decode cX12_make 92 = .ok (.aload_n 0, 1) := by decide +kernel
theorem dX12_make_93 : decode cX12_make 93 = .ok (.iconst 0, 1) := by decide +kernel
theorem dX12_make_94 : decode cX12_make 94 = .ok (.invokevirtual 424, 3) := by decide +kernel
theorem dX12_make_97 : decode cX12_make 97 = .ok (.aload_n 0, 1) := by decide +kernel
theorem dX12_make_98 : decode cX12_make 98 = .ok (.bipush 33, 2) := by decide +kernel
theorem dX12_make_100 : decode cX12_make 100 = .ok (.invokevirtual 424, 3) := by decide +kernel
theorem dX12_make_103 : decode cX12_make 103 = .ok (.aload_n 0, 1) := by decide +kernel
theorem dX12_make_104 : decode cX12_make 104 = .ok (.aload_n 0, 1) := by decide +kernel
theorem dX12_make_105 : decode cX12_make 105 = .ok (.getfield 38, 3) := by decide +kernel
theorem dX12_make_108 : decode cX12_make 108 = .ok (.iload_n 1, 1) := by decide +kernel
theorem dX12_make_109 : decode cX12_make 109 = .ok (.iaload, 1) := by decide +kernel
theorem dX12_make_110 : decode cX12_make 110 = .ok (.invokevirtual 424, 3) := by decide +kernel
theorem dX12_make_113 : decode cX12_make 113 = .ok (.iinc 1 1, 3) := by decide +kernel
theorem dX12_make_116 : decode cX12_make 116 = .ok (.goto (-88), 3) := by decide +kernel
theorem dX12_make_119 : decode cX12_make 119 = .ok (.aload_n 0, 1) := by decide +kernel
theorem dX12_make_120 : decode cX12_make 120 = .ok (.getfield 111, 3) := by decide +kernel
theorem dX12_make_123 : decode cX12_make 123 = .ok (.iconst 1, 1) := by decide +kernel
theorem dX12_make_124 : decode cX12_make 124 = .ok (.aload_n 0, 1) := by decide +kernel
theorem dX12_make_125 : decode cX12_make 125 = .ok (.getfield 114, 3) := by decide +kernel
theorem dX12_make_128 : decode cX12_make 128 = .ok (.aload_n 0, 1) := by decide +kernel
theorem dX12_make_129 : decode cX12_make 129 = .ok (.ldc2_w 284, 3) := by decide +kernel
theorem dX12_make_132 : decode cX12_make 132 = .ok (.invokevirtual 286, 3) := by decide +kernel
theorem dX12_make_135 : decode cX12_make 135 = .ok (.iaload, 1) := by decide +kernel
theorem dX12_make_136 : decode cX12_make 136 = .ok (.iastore, 1) := by decide +kernel
theorem dX12_make_137 : decode cX12_make 137 = .ok (.return_, 1) := by decide +kernel
theorem dX12_task_0 : decode cX12_task 0 = .ok (.aload_n 0, 1) := by decide +kernel
theorem dX12_task_1 : decode cX12_task 1 = .ok (.getfield 117, 3) := by decide +kernel
theorem dX12_task_4 : decode cX12_task 4 = .ok (.aload_n 0, 1) := by decide +kernel
theorem dX12_task_5 : decode cX12_task 5 = .ok (.getfield 430, 3) := by decide +kernel
theorem dX12_task_8 : decode cX12_task 8 = .ok (.iload_n 1, 1) := by decide +kernel
theorem dX12_task_9 : decode cX12_task 9 = .ok (.iastore, 1) := by decide +kernel
theorem dX12_task_10 : decode cX12_task 10 = .ok (.aload_n 0, 1) := by decide +kernel
theorem dX12_task_11 : decode cX12_task 11 = .ok (.getfield 120, 3) := by decide +kernel
theorem dX12_task_14 : decode cX12_task 14 = .ok (.aload_n 0, 1) := by decide +kernel
theorem dX12_task_15 : decode cX12_task 15 = .ok (.getfield 430, 3) := by decide +kernel
theorem dX12_task_18 : decode cX12_task 18 = .ok (.iload_n 2, 1) := by decide +kernel
theorem dX12_task_19 : decode cX12_task 19 = .ok (.iastore, 1) := by decide +kernel
theorem dX12_task_20 : decode cX12_task 20 = .ok (.aload_n 0, 1) := by decide +kernel
theorem dX12_task_21 : decode cX12_task 21 = .ok (.dup, 1) := by decide +kernel
theorem dX12_task_22 : decode cX12_task 22 = .ok (.getfield 430, 3) := by decide +kernel
theorem dX12_task_25 : decode cX12_task 25 = .ok (.iconst 1, 1) := by decide +kernel
theorem dX12_task_26 : decode cX12_task 26 = .ok (.iadd, 1) := by decide +kernel
theorem dX12_task_27 : decode cX12_task 27 = .ok (.putfield 430, 3) := by decide +kernel
theorem dX12_task_30 : decode cX12_task 30 = .ok (.return_, 1) := by decide +kernel
theorem dX12_jump_0 : decode cX12_jump 0 = .ok (.aload_n 0, 1) := by decide +kernel
theorem dX12_jump_1 : decode cX12_jump 1 = .ok (.iload_n 1, 1) := by decide +kernel
theorem dX12_jump_2 : decode cX12_jump 2 = .ok (.invokevirtual 424, 3) := by decide +kernel
theorem dX12_jump_5 : decode cX12_jump 5 = .ok (.aload_n 0, 1) := by decide +kernel
theorem dX12_jump_6 : decode cX12_jump 6 = .ok (.iconst 0, 1) := by decide +kernel
theorem dX12_jump_7 : decode cX12_jump 7 = .ok (.invokevirtual 424, 3) := by decide +kernel
theorem dX12_jump_10 : decode cX12_jump 10 = .ok (.aload_n 0, 1) := by decide +kernel
theorem dX12_jump_11 : decode cX12_jump 11 = .ok (.getfield 421, 3) := by decide +kernel
theorem dX12_jump_14 : decode cX12_jump 14 = .ok (.iconst 1, 1) := by decide +kernel
theorem dX12_jump_15 : decode cX12_jump 15 = .ok (.isub, 1) := by decide +kernel
theorem dX12_jump_16 : decode cX12_jump 16 = .ok (.ireturn, 1) := by decide +kernel
theorem dX12_land_0 : decode cX12_land 0 = .ok (.iload_n 1, 1) := by decide +kernel
theorem dX12_land_1 : decode cX12_land 1 = .ok (.sipush 30000, 3) := by decide +kernel
theorem dX12_land_4 : decode cX12_land 4 = .ok (.if_icmp .ge 13, 3) := by decide +kernel
theorem dX12_land_7 : decode cX12_land 7 = .ok (.aload_n 0, 1) := by decide +kernel
theorem dX12_land_8 : decode cX12_land 8 = .ok (.getfield 111, 3) := by decide +kernel
theorem dX12_land_11 : decode cX12_land 11 = .ok (.iload_n 1, 1) := by decide +kernel
theorem dX12_land_12 : decode cX12_land 12 = .ok (.aload_n 0, 1) := by decide +kernel
theorem dX12_land_13 : decode cX12_land 13 = .ok (.getfield 421, 3) := by decide +kernel
theorem dX12_land_16 : decode cX12_land 16 = .ok (.iastore, 1) := by decide +kernel
theorem dX12_land_17 : decode cX12_land 17 = .ok (.return_, 1) := by decide +kernel
theorem dX12_makeS_0 : decode cX12_makeS 0 = .ok (.aload_n 0, 1) := by decide +kernel
theorem dX12_makeS_1 : decode cX12_makeS 1 = .ok (.iconst 0, 1) := by decide +kernel
theorem dX12_makeS_2 : decode cX12_makeS 2 = .ok (.putfield 430, 3) := by decide +kernel
theorem dX12_makeS_5 : decode cX12_makeS 5 = .ok (.aload_n 0, 1) := by decide +kernel
theorem dX12_makeS_6 : decode cX12_makeS 6 = .ok (.iconst 0, 1) := by decide +kernel
theorem dX12_makeS_7 : decode cX12_makeS 7 = .ok (.iload_n 1, 1) := by decide +kernel
theorem dX12_makeS_8 : decode cX12_makeS 8 = .ok (.invokevirtual 433, 3) := by decide +kernel
theorem dX12_makeS_11 : decode cX12_makeS 11 = .ok (.aload_n 0, 1) := by decide +kernel
theorem dX12_makeS_12 : decode cX12_makeS 12 = .ok (.getfield 430, 3) := by decide +kernel
theorem dX12_makeS_15 : decode cX12_makeS 15 = .ok (.ifCond .le 135, 3) := by decide +kernel
theorem dX12_makeS_18 : decode cX12_makeS 18 = .ok (.aload_n 0, 1) := by decide +kernel
theorem dX12_makeS_19 : decode cX12_makeS 19 = .ok (.dup, 1) := by decide +kernel
theorem dX12_makeS_20 : decode cX12_makeS 20 = .ok (.getfield 430, 3) := by decide +kernel
theorem dX12_makeS_23 : decode cX12_makeS 23 = .ok (.iconst 1, 1) := by decide +kernel
theorem dX12_makeS_24 : decode cX12_makeS 24 = .ok (.isub, 1) := by decide +kernel
theorem dX12_makeS_25 : decode cX12_makeS 25 = .ok (.putfield 430, 3) := by decide +kernel
theorem dX12_makeS_28 : decode cX12_makeS 28 = .ok (.aload_n 0, 1) := by decide +kernel
theorem dX12_makeS_29 : decode cX12_makeS 29 = .ok (.getfield 117, 3) := by decide +kernel
theorem dX12_makeS_32 : decode cX12_makeS 32 = .ok (.aload_n 0, 1) := by decide +kernel
theorem dX12_makeS_33 : decode cX12_makeS 33 = .ok (.getfield 430, 3) := by decide +kernel
theorem dX12_makeS_36 : decode cX12_makeS 36 = .ok (.iaload, 1) := by decide +kernel
theorem dX12_makeS_37 : decode cX12_makeS 37 = .ok (.istore_n 2, 1) := by decide +kernel
theorem dX12_makeS_38 : decode cX12_makeS 38 = .ok (.aload_n 0, 1) := by decide +kernel
theorem dX12_makeS_39 : decode cX12_makeS 39 = .ok (.getfield 120, 3) := by decide +kernel
theorem dX12_makeS_42 : decode cX12_makeS 42 = .ok (.aload_n 0, 1) := by decide +kernel
theorem dX12_makeS_43 : decode cX12_makeS 43 = .ok (.getfield 430, 3) := by decide +kernel
theorem dX12_makeS_46 : decode cX12_makeS 46 = .ok (.iaload, 1) := by decide +kernel
theorem dX12_makeS_47 : decode cX12_makeS 47 = .ok (.istore_n 3, 1) := by decide +kernel
theorem dX12_makeS_48 : decode cX12_makeS 48 = .ok (.iload_n 2, 1) := by decide +kernel
theorem dX12_makeS_49 : decode cX12_makeS 49 = .ok (.ifCond .ne 11, 3) := by decide +kernel
theorem dX12_makeS_52 : decode cX12_makeS 52 = .ok (.aload_n 0, 1) := by decide +kernel
theorem dX12_makeS_53 : decode cX12_makeS 53 = .ok (.iload_n 3, 1) := by decide +kernel
theorem dX12_makeS_54 : decode cX12_makeS 54 = .ok (.invokevirtual 436, 3) := by decide +kernel
theorem dX12_makeS_57 : decode cX12_makeS 57 = .ok (.goto 90, 3) := by decide +kernel
theorem dX12_makeS_60 : decode cX12_makeS 60 = .ok (.iload_n 2, 1) := by decide +kernel
theorem dX12_makeS_61 : decode cX12_makeS 61 = .ok (.iconst 2, 1) := by decide +kernel
theorem dX12_makeS_62 : decode cX12_makeS 62 = .ok (.if_icmp .ne 11, 3) := by decide +kernel
theorem dX12_makeS_65 : decode cX12_makeS 65 = .ok (.aload_n 0, 1) := by decide +kernel
theorem dX12_makeS_66 : decode cX12_makeS 66 = .ok (.iload_n 3, 1) := by decide +kernel
theorem dX12_makeS_67 : decode cX12_makeS 67 = .ok (.invokevirtual 439, 3) := by decide +kernel
theorem dX12_makeS_70 : decode cX12_makeS 70 = .ok (.goto 77, 3) := by decide +kernel
theorem dX12_makeS_73 : decode cX12_makeS 73 = .ok (.iload_n 2, 1) := by decide +kernel
theorem dX12_makeS_74 : decode cX12_makeS 74 = .ok (.iconst 1, 1) := by decide +kernel
theorem dX12_makeS_75 : decode cX12_makeS 75 = .ok (.if_icmp .eq 8, 3) := by decide +kernel
theorem dX12_makeS_78 : decode cX12_makeS 78 = .ok (.iload_n 2, 1) := by decide +kernel
theorem dX12_makeS_79 : decode cX12_makeS 79 = .ok (.iconst 3, 1) := by decide +kernel
theorem dX12_makeS_80 : decode cX12_makeS 80 = .ok (.if_icmp .ne 41, 3) := by decide +kernel
theorem dX12_makeS_83 : decode cX12_makeS 83 = .ok (.aload_n 0, 1) := by decide +kernel
theorem dX12_makeS_84 : decode cX12_makeS 84 = .ok (.getfield 71, 3) := by decide +kernel
theorem dX12_makeS_87 : decode cX12_makeS 87 = .ok (.iload_n 3, 1) := by decide +kernel
theorem dX12_makeS_88 : decode cX12_makeS 88 = .ok (.iaload, 1) := by decide +kernel
theorem dX12_makeS_89 : decode cX12_makeS 89 = .ok (.ifCond .lt 14, 3) := by decide +kernel
theorem dX12_makeS_92 : decode cX12_makeS 92 = .ok (.aload_n 0, 1) := by decide +kernel
theorem dX12_makeS_93 : decode cX12_makeS 93 = .ok (.iload_n 2, 1) := by decide +kernel
theorem dX12_makeS_94 : decode cX12_makeS 94 = .ok (.aload_n 0, 1) := by decide +kernel
theorem dX12_makeS_95 : decode cX12_makeS 95 = .ok (.getfield 71, 3) := by decide +kernel
theorem dX12_makeS_98 : decode cX12_makeS 98 = .ok (.iload_n 3, 1) := by decide +kernel
theorem dX12_makeS_99 : decode cX12_makeS 99 = .ok (.iaload, 1) := by decide +kernel
theorem dX12_makeS_100 : decode cX12_makeS 100 = .ok (.invokevirtual 433, 3) := by decide +kernel
theorem dX12_makeS_103 : decode cX12_makeS 103 = .ok (.aload_n 0, 1) := by decide +kernel
theorem dX12_makeS_104 : decode cX12_makeS 104 = .ok (.iload_n 2, 1) := by decide +kernel
theorem dX12_makeS_105 : decode cX12_makeS 105 = .ok (.iconst 1, 1) := by decide +kernel
theorem dX12_makeS_106 : decode cX12_makeS 106 = .ok (.if_icmp .ne 7, 3) := by decide +kernel
theorem dX12_makeS_109 : decode cX12_makeS 109 = .ok (.iconst 0, 1) := by decide +kernel
theorem dX12_makeS_110 : decode cX12_makeS 110 = .ok (.goto 4, 3) := by decide +kernel
theorem dX12_makeS_113 : decode cX12_makeS 113 = .ok (.iconst 2, 1) := by decide +kernel
theorem dX12_makeS_114 : decode cX12_makeS 114 = .ok (.iload_n 3, 1) := by decide +kernel
theorem dX12_makeS_115 : decode cX12_makeS 115 = .ok (.invokevirtual 433, 3) := by decide +kernel
theorem dX12_makeS_118 : decode cX12_makeS 118 = .ok (.goto 29, 3) := by decide +kernel
theorem dX12_makeS_121 : decode cX12_makeS 121 = .ok (.aload_n 0, 1) := by decide +kernel
theorem dX12_makeS_122 : decode cX12_makeS 122 = .ok (.getfield 53, 3) := by decide +kernel
theorem dX12_makeS_125 : decode cX12_makeS 125 = .ok (.iload_n 3, 1) := by decide +kernel
theorem dX12_makeS_126 : decode cX12_makeS 126 = .ok (.iaload, 1) := by decide +kernel
theorem dX12_makeS_127 : decode cX12_makeS 127 = .ok (.bipush 20, 2) := by decide +kernel
theorem dX12_makeS_129 : decode cX12_makeS 129 = .ok (.if_icmp .lt 12, 3) := by decide +kernel
theorem dX12_makeS_132 : decode cX12_makeS 132 = .ok (.aload_n 0, 1) := by decide +kernel
theorem dX12_makeS_133 : decode cX12_makeS 133 = .ok (.iload_n 2, 1) := by decide +kernel
theorem dX12_makeS_134 : decode cX12_makeS 134 = .ok (.iload_n 3, 1) := by decide +kernel
theorem dX12_makeS_135 : decode cX12_makeS 135 = .ok (.invokevirtual 442, 3) := by decide +kernel
theorem dX12_makeS_138 : decode cX12_makeS 138 = .ok (.goto 9, 3) := by decide +kernel
theorem dX12_makeS_141 : decode cX12_makeS 141 = .ok (.aload_n 0, 1) := by decide +kernel
theorem dX12_makeS_142 : decode cX12_makeS 142 = .ok (.iload_n 2, 1) := by decide +kernel
theorem dX12_makeS_143 : decode cX12_makeS 143 = .ok (.iload_n 3, 1) := by decide +kernel
theorem dX12_makeS_144 : decode cX12_makeS 144 = .ok (.invokevirtual 445, 3) := by decide +kernel
theorem dX12_makeS_147 : decode cX12_makeS 147 = .ok (.goto (-136), 3) := by decide +kernel
theorem dX12_makeS_150 : decode cX12_makeS 150 = .ok (.return_, 1) := by decide +kernel
theorem dX12_begins2_0 : decode cX12_begins2 0 = .ok (.aload_n 0, 1) := by decide +kernel
theorem dX12_begins2_1 : decode cX12_begins2 1 = .ok (.getfield 53, 3) := by decide +kernel
theorem dX12_begins2_4 : decode cX12_begins2 4 = .ok (.iload_n 1, 1) := by decide +kernel
theorem dX12_begins2_5 : decode cX12_begins2 5 = .ok (.iaload, 1) := by decide +kernel
theorem dX12_begins2_6 : decode cX12_begins2 6 = .ok (.tableswitch 145 20 30 #[58, 145, 115, 115, 145, 145, 145, 145, 84, 145, 81], 58) := by decide +kernel
theorem dX12_begins2_64 : decode cX12_begins2 64 = .ok (.aload_n 0, 1) := by decide +kernel
theorem dX12_begins2_65 : decode cX12_begins2 65 = .ok (.getfield 56, 3) := by decide +kernel
theorem dX12_begins2_68 : decode cX12_begins2 68 = .ok (.iload_n 1, 1) := by decide +kernel
theorem dX12_begins2_69 : decode cX12_begins2 69 = .ok (.iaload, 1) := by decide +kernel
theorem dX12_begins2_70 : decode cX12_begins2 70 = .ok (.ifCond .lt 120, 3) := by decide +kernel
theorem dX12_begins2_73 : decode cX12_begins2 73 = .ok (.aload_n 0, 1) := by decide +kernel
theorem dX12_begins2_74 : decode cX12_begins2 74 = .ok (.iconst 1, 1) := by decide +kernel
theorem dX12_begins2_75 : decode cX12_begins2 75 = .ok (.aload_n 0, 1) := by decide +kernel
theorem dX12_begins2_76 : decode cX12_begins2 76 = .ok (.getfield 56, 3) := by decide +kernel
theorem dX12_begins2_79 : decode cX12_begins2 79 = .ok (.iload_n 1, 1) := by decide +kernel
theorem dX12_begins2_80 : decode cX12_begins2 80 = .ok (.iaload, 1) := by decide +kernel
theorem dX12_begins2_81 : decode cX12_begins2 81 = .ok (.invokevirtual 433, 3) := by decide +kernel
theorem dX12_begins2_84 : decode cX12_begins2 84 = .ok (.goto 106, 3) := by decide +kernel
theorem dX12_begins2_87 : decode cX12_begins2 87 = .ok (.goto 103, 3) := by decide +kernel
theorem dX12_begins2_90 : decode cX12_begins2 90 = .ok (.aload_n 0, 1) := by decide +kernel
theorem dX12_begins2_91 : decode cX12_begins2 91 = .ok (.iconst 4, 1) := by decide +kernel
theorem dX12_begins2_92 : decode cX12_begins2 92 = .ok (.iload_n 1, 1) := by decide +kernel
theorem dX12_begins2_93 : decode cX12_begins2 93 = .ok (.invokevirtual 433, 3) := by decide +kernel
theorem dX12_begins2_96 : decode cX12_begins2 96 = .ok (.aload_n 0, 1) := by decide +kernel
theorem dX12_begins2_97 : decode cX12_begins2 97 = .ok (.iconst 2, 1) := by decide +kernel
theorem dX12_begins2_98 : decode cX12_begins2 98 = .ok (.aload_n 0, 1) := by decide +kernel
theorem dX12_begins2_99 : decode cX12_begins2 99 = .ok (.getfield 59, 3) := by decide +kernel
theorem dX12_begins2_102 : decode cX12_begins2 102 = .ok (.iload_n 1, 1) := by decide +kernel
theorem dX12_begins2_103 : decode cX12_begins2 103 = .ok (.iaload, 1) := by decide +kernel
theorem dX12_begins2_104 : decode cX12_begins2 104 = .ok (.invokevirtual 433, 3) := by decide +kernel
theorem dX12_begins2_107 : decode cX12_begins2 107 = .ok (.aload_n 0, 1) := by decide +kernel
theorem dX12_begins2_108 : decode cX12_begins2 108 = .ok (.iconst 2, 1) := by decide +kernel
theorem dX12_begins2_109 : decode cX12_begins2 109 = .ok (.aload_n 0, 1) := by decide +kernel
theorem dX12_begins2_110 : decode cX12_begins2 110 = .ok (.getfield 56, 3) := by decide +kernel
theorem dX12_begins2_113 : decode cX12_begins2 113 = .ok (.iload_n 1, 1) := by decide +kernel
theorem dX12_begins2_114 : decode cX12_begins2 114 = .ok (.iaload, 1) := by decide +kernel
theorem dX12_begins2_115 : decode cX12_begins2 115 = .ok (.invokevirtual 433, 3) := by decide +kernel
theorem dX12_begins2_118 : decode cX12_begins2 118 = .ok (.goto 72, 3) := by decide +kernel
theorem dX12_begins2_121 : decode cX12_begins2 121 = .ok (.aload_n 0, 1) := by decide +kernel
theorem dX12_begins2_122 : decode cX12_begins2 122 = .ok (.getfield 123, 3) := by decide +kernel
theorem dX12_begins2_125 : decode cX12_begins2 125 = .ok (.iload_n 1, 1) := by decide +kernel
theorem dX12_begins2_126 : decode cX12_begins2 126 = .ok (.aload_n 0, 1) := by decide +kernel
theorem dX12_begins2_127 : decode cX12_begins2 127 = .ok (.getfield 421, 3) := by decide +kernel
theorem dX12_begins2_130 : decode cX12_begins2 130 = .ok (.iastore, 1) := by decide +kernel
theorem dX12_begins2_131 : decode cX12_begins2 131 = .ok (.aload_n 0, 1) := by decide +kernel
theorem dX12_begins2_132 : decode cX12_begins2 132 = .ok (.iconst 5, 1) := by decide +kernel
theorem dX12_begins2_133 : decode cX12_begins2 133 = .ok (.iload_n 1, 1) := by decide +kernel
theorem dX12_begins2_134 : decode cX12_begins2 134 = .ok (.invokevirtual 433, 3) := by decide +kernel
theorem dX12_begins2_137 : decode cX12_begins2 137 = .ok (.aload_n 0, 1) := by decide +kernel
theorem dX12_begins2_138 : decode cX12_begins2 138 = .ok (.iconst 2, 1) := by decide +kernel
theorem dX12_begins2_139 : decode cX12_begins2 139 = .ok (.aload_n 0, 1) := by decide +kernel
theorem dX12_begins2_140 : decode cX12_begins2 140 = .ok (.getfield 56, 3) := by decide +kernel
theorem dX12_begins2_143 : decode cX12_begins2 143 = .ok (.iload_n 1, 1) := by decide +kernel
theorem dX12_begins2_144 : decode cX12_begins2 144 = .ok (.iaload, 1) := by decide +kernel
theorem dX12_begins2_145 : decode cX12_begins2 145 = .ok (.invokevirtual 433, 3) := by decide +kernel
theorem dX12_begins2_148 : decode cX12_begins2 148 = .ok (.goto 42, 3) := by decide +kernel
theorem dX12_begins2_151 : decode cX12_begins2 151 = .ok (.aload_n 0, 1) := by decide +kernel
theorem dX12_begins2_152 : decode cX12_begins2 152 = .ok (.iconst 4, 1) := by decide +kernel
theorem dX12_begins2_153 : decode cX12_begins2 153 = .ok (.iload_n 1, 1) := by decide +kernel
theorem dX12_begins2_154 : decode cX12_begins2 154 = .ok (.invokevirtual 433, 3) := by decide +kernel
theorem dX12_begins2_157 : decode cX12_begins2 157 = .ok (.aload_n 0, 1) := by decide +kernel
theorem dX12_begins2_158 : decode cX12_begins2 158 = .ok (.getfield 56, 3) := by decide +kernel
theorem dX12_begins2_161 : decode cX12_begins2 161 = .ok (.iload_n 1, 1) := by decide +kernel
theorem dX12_begins2_162 : decode cX12_begins2 162 = .ok (.iaload, 1) := by decide +kernel
theorem dX12_begins2_163 : decode cX12_begins2 163 = .ok (.ifCond .lt 17, 3) := by decide +kernel
theorem dX12_begins2_166 : decode cX12_begins2 166 = .ok (.aload_n 0, 1) := by decide +kernel
theorem dX12_begins2_167 : decode cX12_begins2 167 = .ok (.iconst 2, 1) := by decide +kernel
theorem dX12_begins2_168 : decode cX12_begins2 168 = .ok (.aload_n 0, 1) := by decide +kernel
theorem dX12_begins2_169 : decode cX12_begins2 169 = .ok (.getfield 56, 3) := by decide +kernel
theorem dX12_begins2_172 : decode cX12_begins2 172 = .ok (.iload_n 1, 1) := by decide +kernel
theorem dX12_begins2_173 : decode cX12_begins2 173 = .ok (.iaload, 1) := by decide +kernel
theorem dX12_begins2_174 : decode cX12_begins2 174 = .ok (.invokevirtual 433, 3) := by decide +kernel
theorem dX12_begins2_177 : decode cX12_begins2 177 = .ok (.goto 13, 3) := by decide +kernel
theorem dX12_begins2_180 : decode cX12_begins2 180 = .ok (.aload_n 0, 1) := by decide +kernel
theorem dX12_begins2_181 : decode cX12_begins2 181 = .ok (.iconst 1, 1) := by decide +kernel
theorem dX12_begins2_182 : decode cX12_begins2 182 = .ok (.invokevirtual 424, 3) := by decide +kernel
theorem dX12_begins2_185 : decode cX12_begins2 185 = .ok (.aload_n 0, 1) := by decide +kernel
theorem dX12_begins2_186 : decode cX12_begins2 186 = .ok (.iconst 0, 1) := by decide +kernel
theorem dX12_begins2_187 : decode cX12_begins2 187 = .ok (.invokevirtual 424, 3) := by decide +kernel
theorem dX12_begins2_190 : decode cX12_begins2 190 = .ok (.return_, 1) := by decide +kernel
theorem dX12_goesOnS_0 : decode cX12_goesOnS 0 = .ok (.iload_n 1, 1) := by decide +kernel
theorem dX12_goesOnS_1 : decode cX12_goesOnS 1 = .ok (.iconst 4, 1) := by decide +kernel
theorem dX12_goesOnS_2 : decode cX12_goesOnS 2 = .ok (.if_icmp .ne 11, 3) := by decide +kernel
theorem dX12_goesOnS_5 : decode cX12_goesOnS 5 = .ok (.aload_n 0, 1) := by decide +kernel
theorem dX12_goesOnS_6 : decode cX12_goesOnS 6 = .ok (.iload_n 2, 1) := by decide +kernel
theorem dX12_goesOnS_7 : decode cX12_goesOnS 7 = .ok (.invokevirtual 448, 3) := by decide +kernel
theorem dX12_goesOnS_10 : decode cX12_goesOnS 10 = .ok (.goto 164, 3) := by decide +kernel
theorem dX12_goesOnS_13 : decode cX12_goesOnS 13 = .ok (.iload_n 1, 1) := by decide +kernel
theorem dX12_goesOnS_14 : decode cX12_goesOnS 14 = .ok (.iconst 5, 1) := by decide +kernel
theorem dX12_goesOnS_15 : decode cX12_goesOnS 15 = .ok (.if_icmp .ne 61, 3) := by decide +kernel
theorem dX12_goesOnS_18 : decode cX12_goesOnS 18 = .ok (.aload_n 0, 1) := by decide +kernel
theorem dX12_goesOnS_19 : decode cX12_goesOnS 19 = .ok (.getfield 126, 3) := by decide +kernel
theorem dX12_goesOnS_22 : decode cX12_goesOnS 22 = .ok (.iload_n 2, 1) := by decide +kernel
theorem dX12_goesOnS_23 : decode cX12_goesOnS 23 = .ok (.aload_n 0, 1) := by decide +kernel
theorem dX12_goesOnS_24 : decode cX12_goesOnS 24 = .ok (.bipush 31, 2) := by decide +kernel
theorem dX12_goesOnS_26 : decode cX12_goesOnS 26 = .ok (.invokevirtual 451, 3) := by decide +kernel
theorem dX12_goesOnS_29 : decode cX12_goesOnS 29 = .ok (.iastore, 1) := by decide +kernel
theorem dX12_goesOnS_30 : decode cX12_goesOnS 30 = .ok (.aload_n 0, 1) := by decide +kernel
theorem dX12_goesOnS_31 : decode cX12_goesOnS 31 = .ok (.aload_n 0, 1) := by decide +kernel
theorem dX12_goesOnS_32 : decode cX12_goesOnS 32 = .ok (.getfield 53, 3) := by decide +kernel
theorem dX12_goesOnS_35 : decode cX12_goesOnS 35 = .ok (.iload_n 2, 1) := by decide +kernel
theorem dX12_goesOnS_36 : decode cX12_goesOnS 36 = .ok (.iaload, 1) := by decide +kernel
theorem dX12_goesOnS_37 : decode cX12_goesOnS 37 = .ok (.bipush 23, 2) := by decide +kernel
theorem dX12_goesOnS_39 : decode cX12_goesOnS 39 = .ok (.if_icmp .eq 12, 3) := by decide +kernel
theorem dX12_goesOnS_42 : decode cX12_goesOnS 42 = .ok (.aload_n 0, 1) := by decide +kernel
theorem dX12_goesOnS_43 : decode cX12_goesOnS 43 = .ok (.getfield 62, 3) := by decide +kernel
theorem dX12_goesOnS_46 : decode cX12_goesOnS 46 = .ok (.iload_n 2, 1) := by decide +kernel
theorem dX12_goesOnS_47 : decode cX12_goesOnS 47 = .ok (.iaload, 1) := by decide +kernel
theorem dX12_goesOnS_48 : decode cX12_goesOnS 48 = .ok (.ifCond .ge 8, 3) := by decide +kernel
theorem dX12_goesOnS_51 : decode cX12_goesOnS 51 = .ok (.bipush 7, 2) := by decide +kernel
theorem dX12_goesOnS_53 : decode cX12_goesOnS 53 = .ok (.goto 5, 3) := by decide +kernel
theorem dX12_goesOnS_56 : decode cX12_goesOnS 56 = .ok (.bipush 6, 2) := by decide +kernel
theorem dX12_goesOnS_58 : decode cX12_goesOnS 58 = .ok (.iload_n 2, 1) := by decide +kernel
theorem dX12_goesOnS_59 : decode cX12_goesOnS 59 = .ok (.invokevirtual 433, 3) := by decide +kernel
theorem dX12_goesOnS_62 : decode cX12_goesOnS 62 = .ok (.aload_n 0, 1) := by decide +kernel
theorem dX12_goesOnS_63 : decode cX12_goesOnS 63 = .ok (.iconst 0, 1) := by decide +kernel
theorem dX12_goesOnS_64 : decode cX12_goesOnS 64 = .ok (.aload_n 0, 1) := by decide +kernel
theorem dX12_goesOnS_65 : decode cX12_goesOnS 65 = .ok (.getfield 59, 3) := by decide +kernel
theorem dX12_goesOnS_68 : decode cX12_goesOnS 68 = .ok (.iload_n 2, 1) := by decide +kernel
theorem dX12_goesOnS_69 : decode cX12_goesOnS 69 = .ok (.iaload, 1) := by decide +kernel
theorem dX12_goesOnS_70 : decode cX12_goesOnS 70 = .ok (.invokevirtual 433, 3) := by decide +kernel
theorem dX12_goesOnS_73 : decode cX12_goesOnS 73 = .ok (.goto 101, 3) := by decide +kernel
theorem dX12_goesOnS_76 : decode cX12_goesOnS 76 = .ok (.iload_n 1, 1) := by decide +kernel
theorem dX12_goesOnS_77 : decode cX12_goesOnS 77 = .ok (.bipush 6, 2) := by decide +kernel
theorem dX12_goesOnS_79 : decode cX12_goesOnS 79 = .ok (.if_icmp .ne 58, 3) := by decide +kernel
theorem dX12_goesOnS_82 : decode cX12_goesOnS 82 = .ok (.aload_n 0, 1) := by decide +kernel
theorem dX12_goesOnS_83 : decode cX12_goesOnS 83 = .ok (.getfield 129, 3) := by decide +kernel
theorem dX12_goesOnS_86 : decode cX12_goesOnS 86 = .ok (.iload_n 2, 1) := by decide +kernel
theorem dX12_goesOnS_87 : decode cX12_goesOnS 87 = .ok (.aload_n 0, 1) := by decide +kernel
theorem dX12_goesOnS_88 : decode cX12_goesOnS 88 = .ok (.bipush 30, 2) := by decide +kernel
theorem dX12_goesOnS_90 : decode cX12_goesOnS 90 = .ok (.invokevirtual 451, 3) := by decide +kernel
theorem dX12_goesOnS_93 : decode cX12_goesOnS 93 = .ok (.iastore, 1) := by decide +kernel
theorem dX12_goesOnS_94 : decode cX12_goesOnS 94 = .ok (.aload_n 0, 1) := by decide +kernel
theorem dX12_goesOnS_95 : decode cX12_goesOnS 95 = .ok (.aload_n 0, 1) := by decide +kernel
theorem dX12_goesOnS_96 : decode cX12_goesOnS 96 = .ok (.getfield 126, 3) := by decide +kernel
theorem dX12_goesOnS_99 : decode cX12_goesOnS 99 = .ok (.iload_n 2, 1) := by decide +kernel
theorem dX12_goesOnS_100 : decode cX12_goesOnS 100 = .ok (.iaload, 1) := by decide +kernel
theorem dX12_goesOnS_101 : decode cX12_goesOnS 101 = .ok (.invokevirtual 454, 3) := by decide +kernel
theorem dX12_goesOnS_104 : decode cX12_goesOnS 104 = .ok (.aload_n 0, 1) := by decide +kernel
theorem dX12_goesOnS_105 : decode cX12_goesOnS 105 = .ok (.getfield 126, 3) := by decide +kernel
theorem dX12_goesOnS_108 : decode cX12_goesOnS 108 = .ok (.iload_n 2, 1) := by decide +kernel
theorem dX12_goesOnS_109 : decode cX12_goesOnS 109 = .ok (.aload_n 0, 1) := by decide +kernel
theorem dX12_goesOnS_110 : decode cX12_goesOnS 110 = .ok (.getfield 129, 3) := by decide +kernel
theorem dX12_goesOnS_113 : decode cX12_goesOnS 113 = .ok (.iload_n 2, 1) := by decide +kernel
theorem dX12_goesOnS_114 : decode cX12_goesOnS 114 = .ok (.iaload, 1) := by decide +kernel
theorem dX12_goesOnS_115 : decode cX12_goesOnS 115 = .ok (.iastore, 1) := by decide +kernel
theorem dX12_goesOnS_116 : decode cX12_goesOnS 116 = .ok (.aload_n 0, 1) := by decide +kernel
theorem dX12_goesOnS_117 : decode cX12_goesOnS 117 = .ok (.bipush 7, 2) := by decide +kernel
theorem dX12_goesOnS_119 : decode cX12_goesOnS 119 = .ok (.iload_n 2, 1) := by decide +kernel
theorem dX12_goesOnS_120 : decode cX12_goesOnS 120 = .ok (.invokevirtual 433, 3) := by decide +kernel
theorem dX12_goesOnS_123 : decode cX12_goesOnS 123 = .ok (.aload_n 0, 1) := by decide +kernel
theorem dX12_goesOnS_124 : decode cX12_goesOnS 124 = .ok (.iconst 0, 1) := by decide +kernel
theorem dX12_goesOnS_125 : decode cX12_goesOnS 125 = .ok (.aload_n 0, 1) := by decide +kernel
theorem dX12_goesOnS_126 : decode cX12_goesOnS 126 = .ok (.getfield 62, 3) := by decide +kernel
theorem dX12_goesOnS_129 : decode cX12_goesOnS 129 = .ok (.iload_n 2, 1) := by decide +kernel
theorem dX12_goesOnS_130 : decode cX12_goesOnS 130 = .ok (.iaload, 1) := by decide +kernel
theorem dX12_goesOnS_131 : decode cX12_goesOnS 131 = .ok (.invokevirtual 433, 3) := by decide +kernel
theorem dX12_goesOnS_134 : decode cX12_goesOnS 134 = .ok (.goto 40, 3) := by decide +kernel
theorem dX12_goesOnS_137 : decode cX12_goesOnS 137 = .ok (.aload_n 0, 1) := by decide +kernel
theorem dX12_goesOnS_138 : decode cX12_goesOnS 138 = .ok (.getfield 53, 3) := by decide +kernel
theorem dX12_goesOnS_141 : decode cX12_goesOnS 141 = .ok (.iload_n 2, 1) := by decide +kernel
theorem dX12_goesOnS_142 : decode cX12_goesOnS 142 = .ok (.iaload, 1) := by decide +kernel
theorem dX12_goesOnS_143 : decode cX12_goesOnS 143 = .ok (.bipush 23, 2) := by decide +kernel
theorem dX12_goesOnS_145 : decode cX12_goesOnS 145 = .ok (.if_icmp .ne 19, 3) := by decide +kernel
theorem dX12_goesOnS_148 : decode cX12_goesOnS 148 = .ok (.aload_n 0, 1) := by decide +kernel
theorem dX12_goesOnS_149 : decode cX12_goesOnS 149 = .ok (.bipush 30, 2) := by decide +kernel
theorem dX12_goesOnS_151 : decode cX12_goesOnS 151 = .ok (.invokevirtual 424, 3) := by decide +kernel
theorem dX12_goesOnS_154 : decode cX12_goesOnS 154 = .ok (.aload_n 0, 1) := by decide +kernel
theorem dX12_goesOnS_155 : decode cX12_goesOnS 155 = .ok (.aload_n 0, 1) := by decide +kernel
theorem dX12_goesOnS_156 : decode cX12_goesOnS 156 = .ok (.getfield 123, 3) := by decide +kernel
theorem dX12_goesOnS_159 : decode cX12_goesOnS 159 = .ok (.iload_n 2, 1) := by decide +kernel
theorem dX12_goesOnS_160 : decode cX12_goesOnS 160 = .ok (.iaload, 1) := by decide +kernel
theorem dX12_goesOnS_161 : decode cX12_goesOnS 161 = .ok (.invokevirtual 424, 3) := by decide +kernel
theorem dX12_goesOnS_164 : decode cX12_goesOnS 164 = .ok (.aload_n 0, 1) := by decide +kernel
theorem dX12_goesOnS_165 : decode cX12_goesOnS 165 = .ok (.aload_n 0, 1) := by decide +kernel
theorem dX12_goesOnS_166 : decode cX12_goesOnS 166 = .ok (.getfield 126, 3) := by decide +kernel
theorem dX12_goesOnS_169 : decode cX12_goesOnS 169 = .ok (.iload_n 2, 1) := by decide +kernel
theorem dX12_goesOnS_170 : decode cX12_goesOnS 170 = .ok (.iaload, 1) := by decide +kernel
theorem dX12_goesOnS_171 : decode cX12_goesOnS 171 = .ok (.invokevirtual 454, 3) := by decide +kernel
theorem dX12_goesOnS_174 : decode cX12_goesOnS 174 = .ok (.return_, 1) := by decide +kernel
theorem dX12_doneS_0 : decode cX12_doneS 0 = .ok (.aload_n 0, 1) := by decide +kernel
theorem dX12_doneS_1 : decode cX12_doneS 1 = .ok (.getfield 53, 3) := by decide +kernel
theorem dX12_doneS_4 : decode cX12_doneS 4 = .ok (.iload_n 1, 1) := by decide +kernel
theorem dX12_doneS_5 : decode cX12_doneS 5 = .ok (.iaload, 1) := by decide +kernel
theorem dX12_doneS_6 : decode cX12_doneS 6 = .ok (.tableswitch 142 21 28 #[46, 142, 142, 82, 104, 64, 46, 113], 46) := by decide +kernel
theorem dX12_doneS_52 : decode cX12_doneS 52 = .ok (.aload_n 0, 1) := by decide +kernel
theorem dX12_doneS_53 : decode cX12_doneS 53 = .ok (.iconst 5, 1) := by decide +kernel
theorem dX12_doneS_54 : decode cX12_doneS 54 = .ok (.invokevirtual 424, 3) := by decide +kernel
theorem dX12_doneS_57 : decode cX12_doneS 57 = .ok (.aload_n 0, 1) := by decide +kernel
theorem dX12_doneS_58 : decode cX12_doneS 58 = .ok (.aload_n 0, 1) := by decide +kernel
theorem dX12_doneS_59 : decode cX12_doneS 59 = .ok (.getfield 65, 3) := by decide +kernel
theorem dX12_doneS_62 : decode cX12_doneS 62 = .ok (.iload_n 1, 1) := by decide +kernel
theorem dX12_doneS_63 : decode cX12_doneS 63 = .ok (.iaload, 1) := by decide +kernel
theorem dX12_doneS_64 : decode cX12_doneS 64 = .ok (.invokevirtual 424, 3) := by decide +kernel
theorem dX12_doneS_67 : decode cX12_doneS 67 = .ok (.goto 87, 3) := by decide +kernel
theorem dX12_doneS_70 : decode cX12_doneS 70 = .ok (.aload_n 0, 1) := by decide +kernel
theorem dX12_doneS_71 : decode cX12_doneS 71 = .ok (.iconst 3, 1) := by decide +kernel
theorem dX12_doneS_72 : decode cX12_doneS 72 = .ok (.invokevirtual 424, 3) := by decide +kernel
theorem dX12_doneS_75 : decode cX12_doneS 75 = .ok (.aload_n 0, 1) := by decide +kernel
theorem dX12_doneS_76 : decode cX12_doneS 76 = .ok (.aload_n 0, 1) := by decide +kernel
theorem dX12_doneS_77 : decode cX12_doneS 77 = .ok (.getfield 65, 3) := by decide +kernel
theorem dX12_doneS_80 : decode cX12_doneS 80 = .ok (.iload_n 1, 1) := by decide +kernel
theorem dX12_doneS_81 : decode cX12_doneS 81 = .ok (.iaload, 1) := by decide +kernel
theorem dX12_doneS_82 : decode cX12_doneS 82 = .ok (.invokevirtual 424, 3) := by decide +kernel
theorem dX12_doneS_85 : decode cX12_doneS 85 = .ok (.goto 69, 3) := by decide +kernel
theorem dX12_doneS_88 : decode cX12_doneS 88 = .ok (.aload_n 0, 1) := by decide +kernel
theorem dX12_doneS_89 : decode cX12_doneS 89 = .ok (.bipush 33, 2) := by decide +kernel
theorem dX12_doneS_91 : decode cX12_doneS 91 = .ok (.invokevirtual 424, 3) := by decide +kernel
theorem dX12_doneS_94 : decode cX12_doneS 94 = .ok (.aload_n 0, 1) := by decide +kernel
theorem dX12_doneS_95 : decode cX12_doneS 95 = .ok (.aload_n 0, 1) := by decide +kernel
theorem dX12_doneS_96 : decode cX12_doneS 96 = .ok (.getfield 38, 3) := by decide +kernel
theorem dX12_doneS_99 : decode cX12_doneS 99 = .ok (.aload_n 0, 1) := by decide +kernel
theorem dX12_doneS_100 : decode cX12_doneS 100 = .ok (.getfield 312, 3) := by decide +kernel
theorem dX12_doneS_103 : decode cX12_doneS 103 = .ok (.iaload, 1) := by decide +kernel
theorem dX12_doneS_104 : decode cX12_doneS 104 = .ok (.invokevirtual 424, 3) := by decide +kernel
theorem dX12_doneS_107 : decode cX12_doneS 107 = .ok (.goto 47, 3) := by decide +kernel
theorem dX12_doneS_110 : decode cX12_doneS 110 = .ok (.aload_n 0, 1) := by decide +kernel
theorem dX12_doneS_111 : decode cX12_doneS 111 = .ok (.bipush 34, 2) := by decide +kernel
theorem dX12_doneS_113 : decode cX12_doneS 113 = .ok (.invokevirtual 424, 3) := by decide +kernel
theorem dX12_doneS_116 : decode cX12_doneS 116 = .ok (.goto 38, 3) := by decide +kernel
theorem dX12_doneS_119 : decode cX12_doneS 119 = .ok (.aload_n 0, 1) := by decide +kernel
theorem dX12_doneS_120 : decode cX12_doneS 120 = .ok (.bipush 7, 2) := by decide +kernel
theorem dX12_doneS_122 : decode cX12_doneS 122 = .ok (.invokevirtual 424, 3) := by decide +kernel
theorem dX12_doneS_125 : decode cX12_doneS 125 = .ok (.aload_n 0, 1) := by decide +kernel
theorem dX12_doneS_126 : decode cX12_doneS 126 = .ok (.aload_n 0, 1) := by decide +kernel
theorem dX12_doneS_127 : decode cX12_doneS 127 = .ok (.getfield 65, 3) := by decide +kernel
theorem dX12_doneS_130 : decode cX12_doneS 130 = .ok (.iload_n 1, 1) := by decide +kernel
theorem dX12_doneS_131 : decode cX12_doneS 131 = .ok (.iaload, 1) := by decide +kernel
theorem dX12_doneS_132 : decode cX12_doneS 132 = .ok (.invokevirtual 424, 3) := by decide +kernel
theorem dX12_doneS_135 : decode cX12_doneS 135 = .ok (.aload_n 0, 1) := by decide +kernel
theorem dX12_doneS_136 : decode cX12_doneS 136 = .ok (.aload_n 0, 1) := by decide +kernel
theorem dX12_doneS_137 : decode cX12_doneS 137 = .ok (.getfield 68, 3) := by decide +kernel
theorem dX12_doneS_140 : decode cX12_doneS 140 = .ok (.iload_n 1, 1) := by decide +kernel
theorem dX12_doneS_141 : decode cX12_doneS 141 = .ok (.iaload, 1) := by decide +kernel
theorem dX12_doneS_142 : decode cX12_doneS 142 = .ok (.invokevirtual 424, 3) := by decide +kernel
theorem dX12_doneS_145 : decode cX12_doneS 145 = .ok (.goto 9, 3) := by decide +kernel
theorem dX12_doneS_148 : decode cX12_doneS 148 = .ok (.aload_n 0, 1) := by decide +kernel
theorem dX12_doneS_149 : decode cX12_doneS 149 = .ok (.bipush 36, 2) := by decide +kernel
theorem dX12_doneS_151 : decode cX12_doneS 151 = .ok (.invokevirtual 424, 3) := by decide +kernel
theorem dX12_doneS_154 : decode cX12_doneS 154 = .ok (.return_, 1) := by decide +kernel
theorem dX12_beginsE_0 : decode cX12_beginsE 0 = .ok (.aload_n 0, 1) := by decide +kernel
theorem dX12_beginsE_1 : decode cX12_beginsE 1 = .ok (.getfield 53, 3) := by decide +kernel
theorem dX12_beginsE_4 : decode cX12_beginsE 4 = .ok (.iload_n 1, 1) := by decide +kernel
theorem dX12_beginsE_5 : decode cX12_beginsE 5 = .ok (.iaload, 1) := by decide +kernel
theorem dX12_beginsE_6 : decode cX12_beginsE 6 = .ok (.tableswitch 193 1 10 #[54, 72, 72, 193, 193, 113, 144, 144, 164, 104], 54) := by decide +kernel
theorem dX12_beginsE_60 : decode cX12_beginsE 60 = .ok (.aload_n 0, 1) := by decide +kernel
theorem dX12_beginsE_61 : decode cX12_beginsE 61 = .ok (.iconst 1, 1) := by decide +kernel
theorem dX12_beginsE_62 : decode cX12_beginsE 62 = .ok (.invokevirtual 424, 3) := by decide +kernel
theorem dX12_beginsE_65 : decode cX12_beginsE 65 = .ok (.aload_n 0, 1) := by decide +kernel
theorem dX12_beginsE_66 : decode cX12_beginsE 66 = .ok (.aload_n 0, 1) := by decide +kernel
theorem dX12_beginsE_67 : decode cX12_beginsE 67 = .ok (.getfield 65, 3) := by decide +kernel
theorem dX12_beginsE_70 : decode cX12_beginsE 70 = .ok (.iload_n 1, 1) := by decide +kernel
theorem dX12_beginsE_71 : decode cX12_beginsE 71 = .ok (.iaload, 1) := by decide +kernel
theorem dX12_beginsE_72 : decode cX12_beginsE 72 = .ok (.invokevirtual 424, 3) := by decide +kernel
theorem dX12_beginsE_75 : decode cX12_beginsE 75 = .ok (.goto 141, 3) := by decide +kernel
theorem dX12_beginsE_78 : decode cX12_beginsE 78 = .ok (.aload_n 0, 1) := by decide +kernel
theorem dX12_beginsE_79 : decode cX12_beginsE 79 = .ok (.aload_n 0, 1) := by decide +kernel
theorem dX12_beginsE_80 : decode cX12_beginsE 80 = .ok (.getfield 53, 3) := by decide +kernel
theorem dX12_beginsE_83 : decode cX12_beginsE 83 = .ok (.iload_n 1, 1) := by decide +kernel
theorem dX12_beginsE_84 : decode cX12_beginsE 84 = .ok (.iaload, 1) := by decide +kernel
theorem dX12_beginsE_85 : decode cX12_beginsE 85 = .ok (.iconst 2, 1) := by decide +kernel
theorem dX12_beginsE_86 : decode cX12_beginsE 86 = .ok (.if_icmp .ne 7, 3) := by decide +kernel
theorem dX12_beginsE_89 : decode cX12_beginsE 89 = .ok (.iconst 2, 1) := by decide +kernel
theorem dX12_beginsE_90 : decode cX12_beginsE 90 = .ok (.goto 4, 3) := by decide +kernel
theorem dX12_beginsE_93 : decode cX12_beginsE 93 = .ok (.iconst 4, 1) := by decide +kernel
theorem dX12_beginsE_94 : decode cX12_beginsE 94 = .ok (.invokevirtual 424, 3) := by decide +kernel
theorem dX12_beginsE_97 : decode cX12_beginsE 97 = .ok (.aload_n 0, 1) := by decide +kernel
theorem dX12_beginsE_98 : decode cX12_beginsE 98 = .ok (.aload_n 0, 1) := by decide +kernel
theorem dX12_beginsE_99 : decode cX12_beginsE 99 = .ok (.getfield 65, 3) := by decide +kernel
theorem dX12_beginsE_102 : decode cX12_beginsE 102 = .ok (.iload_n 1, 1) := by decide +kernel
theorem dX12_beginsE_103 : decode cX12_beginsE 103 = .ok (.iaload, 1) := by decide +kernel
theorem dX12_beginsE_104 : decode cX12_beginsE 104 = .ok (.invokevirtual 424, 3) := by decide +kernel
theorem dX12_beginsE_107 : decode cX12_beginsE 107 = .ok (.goto 109, 3) := by decide +kernel
theorem dX12_beginsE_110 : decode cX12_beginsE 110 = .ok (.aload_n 0, 1) := by decide +kernel
theorem dX12_beginsE_111 : decode cX12_beginsE 111 = .ok (.bipush 35, 2) := by decide +kernel
theorem dX12_beginsE_113 : decode cX12_beginsE 113 = .ok (.invokevirtual 424, 3) := by decide +kernel
theorem dX12_beginsE_116 : decode cX12_beginsE 116 = .ok (.goto 100, 3) := by decide +kernel
theorem dX12_beginsE_119 : decode cX12_beginsE 119 = .ok (.aload_n 0, 1) := by decide +kernel
theorem dX12_beginsE_120 : decode cX12_beginsE 120 = .ok (.iconst 4, 1) := by decide +kernel
theorem dX12_beginsE_121 : decode cX12_beginsE 121 = .ok (.iload_n 1, 1) := by decide +kernel
theorem dX12_beginsE_122 : decode cX12_beginsE 122 = .ok (.invokevirtual 433, 3) := by decide +kernel
theorem dX12_beginsE_125 : decode cX12_beginsE 125 = .ok (.aload_n 0, 1) := by decide +kernel
theorem dX12_beginsE_126 : decode cX12_beginsE 126 = .ok (.iconst 2, 1) := by decide +kernel
theorem dX12_beginsE_127 : decode cX12_beginsE 127 = .ok (.aload_n 0, 1) := by decide +kernel
theorem dX12_beginsE_128 : decode cX12_beginsE 128 = .ok (.getfield 59, 3) := by decide +kernel
theorem dX12_beginsE_131 : decode cX12_beginsE 131 = .ok (.iload_n 1, 1) := by decide +kernel
theorem dX12_beginsE_132 : decode cX12_beginsE 132 = .ok (.iaload, 1) := by decide +kernel
theorem dX12_beginsE_133 : decode cX12_beginsE 133 = .ok (.invokevirtual 433, 3) := by decide +kernel
theorem dX12_beginsE_136 : decode cX12_beginsE 136 = .ok (.aload_n 0, 1) := by decide +kernel
theorem dX12_beginsE_137 : decode cX12_beginsE 137 = .ok (.iconst 2, 1) := by decide +kernel
theorem dX12_beginsE_138 : decode cX12_beginsE 138 = .ok (.aload_n 0, 1) := by decide +kernel
theorem dX12_beginsE_139 : decode cX12_beginsE 139 = .ok (.getfield 56, 3) := by decide +kernel
theorem dX12_beginsE_142 : decode cX12_beginsE 142 = .ok (.iload_n 1, 1) := by decide +kernel
theorem dX12_beginsE_143 : decode cX12_beginsE 143 = .ok (.iaload, 1) := by decide +kernel
theorem dX12_beginsE_144 : decode cX12_beginsE 144 = .ok (.invokevirtual 433, 3) := by decide +kernel
theorem dX12_beginsE_147 : decode cX12_beginsE 147 = .ok (.goto 69, 3) := by decide +kernel
theorem dX12_beginsE_150 : decode cX12_beginsE 150 = .ok (.aload_n 0, 1) := by decide +kernel
theorem dX12_beginsE_151 : decode cX12_beginsE 151 = .ok (.iconst 5, 1) := by decide +kernel
theorem dX12_beginsE_152 : decode cX12_beginsE 152 = .ok (.iload_n 1, 1) := by decide +kernel
theorem dX12_beginsE_153 : decode cX12_beginsE 153 = .ok (.invokevirtual 433, 3) := by decide +kernel
theorem dX12_beginsE_156 : decode cX12_beginsE 156 = .ok (.aload_n 0, 1) := by decide +kernel
theorem dX12_beginsE_157 : decode cX12_beginsE 157 = .ok (.iconst 2, 1) := by decide +kernel
theorem dX12_beginsE_158 : decode cX12_beginsE 158 = .ok (.aload_n 0, 1) := by decide +kernel
theorem dX12_beginsE_159 : decode cX12_beginsE 159 = .ok (.getfield 56, 3) := by decide +kernel
theorem dX12_beginsE_162 : decode cX12_beginsE 162 = .ok (.iload_n 1, 1) := by decide +kernel
theorem dX12_beginsE_163 : decode cX12_beginsE 163 = .ok (.iaload, 1) := by decide +kernel
theorem dX12_beginsE_164 : decode cX12_beginsE 164 = .ok (.invokevirtual 433, 3) := by decide +kernel
theorem dX12_beginsE_167 : decode cX12_beginsE 167 = .ok (.goto 49, 3) := by decide +kernel
theorem dX12_beginsE_170 : decode cX12_beginsE 170 = .ok (.aload_n 0, 1) := by decide +kernel
theorem dX12_beginsE_171 : decode cX12_beginsE 171 = .ok (.iconst 4, 1) := by decide +kernel
theorem dX12_beginsE_172 : decode cX12_beginsE 172 = .ok (.iload_n 1, 1) := by decide +kernel
theorem dX12_beginsE_173 : decode cX12_beginsE 173 = .ok (.invokevirtual 433, 3) := by decide +kernel
theorem dX12_beginsE_176 : decode cX12_beginsE 176 = .ok (.aload_n 0, 1) := by decide +kernel
theorem dX12_beginsE_177 : decode cX12_beginsE 177 = .ok (.getfield 56, 3) := by decide +kernel
theorem dX12_beginsE_180 : decode cX12_beginsE 180 = .ok (.iload_n 1, 1) := by decide +kernel
theorem dX12_beginsE_181 : decode cX12_beginsE 181 = .ok (.iaload, 1) := by decide +kernel
theorem dX12_beginsE_182 : decode cX12_beginsE 182 = .ok (.ifCond .lt 34, 3) := by decide +kernel
theorem dX12_beginsE_185 : decode cX12_beginsE 185 = .ok (.aload_n 0, 1) := by decide +kernel
theorem dX12_beginsE_186 : decode cX12_beginsE 186 = .ok (.iconst 3, 1) := by decide +kernel
theorem dX12_beginsE_187 : decode cX12_beginsE 187 = .ok (.aload_n 0, 1) := by decide +kernel
theorem dX12_beginsE_188 : decode cX12_beginsE 188 = .ok (.getfield 56, 3) := by decide +kernel
theorem dX12_beginsE_191 : decode cX12_beginsE 191 = .ok (.iload_n 1, 1) := by decide +kernel
theorem dX12_beginsE_192 : decode cX12_beginsE 192 = .ok (.iaload, 1) := by decide +kernel
theorem dX12_beginsE_193 : decode cX12_beginsE 193 = .ok (.invokevirtual 433, 3) := by decide +kernel
theorem dX12_beginsE_196 : decode cX12_beginsE 196 = .ok (.goto 20, 3) := by decide +kernel
theorem dX12_beginsE_199 : decode cX12_beginsE 199 = .ok (.aload_n 0, 1) := by decide +kernel
theorem dX12_beginsE_200 : decode cX12_beginsE 200 = .ok (.iconst 4, 1) := by decide +kernel
theorem dX12_beginsE_201 : decode cX12_beginsE 201 = .ok (.iload_n 1, 1) := by decide +kernel
theorem dX12_beginsE_202 : decode cX12_beginsE 202 = .ok (.invokevirtual 433, 3) := by decide +kernel
theorem dX12_beginsE_205 : decode cX12_beginsE 205 = .ok (.aload_n 0, 1) := by decide +kernel
theorem dX12_beginsE_206 : decode cX12_beginsE 206 = .ok (.iconst 2, 1) := by decide +kernel
theorem dX12_beginsE_207 : decode cX12_beginsE 207 = .ok (.aload_n 0, 1) := by decide +kernel
theorem dX12_beginsE_208 : decode cX12_beginsE 208 = .ok (.getfield 56, 3) := by decide +kernel
theorem dX12_beginsE_211 : decode cX12_beginsE 211 = .ok (.iload_n 1, 1) := by decide +kernel
theorem dX12_beginsE_212 : decode cX12_beginsE 212 = .ok (.iaload, 1) := by decide +kernel
theorem dX12_beginsE_213 : decode cX12_beginsE 213 = .ok (.invokevirtual 433, 3) := by decide +kernel
theorem dX12_beginsE_216 : decode cX12_beginsE 216 = .ok (.return_, 1) := by decide +kernel
theorem dX12_goesOnE_0 : decode cX12_goesOnE 0 = .ok (.iload_n 1, 1) := by decide +kernel
theorem dX12_goesOnE_1 : decode cX12_goesOnE 1 = .ok (.iconst 4, 1) := by decide +kernel
theorem dX12_goesOnE_2 : decode cX12_goesOnE 2 = .ok (.if_icmp .ne 11, 3) := by decide +kernel
theorem dX12_goesOnE_5 : decode cX12_goesOnE 5 = .ok (.aload_n 0, 1) := by decide +kernel
theorem dX12_goesOnE_6 : decode cX12_goesOnE 6 = .ok (.iload_n 2, 1) := by decide +kernel
theorem dX12_goesOnE_7 : decode cX12_goesOnE 7 = .ok (.invokevirtual 457, 3) := by decide +kernel
theorem dX12_goesOnE_10 : decode cX12_goesOnE 10 = .ok (.goto 180, 3) := by decide +kernel
theorem dX12_goesOnE_13 : decode cX12_goesOnE 13 = .ok (.iload_n 1, 1) := by decide +kernel
theorem dX12_goesOnE_14 : decode cX12_goesOnE 14 = .ok (.iconst 5, 1) := by decide +kernel
theorem dX12_goesOnE_15 : decode cX12_goesOnE 15 = .ok (.if_icmp .ne 79, 3) := by decide +kernel
theorem dX12_goesOnE_18 : decode cX12_goesOnE 18 = .ok (.aload_n 0, 1) := by decide +kernel
theorem dX12_goesOnE_19 : decode cX12_goesOnE 19 = .ok (.getfield 123, 3) := by decide +kernel
theorem dX12_goesOnE_22 : decode cX12_goesOnE 22 = .ok (.iload_n 2, 1) := by decide +kernel
theorem dX12_goesOnE_23 : decode cX12_goesOnE 23 = .ok (.aload_n 0, 1) := by decide +kernel
theorem dX12_goesOnE_24 : decode cX12_goesOnE 24 = .ok (.bipush 31, 2) := by decide +kernel
theorem dX12_goesOnE_26 : decode cX12_goesOnE 26 = .ok (.invokevirtual 451, 3) := by decide +kernel
theorem dX12_goesOnE_29 : decode cX12_goesOnE 29 = .ok (.iastore, 1) := by decide +kernel
theorem dX12_goesOnE_30 : decode cX12_goesOnE 30 = .ok (.aload_n 0, 1) := by decide +kernel
theorem dX12_goesOnE_31 : decode cX12_goesOnE 31 = .ok (.getfield 53, 3) := by decide +kernel
theorem dX12_goesOnE_34 : decode cX12_goesOnE 34 = .ok (.iload_n 2, 1) := by decide +kernel
theorem dX12_goesOnE_35 : decode cX12_goesOnE 35 = .ok (.iaload, 1) := by decide +kernel
theorem dX12_goesOnE_36 : decode cX12_goesOnE 36 = .ok (.bipush 8, 2) := by decide +kernel
theorem dX12_goesOnE_38 : decode cX12_goesOnE 38 = .ok (.if_icmp .ne 35, 3) := by decide +kernel
theorem dX12_goesOnE_41 : decode cX12_goesOnE 41 = .ok (.aload_n 0, 1) := by decide +kernel
theorem dX12_goesOnE_42 : decode cX12_goesOnE 42 = .ok (.iconst 1, 1) := by decide +kernel
theorem dX12_goesOnE_43 : decode cX12_goesOnE 43 = .ok (.invokevirtual 424, 3) := by decide +kernel
theorem dX12_goesOnE_46 : decode cX12_goesOnE 46 = .ok (.aload_n 0, 1) := by decide +kernel
theorem dX12_goesOnE_47 : decode cX12_goesOnE 47 = .ok (.iconst 1, 1) := by decide +kernel
theorem dX12_goesOnE_48 : decode cX12_goesOnE 48 = .ok (.invokevirtual 424, 3) := by decide +kernel
theorem dX12_goesOnE_51 : decode cX12_goesOnE 51 = .ok (.aload_n 0, 1) := by decide +kernel
theorem dX12_goesOnE_52 : decode cX12_goesOnE 52 = .ok (.getfield 129, 3) := by decide +kernel
theorem dX12_goesOnE_55 : decode cX12_goesOnE 55 = .ok (.iload_n 2, 1) := by decide +kernel
theorem dX12_goesOnE_56 : decode cX12_goesOnE 56 = .ok (.aload_n 0, 1) := by decide +kernel
theorem dX12_goesOnE_57 : decode cX12_goesOnE 57 = .ok (.bipush 30, 2) := by decide +kernel
theorem dX12_goesOnE_59 : decode cX12_goesOnE 59 = .ok (.invokevirtual 451, 3) := by decide +kernel
theorem dX12_goesOnE_62 : decode cX12_goesOnE 62 = .ok (.iastore, 1) := by decide +kernel
theorem dX12_goesOnE_63 : decode cX12_goesOnE 63 = .ok (.aload_n 0, 1) := by decide +kernel
theorem dX12_goesOnE_64 : decode cX12_goesOnE 64 = .ok (.aload_n 0, 1) := by decide +kernel
theorem dX12_goesOnE_65 : decode cX12_goesOnE 65 = .ok (.getfield 123, 3) := by decide +kernel
theorem dX12_goesOnE_68 : decode cX12_goesOnE 68 = .ok (.iload_n 2, 1) := by decide +kernel
theorem dX12_goesOnE_69 : decode cX12_goesOnE 69 = .ok (.iaload, 1) := by decide +kernel
theorem dX12_goesOnE_70 : decode cX12_goesOnE 70 = .ok (.invokevirtual 454, 3) := by decide +kernel
theorem dX12_goesOnE_73 : decode cX12_goesOnE 73 = .ok (.aload_n 0, 1) := by decide +kernel
theorem dX12_goesOnE_74 : decode cX12_goesOnE 74 = .ok (.bipush 7, 2) := by decide +kernel
theorem dX12_goesOnE_76 : decode cX12_goesOnE 76 = .ok (.iload_n 2, 1) := by decide +kernel
theorem dX12_goesOnE_77 : decode cX12_goesOnE 77 = .ok (.invokevirtual 433, 3) := by decide +kernel
theorem dX12_goesOnE_80 : decode cX12_goesOnE 80 = .ok (.aload_n 0, 1) := by decide +kernel
theorem dX12_goesOnE_81 : decode cX12_goesOnE 81 = .ok (.iconst 2, 1) := by decide +kernel
theorem dX12_goesOnE_82 : decode cX12_goesOnE 82 = .ok (.aload_n 0, 1) := by decide +kernel
theorem dX12_goesOnE_83 : decode cX12_goesOnE 83 = .ok (.getfield 59, 3) := by decide +kernel
theorem dX12_goesOnE_86 : decode cX12_goesOnE 86 = .ok (.iload_n 2, 1) := by decide +kernel
theorem dX12_goesOnE_87 : decode cX12_goesOnE 87 = .ok (.iaload, 1) := by decide +kernel
theorem dX12_goesOnE_88 : decode cX12_goesOnE 88 = .ok (.invokevirtual 433, 3) := by decide +kernel
theorem dX12_goesOnE_91 : decode cX12_goesOnE 91 = .ok (.goto 99, 3) := by decide +kernel
theorem dX12_goesOnE_94 : decode cX12_goesOnE 94 = .ok (.aload_n 0, 1) := by decide +kernel
theorem dX12_goesOnE_95 : decode cX12_goesOnE 95 = .ok (.getfield 126, 3) := by decide +kernel
theorem dX12_goesOnE_98 : decode cX12_goesOnE 98 = .ok (.iload_n 2, 1) := by decide +kernel
theorem dX12_goesOnE_99 : decode cX12_goesOnE 99 = .ok (.aload_n 0, 1) := by decide +kernel
theorem dX12_goesOnE_100 : decode cX12_goesOnE 100 = .ok (.bipush 31, 2) := by decide +kernel
theorem dX12_goesOnE_102 : decode cX12_goesOnE 102 = .ok (.invokevirtual 451, 3) := by decide +kernel
theorem dX12_goesOnE_105 : decode cX12_goesOnE 105 = .ok (.iastore, 1) := by decide +kernel
theorem dX12_goesOnE_106 : decode cX12_goesOnE 106 = .ok (.aload_n 0, 1) := by decide +kernel
theorem dX12_goesOnE_107 : decode cX12_goesOnE 107 = .ok (.iconst 1, 1) := by decide +kernel
theorem dX12_goesOnE_108 : decode cX12_goesOnE 108 = .ok (.invokevirtual 424, 3) := by decide +kernel
theorem dX12_goesOnE_111 : decode cX12_goesOnE 111 = .ok (.aload_n 0, 1) := by decide +kernel
theorem dX12_goesOnE_112 : decode cX12_goesOnE 112 = .ok (.iconst 1, 1) := by decide +kernel
theorem dX12_goesOnE_113 : decode cX12_goesOnE 113 = .ok (.invokevirtual 424, 3) := by decide +kernel
theorem dX12_goesOnE_116 : decode cX12_goesOnE 116 = .ok (.aload_n 0, 1) := by decide +kernel
theorem dX12_goesOnE_117 : decode cX12_goesOnE 117 = .ok (.bipush 30, 2) := by decide +kernel
theorem dX12_goesOnE_119 : decode cX12_goesOnE 119 = .ok (.invokevirtual 451, 3) := by decide +kernel
theorem dX12_goesOnE_122 : decode cX12_goesOnE 122 = .ok (.istore_n 3, 1) := by decide +kernel
theorem dX12_goesOnE_123 : decode cX12_goesOnE 123 = .ok (.aload_n 0, 1) := by decide +kernel
theorem dX12_goesOnE_124 : decode cX12_goesOnE 124 = .ok (.aload_n 0, 1) := by decide +kernel
theorem dX12_goesOnE_125 : decode cX12_goesOnE 125 = .ok (.getfield 126, 3) := by decide +kernel
theorem dX12_goesOnE_128 : decode cX12_goesOnE 128 = .ok (.iload_n 2, 1) := by decide +kernel
theorem dX12_goesOnE_129 : decode cX12_goesOnE 129 = .ok (.iaload, 1) := by decide +kernel
theorem dX12_goesOnE_130 : decode cX12_goesOnE 130 = .ok (.invokevirtual 454, 3) := by decide +kernel
theorem dX12_goesOnE_133 : decode cX12_goesOnE 133 = .ok (.aload_n 0, 1) := by decide +kernel
theorem dX12_goesOnE_134 : decode cX12_goesOnE 134 = .ok (.getfield 53, 3) := by decide +kernel
theorem dX12_goesOnE_137 : decode cX12_goesOnE 137 = .ok (.iload_n 2, 1) := by decide +kernel
theorem dX12_goesOnE_138 : decode cX12_goesOnE 138 = .ok (.iaload, 1) := by decide +kernel
theorem dX12_goesOnE_139 : decode cX12_goesOnE 139 = .ok (.bipush 7, 2) := by decide +kernel
theorem dX12_goesOnE_141 : decode cX12_goesOnE 141 = .ok (.if_icmp .ne 13, 3) := by decide +kernel
theorem dX12_goesOnE_144 : decode cX12_goesOnE 144 = .ok (.aload_n 0, 1) := by decide +kernel
theorem dX12_goesOnE_145 : decode cX12_goesOnE 145 = .ok (.aload_n 0, 1) := by decide +kernel
theorem dX12_goesOnE_146 : decode cX12_goesOnE 146 = .ok (.getfield 123, 3) := by decide +kernel
theorem dX12_goesOnE_149 : decode cX12_goesOnE 149 = .ok (.iload_n 2, 1) := by decide +kernel
theorem dX12_goesOnE_150 : decode cX12_goesOnE 150 = .ok (.iaload, 1) := by decide +kernel
theorem dX12_goesOnE_151 : decode cX12_goesOnE 151 = .ok (.invokevirtual 454, 3) := by decide +kernel
theorem dX12_goesOnE_154 : decode cX12_goesOnE 154 = .ok (.aload_n 0, 1) := by decide +kernel
theorem dX12_goesOnE_155 : decode cX12_goesOnE 155 = .ok (.iconst 1, 1) := by decide +kernel
theorem dX12_goesOnE_156 : decode cX12_goesOnE 156 = .ok (.invokevirtual 424, 3) := by decide +kernel
theorem dX12_goesOnE_159 : decode cX12_goesOnE 159 = .ok (.aload_n 0, 1) := by decide +kernel
theorem dX12_goesOnE_160 : decode cX12_goesOnE 160 = .ok (.iconst 0, 1) := by decide +kernel
theorem dX12_goesOnE_161 : decode cX12_goesOnE 161 = .ok (.invokevirtual 424, 3) := by decide +kernel
theorem dX12_goesOnE_164 : decode cX12_goesOnE 164 = .ok (.aload_n 0, 1) := by decide +kernel
theorem dX12_goesOnE_165 : decode cX12_goesOnE 165 = .ok (.iload_n 3, 1) := by decide +kernel
theorem dX12_goesOnE_166 : decode cX12_goesOnE 166 = .ok (.invokevirtual 454, 3) := by decide +kernel
theorem dX12_goesOnE_169 : decode cX12_goesOnE 169 = .ok (.aload_n 0, 1) := by decide +kernel
theorem dX12_goesOnE_170 : decode cX12_goesOnE 170 = .ok (.getfield 53, 3) := by decide +kernel
theorem dX12_goesOnE_173 : decode cX12_goesOnE 173 = .ok (.iload_n 2, 1) := by decide +kernel
theorem dX12_goesOnE_174 : decode cX12_goesOnE 174 = .ok (.iaload, 1) := by decide +kernel
theorem dX12_goesOnE_175 : decode cX12_goesOnE 175 = .ok (.bipush 8, 2) := by decide +kernel
theorem dX12_goesOnE_177 : decode cX12_goesOnE 177 = .ok (.if_icmp .ne 13, 3) := by decide +kernel
theorem dX12_goesOnE_180 : decode cX12_goesOnE 180 = .ok (.aload_n 0, 1) := by decide +kernel
theorem dX12_goesOnE_181 : decode cX12_goesOnE 181 = .ok (.aload_n 0, 1) := by decide +kernel
theorem dX12_goesOnE_182 : decode cX12_goesOnE 182 = .ok (.getfield 129, 3) := by decide +kernel
theorem dX12_goesOnE_185 : decode cX12_goesOnE 185 = .ok (.iload_n 2, 1) := by decide +kernel
theorem dX12_goesOnE_186 : decode cX12_goesOnE 186 = .ok (.iaload, 1) := by decide +kernel
theorem dX12_goesOnE_187 : decode cX12_goesOnE 187 = .ok (.invokevirtual 454, 3) := by decide +kernel
theorem dX12_goesOnE_190 : decode cX12_goesOnE 190 = .ok (.return_, 1) := by decide +kernel
theorem dX12_doneE_0 : decode cX12_doneE 0 = .ok (.aload_n 0, 1) := by decide +kernel
theorem dX12_doneE_1 : decode cX12_doneE 1 = .ok (.getfield 53, 3) := by decide +kernel
theorem dX12_doneE_4 : decode cX12_doneE 4 = .ok (.iload_n 1, 1) := by decide +kernel
theorem dX12_doneE_5 : decode cX12_doneE 5 = .ok (.iaload, 1) := by decide +kernel
theorem dX12_doneE_6 : decode cX12_doneE 6 = .ok (.lookupswitch 89 #[(4, 26), (9, 55)], 26) := by decide +kernel
theorem dX12_doneE_32 : decode cX12_doneE 32 = .ok (.aload_n 0, 1) := by decide +kernel
theorem dX12_doneE_33 : decode cX12_doneE 33 = .ok (.bipush 6, 2) := by decide +kernel
theorem dX12_doneE_35 : decode cX12_doneE 35 = .ok (.invokevirtual 424, 3) := by decide +kernel
theorem dX12_doneE_38 : decode cX12_doneE 38 = .ok (.aload_n 0, 1) := by decide +kernel
theorem dX12_doneE_39 : decode cX12_doneE 39 = .ok (.aload_n 0, 1) := by decide +kernel
theorem dX12_doneE_40 : decode cX12_doneE 40 = .ok (.getfield 65, 3) := by decide +kernel
theorem dX12_doneE_43 : decode cX12_doneE 43 = .ok (.iload_n 1, 1) := by decide +kernel
theorem dX12_doneE_44 : decode cX12_doneE 44 = .ok (.iaload, 1) := by decide +kernel
theorem dX12_doneE_45 : decode cX12_doneE 45 = .ok (.invokevirtual 424, 3) := by decide +kernel
theorem dX12_doneE_48 : decode cX12_doneE 48 = .ok (.aload_n 0, 1) := by decide +kernel
theorem dX12_doneE_49 : decode cX12_doneE 49 = .ok (.aload_n 0, 1) := by decide +kernel
theorem dX12_doneE_50 : decode cX12_doneE 50 = .ok (.getfield 68, 3) := by decide +kernel
theorem dX12_doneE_53 : decode cX12_doneE 53 = .ok (.iload_n 1, 1) := by decide +kernel
theorem dX12_doneE_54 : decode cX12_doneE 54 = .ok (.iaload, 1) := by decide +kernel
theorem dX12_doneE_55 : decode cX12_doneE 55 = .ok (.invokevirtual 424, 3) := by decide +kernel
theorem dX12_doneE_58 : decode cX12_doneE 58 = .ok (.goto 47, 3) := by decide +kernel
theorem dX12_doneE_61 : decode cX12_doneE 61 = .ok (.aload_n 0, 1) := by decide +kernel
theorem dX12_doneE_62 : decode cX12_doneE 62 = .ok (.bipush 32, 2) := by decide +kernel
theorem dX12_doneE_64 : decode cX12_doneE 64 = .ok (.invokevirtual 424, 3) := by decide +kernel
theorem dX12_doneE_67 : decode cX12_doneE 67 = .ok (.aload_n 0, 1) := by decide +kernel
theorem dX12_doneE_68 : decode cX12_doneE 68 = .ok (.aload_n 0, 1) := by decide +kernel
theorem dX12_doneE_69 : decode cX12_doneE 69 = .ok (.getfield 114, 3) := by decide +kernel
theorem dX12_doneE_72 : decode cX12_doneE 72 = .ok (.aload_n 0, 1) := by decide +kernel
theorem dX12_doneE_73 : decode cX12_doneE 73 = .ok (.getfield 65, 3) := by decide +kernel
theorem dX12_doneE_76 : decode cX12_doneE 76 = .ok (.iload_n 1, 1) := by decide +kernel
theorem dX12_doneE_77 : decode cX12_doneE 77 = .ok (.iaload, 1) := by decide +kernel
theorem dX12_doneE_78 : decode cX12_doneE 78 = .ok (.iaload, 1) := by decide +kernel
theorem dX12_doneE_79 : decode cX12_doneE 79 = .ok (.invokevirtual 424, 3) := by decide +kernel
theorem dX12_doneE_82 : decode cX12_doneE 82 = .ok (.aload_n 0, 1) := by decide +kernel
theorem dX12_doneE_83 : decode cX12_doneE 83 = .ok (.aload_n 0, 1) := by decide +kernel
theorem dX12_doneE_84 : decode cX12_doneE 84 = .ok (.getfield 68, 3) := by decide +kernel
theorem dX12_doneE_87 : decode cX12_doneE 87 = .ok (.iload_n 1, 1) := by decide +kernel
theorem dX12_doneE_88 : decode cX12_doneE 88 = .ok (.iaload, 1) := by decide +kernel
theorem dX12_doneE_89 : decode cX12_doneE 89 = .ok (.invokevirtual 424, 3) := by decide +kernel
theorem dX12_doneE_92 : decode cX12_doneE 92 = .ok (.goto 13, 3) := by decide +kernel
theorem dX12_doneE_95 : decode cX12_doneE 95 = .ok (.aload_n 0, 1) := by decide +kernel
theorem dX12_doneE_96 : decode cX12_doneE 96 = .ok (.aload_n 0, 1) := by decide +kernel
theorem dX12_doneE_97 : decode cX12_doneE 97 = .ok (.getfield 65, 3) := by decide +kernel
theorem dX12_doneE_100 : decode cX12_doneE 100 = .ok (.iload_n 1, 1) := by decide +kernel
theorem dX12_doneE_101 : decode cX12_doneE 101 = .ok (.iaload, 1) := by decide +kernel
theorem dX12_doneE_102 : decode cX12_doneE 102 = .ok (.invokevirtual 424, 3) := by decide +kernel
theorem dX12_doneE_105 : decode cX12_doneE 105 = .ok (.return_, 1) := by decide +kernel
theorem dX12_compile_0 : decode cX12_compile 0 = .ok (.aload_n 0, 1) := by decide +kernel
theorem dX12_compile_1 : decode cX12_compile 1 = .ok (.aload_n 0, 1) := by decide +kernel
theorem dX12_compile_2 : decode cX12_compile 2 = .ok (.getfield 176, 3) := by decide +kernel
theorem dX12_compile_5 : decode cX12_compile 5 = .ok (.putfield 193, 3) := by decide +kernel
theorem dX12_compile_8 : decode cX12_compile 8 = .ok (.iconst 0, 1) := by decide +kernel
theorem dX12_compile_9 : decode cX12_compile 9 = .ok (.istore_n 1, 1) := by decide +kernel
theorem dX12_compile_10 : decode cX12_compile 10 = .ok (.iload_n 1, 1) := by decide +kernel
theorem dX12_compile_11 : decode cX12_compile 11 = .ok (.aload_n 0, 1) := by decide +kernel
theorem dX12_compile_12 : decode cX12_compile 12 = .ok (.getfield 193, 3) := by decide +kernel
theorem dX12_compile_15 : decode cX12_compile 15 = .ok (.if_icmp .ge 21, 3) := by decide +kernel
theorem dX12_compile_18 : decode cX12_compile 18 = .ok (.aload_n 0, 1) := by decide +kernel
theorem dX12_compile_19 : decode cX12_compile 19 = .ok (.getfield 25, 3) := by decide +kernel
theorem dX12_compile_22 : decode cX12_compile 22 = .ok (.iload_n 1, 1) := by decide +kernel
theorem dX12_compile_23 : decode cX12_compile 23 = .ok (.aload_n 0, 1) := by decide +kernel
theorem dX12_compile_24 : decode cX12_compile 24 = .ok (.getfield 7, 3) := by decide +kernel
theorem dX12_compile_27 : decode cX12_compile 27 = .ok (.iload_n 1, 1) := by decide +kernel
theorem dX12_compile_28 : decode cX12_compile 28 = .ok (.iaload, 1) := by decide +kernel
theorem dX12_compile_29 : decode cX12_compile 29 = .ok (.iastore, 1) := by decide +kernel
theorem dX12_compile_30 : decode cX12_compile 30 = .ok (.iinc 1 1, 3) := by decide +kernel
theorem dX12_compile_33 : decode cX12_compile 33 = .ok (.goto (-23), 3) := by decide +kernel
theorem dX12_compile_36 : decode cX12_compile 36 = .ok (.aload_n 0, 1) := by decide +kernel
theorem dX12_compile_37 : decode cX12_compile 37 = .ok (.invokevirtual 460, 3) := by decide +kernel
theorem dX12_compile_40 : decode cX12_compile 40 = .ok (.aload_n 0, 1) := by decide +kernel
theorem dX12_compile_41 : decode cX12_compile 41 = .ok (.invokevirtual 243, 3) := by decide +kernel
theorem dX12_compile_44 : decode cX12_compile 44 = .ok (.ifCond .eq 28, 3) := by decide +kernel
theorem dX12_compile_47 : decode cX12_compile 47 = .ok (.aload_n 0, 1) := by decide +kernel
theorem dX12_compile_48 : decode cX12_compile 48 = .ok (.invokevirtual 463, 3) := by decide +kernel
theorem dX12_compile_51 : decode cX12_compile 51 = .ok (.aload_n 0, 1) := by decide +kernel
theorem dX12_compile_52 : decode cX12_compile 52 = .ok (.getfield 421, 3) := by decide +kernel
theorem dX12_compile_55 : decode cX12_compile 55 = .ok (.aload_n 0, 1) := by decide +kernel
theorem dX12_compile_56 : decode cX12_compile 56 = .ok (.getfield 167, 3) := by decide +kernel
theorem dX12_compile_59 : decode cX12_compile 59 = .ok (.if_icmp .le 13, 3) := by decide +kernel
theorem dX12_compile_62 : decode cX12_compile 62 = .ok (.aload_n 0, 1) := by decide +kernel
theorem dX12_compile_63 : decode cX12_compile 63 = .ok (.bipush 10, 2) := by decide +kernel
