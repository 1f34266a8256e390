theorem dX11_init_0 : decode cX11_init 0 = .ok (.aload_n 0, 1) := by decide +kernel
theorem dX11_init_1 : decode cX11_init 1 = .ok (.invokespecial 1, 3) := by decide +kernel
theorem dX11_init_4 : decode cX11_init 4 = .ok (.aload_n 0, 1) := by decide +kernel
theorem dX11_init_5 : decode cX11_init 5 = .ok (.bipush 6, 2) := by decide +kernel
theorem dX11_init_7 : decode cX11_init 7 = .ok (.newarray .int, 2) := by decide +kernel
theorem dX11_init_9 : decode cX11_init 9 = .ok (.putfield 7, 3) := by decide +kernel
theorem dX11_init_12 : decode cX11_init 12 = .ok (.aload_n 0, 1) := by decide +kernel
theorem dX11_init_13 : decode cX11_init 13 = .ok (.bipush 6, 2) := by decide +kernel
theorem dX11_init_15 : decode cX11_init 15 = .ok (.newarray .int, 2) := by decide +kernel
theorem dX11_init_17 : decode cX11_init 17 = .ok (.putfield 13, 3) := by decide +kernel
theorem dX11_init_20 : decode cX11_init 20 = .ok (.aload_n 0, 1) := by decide +kernel
theorem dX11_init_21 : decode cX11_init 21 = .ok (.bipush 6, 2) := by decide +kernel
theorem dX11_init_23 : decode cX11_init 23 = .ok (.newarray .int, 2) := by decide +kernel
theorem dX11_init_25 : decode cX11_init 25 = .ok (.putfield 16, 3) := by decide +kernel
theorem dX11_init_28 : decode cX11_init 28 = .ok (.aload_n 0, 1) := by decide +kernel
theorem dX11_init_29 : decode cX11_init 29 = .ok (.bipush 30, 2) := by decide +kernel
theorem dX11_init_31 : decode cX11_init 31 = .ok (.newarray .int, 2) := by decide +kernel
theorem dX11_init_33 : decode cX11_init 33 = .ok (.putfield 19, 3) := by decide +kernel
theorem dX11_init_36 : decode cX11_init 36 = .ok (.aload_n 0, 1) := by decide +kernel
theorem dX11_init_37 : decode cX11_init 37 = .ok (.bipush 6, 2) := by decide +kernel
theorem dX11_init_39 : decode cX11_init 39 = .ok (.newarray .int, 2) := by decide +kernel
theorem dX11_init_41 : decode cX11_init 41 = .ok (.putfield 22, 3) := by decide +kernel
theorem dX11_init_44 : decode cX11_init 44 = .ok (.aload_n 0, 1) := by decide +kernel
theorem dX11_init_45 : decode cX11_init 45 = .ok (.bipush 6, 2) := by decide +kernel
theorem dX11_init_47 : decode cX11_init 47 = .ok (.newarray .int, 2) := by decide +kernel
theorem dX11_init_49 : decode cX11_init 49 = .ok (.putfield 25, 3) := by decide +kernel
theorem dX11_init_52 : decode cX11_init 52 = .ok (.aload_n 0, 1) := by decide +kernel
theorem dX11_init_53 : decode cX11_init 53 = .ok (.bipush 6, 2) := by decide +kernel
theorem dX11_init_55 : decode cX11_init 55 = .ok (.newarray .int, 2) := by decide +kernel
theorem dX11_init_57 : decode cX11_init 57 = .ok (.putfield 28, 3) := by decide +kernel
theorem dX11_init_60 : decode cX11_init 60 = .ok (.aload_n 0, 1) := by decide +kernel
theorem dX11_init_61 : decode cX11_init 61 = .ok (.sipush 1830, 3) := by decide +kernel
theorem dX11_init_64 : decode cX11_init 64 = .ok (.newarray .long, 2) := by decide +kernel
theorem dX11_init_66 : decode cX11_init 66 = .ok (.putfield 31, 3) := by decide +kernel
theorem dX11_init_69 : decode cX11_init 69 = .ok (.aload_n 0, 1) := by decide +kernel
theorem dX11_init_70 : decode cX11_init 70 = .ok (.bipush 6, 2) := by decide +kernel
theorem dX11_init_72 : decode cX11_init 72 = .ok (.newarray .long, 2) := by decide +kernel
theorem dX11_init_74 : decode cX11_init 74 = .ok (.putfield 35, 3) := by decide +kernel
theorem dX11_init_77 : decode cX11_init 77 = .ok (.aload_n 0, 1) := by decide +kernel
theorem dX11_init_78 : decode cX11_init 78 = .ok (.bipush 30, 2) := by decide +kernel
theorem dX11_init_80 : decode cX11_init 80 = .ok (.newarray .long, 2) := by decide +kernel
theorem dX11_init_82 : decode cX11_init 82 = .ok (.putfield 38, 3) := by decide +kernel
theorem dX11_init_85 : decode cX11_init 85 = .ok (.aload_n 0, 1) := by decide +kernel
theorem dX11_init_86 : decode cX11_init 86 = .ok (.bipush 7, 2) := by decide +kernel
theorem dX11_init_88 : decode cX11_init 88 = .ok (.newarray .int, 2) := by decide +kernel
theorem dX11_init_90 : decode cX11_init 90 = .ok (.putfield 41, 3) := by decide +kernel
theorem dX11_init_93 : decode cX11_init 93 = .ok (.aload_n 0, 1) := by decide +kernel
theorem dX11_init_94 : decode cX11_init 94 = .ok (.bipush 8, 2) := by decide +kernel
theorem dX11_init_96 : decode cX11_init 96 = .ok (.newarray .int, 2) := by decide +kernel
theorem dX11_init_98 : decode cX11_init 98 = .ok (.putfield 44, 3) := by decide +kernel
theorem dX11_init_101 : decode cX11_init 101 = .ok (.aload_n 0, 1) := by decide +kernel
theorem dX11_init_102 : decode cX11_init 102 = .ok (.bipush 64, 2) := by decide +kernel
theorem dX11_init_104 : decode cX11_init 104 = .ok (.newarray .int, 2) := by decide +kernel
theorem dX11_init_106 : decode cX11_init 106 = .ok (.putfield 47, 3) := by decide +kernel
theorem dX11_init_109 : decode cX11_init 109 = .ok (.aload_n 0, 1) := by decide +kernel
theorem dX11_init_110 : decode cX11_init 110 = .ok (.bipush 64, 2) := by decide +kernel
theorem dX11_init_112 : decode cX11_init 112 = .ok (.newarray .int, 2) := by decide +kernel
theorem dX11_init_114 : decode cX11_init 114 = .ok (.putfield 50, 3) := by decide +kernel
theorem dX11_init_117 : decode cX11_init 117 = .ok (.aload_n 0, 1) := by decide +kernel
theorem dX11_init_118 : decode cX11_init 118 = .ok (.bipush 8, 2) := by decide +kernel
theorem dX11_init_120 : decode cX11_init 120 = .ok (.newarray .int, 2) := by decide +kernel
theorem dX11_init_122 : decode cX11_init 122 = .ok (.putfield 53, 3) := by decide +kernel
theorem dX11_init_125 : decode cX11_init 125 = .ok (.aload_n 0, 1) := by decide +kernel
theorem dX11_init_126 : decode cX11_init 126 = .ok (.iconst (-1), 1) := by decide +kernel
theorem dX11_init_127 : decode cX11_init 127 = .ok (.putfield 56, 3) := by decide +kernel
theorem dX11_init_130 : decode cX11_init 130 = .ok (.aload_n 0, 1) := by decide +kernel
theorem dX11_init_131 : decode cX11_init 131 = .ok (.bipush 100, 2) := by decide +kernel
theorem dX11_init_133 : decode cX11_init 133 = .ok (.putfield 60, 3) := by decide +kernel
theorem dX11_init_136 : decode cX11_init 136 = .ok (.aload_n 0, 1) := by decide +kernel
theorem dX11_init_137 : decode cX11_init 137 = .ok (.iconst (-1), 1) := by decide +kernel
theorem dX11_init_138 : decode cX11_init 138 = .ok (.putfield 63, 3) := by decide +kernel
theorem dX11_init_141 : decode cX11_init 141 = .ok (.aload_n 0, 1) := by decide +kernel
theorem dX11_init_142 : decode cX11_init 142 = .ok (.bipush 6, 2) := by decide +kernel
theorem dX11_init_144 : decode cX11_init 144 = .ok (.newarray .int, 2) := by decide +kernel
theorem dX11_init_146 : decode cX11_init 146 = .ok (.putfield 66, 3) := by decide +kernel
theorem dX11_init_149 : decode cX11_init 149 = .ok (.aload_n 0, 1) := by decide +kernel
theorem dX11_init_150 : decode cX11_init 150 = .ok (.bipush 30, 2) := by decide +kernel
theorem dX11_init_152 : decode cX11_init 152 = .ok (.newarray .int, 2) := by decide +kernel
theorem dX11_init_154 : decode cX11_init 154 = .ok (.putfield 69, 3) := by decide +kernel
theorem dX11_init_157 : decode cX11_init 157 = .ok (.aload_n 0, 1) := by decide +kernel
theorem dX11_init_158 : decode cX11_init 158 = .ok (.bipush 30, 2) := by decide +kernel
theorem dX11_init_160 : decode cX11_init 160 = .ok (.newarray .int, 2) := by decide +kernel
theorem dX11_init_162 : decode cX11_init 162 = .ok (.putfield 72, 3) := by decide +kernel
theorem dX11_init_165 : decode cX11_init 165 = .ok (.aload_n 0, 1) := by decide +kernel
theorem dX11_init_166 : decode cX11_init 166 = .ok (.bipush 30, 2) := by decide +kernel
theorem dX11_init_168 : decode cX11_init 168 = .ok (.newarray .int, 2) := by decide +kernel
theorem dX11_init_170 : decode cX11_init 170 = .ok (.putfield 75, 3) := by decide +kernel
theorem dX11_init_173 : decode cX11_init 173 = .ok (.aload_n 0, 1) := by decide +kernel
theorem dX11_init_174 : decode cX11_init 174 = .ok (.bipush 30, 2) := by decide +kernel
theorem dX11_init_176 : decode cX11_init 176 = .ok (.newarray .int, 2) := by decide +kernel
theorem dX11_init_178 : decode cX11_init 178 = .ok (.putfield 78, 3) := by decide +kernel
theorem dX11_init_181 : decode cX11_init 181 = .ok (.aload_n 0, 1) := by decide +kernel
theorem dX11_init_182 : decode cX11_init 182 = .ok (.bipush 24, 2) := by decide +kernel
theorem dX11_init_184 : decode cX11_init 184 = .ok (.newarray .int, 2) := by decide +kernel
theorem dX11_init_186 : decode cX11_init 186 = .ok (.putfield 81, 3) := by decide +kernel
theorem dX11_init_189 : decode cX11_init 189 = .ok (.aload_n 0, 1) := by decide +kernel
theorem dX11_init_190 : decode cX11_init 190 = .ok (.bipush 24, 2) := by decide +kernel
theorem dX11_init_192 : decode cX11_init 192 = .ok (.newarray .int, 2) := by decide +kernel
theorem dX11_init_194 : decode cX11_init 194 = .ok (.putfield 84, 3) := by decide +kernel
theorem dX11_init_197 : decode cX11_init 197 = .ok (.aload_n 0, 1) := by decide +kernel
theorem dX11_init_198 : decode cX11_init 198 = .ok (.bipush 24, 2) := by decide +kernel
theorem dX11_init_200 : decode cX11_init 200 = .ok (.newarray .int, 2) := by decide +kernel
theorem dX11_init_202 : decode cX11_init 202 = .ok (.putfield 87, 3) := by decide +kernel
theorem dX11_init_205 : decode cX11_init 205 = .ok (.aload_n 0, 1) := by decide +kernel
theorem dX11_init_206 : decode cX11_init 206 = .ok (.bipush 24, 2) := by decide +kernel
theorem dX11_init_208 : decode cX11_init 208 = .ok (.newarray .int, 2) := by decide +kernel
theorem dX11_init_210 : decode cX11_init 210 = .ok (.putfield 90, 3) := by decide +kernel
theorem dX11_init_213 : decode cX11_init 213 = .ok (.aload_n 0, 1) := by decide +kernel
theorem dX11_init_214 : decode cX11_init 214 = .ok (.bipush 24, 2) := by decide +kernel
theorem dX11_init_216 : decode cX11_init 216 = .ok (.newarray .boolean, 2) := by decide +kernel
theorem dX11_init_218 : decode cX11_init 218 = .ok (.putfield 93, 3) := by decide +kernel
theorem dX11_init_221 : decode cX11_init 221 = .ok (.aload_n 0, 1) := by decide +kernel
theorem dX11_init_222 : decode cX11_init 222 = .ok (.bipush 10, 2) := by decide +kernel
theorem dX11_init_224 : decode cX11_init 224 = .ok (.newarray .int, 2) := by decide +kernel
theorem dX11_init_226 : decode cX11_init 226 = .ok (.putfield 97, 3) := by decide +kernel
theorem dX11_init_229 : decode cX11_init 229 = .ok (.aload_n 0, 1) := by decide +kernel
theorem dX11_init_230 : decode cX11_init 230 = .ok (.bipush 10, 2) := by decide +kernel
theorem dX11_init_232 : decode cX11_init 232 = .ok (.newarray .int, 2) := by decide +kernel
theorem dX11_init_234 : decode cX11_init 234 = .ok (.putfield 100, 3) := by decide +kernel
theorem dX11_init_237 : decode cX11_init 237 = .ok (.aload_n 0, 1) := by decide +kernel
theorem dX11_init_238 : decode cX11_init 238 = .ok (.bipush 12, 2) := by decide +kernel
theorem dX11_init_240 : decode cX11_init 240 = .ok (.newarray .int, 2) := by decide +kernel
theorem dX11_init_242 : decode cX11_init 242 = .ok (.putfield 103, 3) := by decide +kernel
theorem dX11_init_245 : decode cX11_init 245 = .ok (.aload_n 0, 1) := by decide +kernel
theorem dX11_init_246 : decode cX11_init 246 = .ok (.sipush 210, 3) := by decide +kernel
theorem dX11_init_249 : decode cX11_init 249 = .ok (.newarray .long, 2) := by decide +kernel
theorem dX11_init_251 : decode cX11_init 251 = .ok (.putfield 106, 3) := by decide +kernel
theorem dX11_init_254 : decode cX11_init 254 = .ok (.iconst 0, 1) := by decide +kernel
theorem dX11_init_255 : decode cX11_init 255 = .ok (.istore_n 1, 1) := by decide +kernel
theorem dX11_init_256 : decode cX11_init 256 = .ok (.iload_n 1, 1) := by decide +kernel
theorem dX11_init_257 : decode cX11_init 257 = .ok (.bipush 6, 2) := by decide +kernel
theorem dX11_init_259 : decode cX11_init 259 = .ok (.if_icmp .ge 32, 3) := by decide +kernel
theorem dX11_init_262 : decode cX11_init 262 = .ok (.aload_n 0, 1) := by decide +kernel
theorem dX11_init_263 : decode cX11_init 263 = .ok (.getfield 22, 3) := by decide +kernel
theorem dX11_init_266 : decode cX11_init 266 = .ok (.iload_n 1, 1) := by decide +kernel
theorem dX11_init_267 : decode cX11_init 267 = .ok (.bipush 30, 2) := by decide +kernel
theorem dX11_init_269 : decode cX11_init 269 = .ok (.iastore, 1) := by decide +kernel
theorem dX11_init_270 : decode cX11_init 270 = .ok (.aload_n 0, 1) := by decide +kernel
theorem dX11_init_271 : decode cX11_init 271 = .ok (.getfield 25, 3) := by decide +kernel
theorem dX11_init_274 : decode cX11_init 274 = .ok (.iload_n 1, 1) := by decide +kernel
theorem dX11_init_275 : decode cX11_init 275 = .ok (.iconst 1, 1) := by decide +kernel
theorem dX11_init_276 : decode cX11_init 276 = .ok (.iastore, 1) := by decide +kernel
theorem dX11_init_277 : decode cX11_init 277 = .ok (.aload_n 0, 1) := by decide +kernel
theorem dX11_init_278 : decode cX11_init 278 = .ok (.getfield 28, 3) := by decide +kernel
theorem dX11_init_281 : decode cX11_init 281 = .ok (.iload_n 1, 1) := by decide +kernel
theorem dX11_init_282 : decode cX11_init 282 = .ok (.bipush 50, 2) := by decide +kernel
theorem dX11_init_284 : decode cX11_init 284 = .ok (.iastore, 1) := by decide +kernel
theorem dX11_init_285 : decode cX11_init 285 = .ok (.iinc 1 1, 3) := by decide +kernel
theorem dX11_init_288 : decode cX11_init 288 = .ok (.goto (-32), 3) := by decide +kernel
theorem dX11_init_291 : decode cX11_init 291 = .ok (.return_, 1) := by decide +kernel
theorem dX11_in_0 : decode cX11_in 0 = .ok (.lload_n 0, 1) := by decide +kernel
theorem dX11_in_1 : decode cX11_in 1 = .ok (.lload_n 2, 1) := by decide +kernel
theorem dX11_in_2 : decode cX11_in 2 = .ok (.lcmp, 1) := by decide +kernel
theorem dX11_in_3 : decode cX11_in 3 = .ok (.ifCond .lt 14, 3) := by decide +kernel
theorem dX11_in_6 : decode cX11_in 6 = .ok (.lload_n 0, 1) := by decide +kernel
theorem dX11_in_7 : decode cX11_in 7 = .ok (.lload 4, 2) := by decide +kernel
theorem dX11_in_9 : decode cX11_in 9 = .ok (.lcmp, 1) := by decide +kernel
theorem dX11_in_10 : decode cX11_in 10 = .ok (.ifCond .gt 7, 3) := by decide +kernel
theorem dX11_in_13 : decode cX11_in 13 = .ok (.iconst 1, 1) := by decide +kernel
theorem dX11_in_14 : decode cX11_in 14 = .ok (.goto 4, 3) := by decide +kernel
theorem dX11_in_17 : decode cX11_in 17 = .ok (.iconst 0, 1) := by decide +kernel
theorem dX11_in_18 : decode cX11_in 18 = .ok (.ireturn, 1) := by decide +kernel
theorem dX11_size_0 : decode cX11_size 0 = .ok (.lload_n 0, 1) := by decide +kernel
theorem dX11_size_1 : decode cX11_size 1 = .ok (.lconst 0, 1) := by decide +kernel
theorem dX11_size_2 : decode cX11_size 2 = .ok (.lcmp, 1) := by decide +kernel
theorem dX11_size_3 : decode cX11_size 3 = .ok (.ifCond .ge 8, 3) := by decide +kernel
theorem dX11_size_6 : decode cX11_size 6 = .ok (.lload_n 0, 1) := by decide +kernel
theorem dX11_size_7 : decode cX11_size 7 = .ok (.lneg, 1) := by decide +kernel
theorem dX11_size_8 : decode cX11_size 8 = .ok (.goto 4, 3) := by decide +kernel
theorem dX11_size_11 : decode cX11_size 11 = .ok (.lload_n 0, 1) := by decide +kernel
theorem dX11_size_12 : decode cX11_size 12 = .ok (.lreturn, 1) := by decide +kernel
theorem dX11_gcd_0 : decode cX11_gcd 0 = .ok (.lload_n 0, 1) := by decide +kernel
theorem dX11_gcd_1 : decode cX11_gcd 1 = .ok (.invokestatic 109, 3) := by decide +kernel
theorem dX11_gcd_4 : decode cX11_gcd 4 = .ok (.lstore 4, 2) := by decide +kernel
theorem dX11_gcd_6 : decode cX11_gcd 6 = .ok (.lload_n 2, 1) := by decide +kernel
theorem dX11_gcd_7 : decode cX11_gcd 7 = .ok (.invokestatic 109, 3) := by decide +kernel
theorem dX11_gcd_10 : decode cX11_gcd 10 = .ok (.lstore 6, 2) := by decide +kernel
theorem dX11_gcd_12 : decode cX11_gcd 12 = .ok (.lload 6, 2) := by decide +kernel
theorem dX11_gcd_14 : decode cX11_gcd 14 = .ok (.lconst 0, 1) := by decide +kernel
theorem dX11_gcd_15 : decode cX11_gcd 15 = .ok (.lcmp, 1) := by decide +kernel
theorem dX11_gcd_16 : decode cX11_gcd 16 = .ok (.ifCond .eq 21, 3) := by decide +kernel
theorem dX11_gcd_19 : decode cX11_gcd 19 = .ok (.lload 4, 2) := by decide +kernel
theorem dX11_gcd_21 : decode cX11_gcd 21 = .ok (.lload 6, 2) := by decide +kernel
theorem dX11_gcd_23 : decode cX11_gcd 23 = .ok (.lrem, 1) := by decide +kernel
theorem dX11_gcd_24 : decode cX11_gcd 24 = .ok (.lstore 8, 2) := by decide +kernel
theorem dX11_gcd_26 : decode cX11_gcd 26 = .ok (.lload 6, 2) := by decide +kernel
theorem dX11_gcd_28 : decode cX11_gcd 28 = .ok (.lstore 4, 2) := by decide +kernel
theorem dX11_gcd_30 : decode cX11_gcd 30 = .ok (.lload 8, 2) := by decide +kernel
theorem dX11_gcd_32 : decode cX11_gcd 32 = .ok (.lstore 6, 2) := by decide +kernel
theorem dX11_gcd_34 : decode cX11_gcd 34 = .ok (.goto (-22), 3) := by decide +kernel
theorem dX11_gcd_37 : decode cX11_gcd 37 = .ok (.lload 4, 2) := by decide +kernel
theorem dX11_gcd_39 : decode cX11_gcd 39 = .ok (.lreturn, 1) := by decide +kernel
theorem dX11_part_0 : decode cX11_part 0 = .ok (.lload_n 0, 1) := by decide +kernel
theorem dX11_part_1 : decode cX11_part 1 = .ok (.lload_n 2, 1) := by decide +kernel
theorem dX11_part_2 : decode cX11_part 2 = .ok (.invokestatic 113, 3) := by decide +kernel
theorem dX11_part_5 : decode cX11_part 5 = .ok (.lstore 5, 2) := by decide +kernel
theorem dX11_part_7 : decode cX11_part 7 = .ok (.iload 4, 2) := by decide +kernel
theorem dX11_part_9 : decode cX11_part 9 = .ok (.ifCond .ne 10, 3) := by decide +kernel
theorem dX11_part_12 : decode cX11_part 12 = .ok (.lload_n 0, 1) := by decide +kernel
theorem dX11_part_13 : decode cX11_part 13 = .ok (.lload 5, 2) := by decide +kernel
theorem dX11_part_15 : decode cX11_part 15 = .ok (.ldiv, 1) := by decide +kernel
theorem dX11_part_16 : decode cX11_part 16 = .ok (.goto 7, 3) := by decide +kernel
theorem dX11_part_19 : decode cX11_part 19 = .ok (.lload_n 2, 1) := by decide +kernel
theorem dX11_part_20 : decode cX11_part 20 = .ok (.lload 5, 2) := by decide +kernel
theorem dX11_part_22 : decode cX11_part 22 = .ok (.ldiv, 1) := by decide +kernel
theorem dX11_part_23 : decode cX11_part 23 = .ok (.lreturn, 1) := by decide +kernel
theorem dX11_countOf_0 : decode cX11_countOf 0 = .ok (.iconst 0, 1) := by decide +kernel
theorem dX11_countOf_1 : decode cX11_countOf 1 = .ok (.istore_n 2, 1) := by decide +kernel
theorem dX11_countOf_2 : decode cX11_countOf 2 = .ok (.iconst 0, 1) := by decide +kernel
theorem dX11_countOf_3 : decode cX11_countOf 3 = .ok (.istore_n 3, 1) := by decide +kernel
theorem dX11_countOf_4 : decode cX11_countOf 4 = .ok (.iload_n 3, 1) := by decide +kernel
theorem dX11_countOf_5 : decode cX11_countOf 5 = .ok (.bipush 64, 2) := by decide +kernel
theorem dX11_countOf_7 : decode cX11_countOf 7 = .ok (.if_icmp .ge 18, 3) := by decide +kernel
theorem dX11_countOf_10 : decode cX11_countOf 10 = .ok (.iload_n 2, 1) := by decide +kernel
theorem dX11_countOf_11 : decode cX11_countOf 11 = .ok (.lload_n 0, 1) := by decide +kernel
theorem dX11_countOf_12 : decode cX11_countOf 12 = .ok (.iload_n 3, 1) := by decide +kernel
theorem dX11_countOf_13 : decode cX11_countOf 13 = .ok (.lshr, 1) := by decide +kernel
theorem dX11_countOf_14 : decode cX11_countOf 14 = .ok (.lconst 1, 1) := by decide +kernel
theorem dX11_countOf_15 : decode cX11_countOf 15 = .ok (.land, 1) := by decide +kernel
theorem dX11_countOf_16 : decode cX11_countOf 16 = .ok (.l2i, 1) := by decide +kernel
theorem dX11_countOf_17 : decode cX11_countOf 17 = .ok (.iadd, 1) := by decide +kernel
theorem dX11_countOf_18 : decode cX11_countOf 18 = .ok (.istore_n 2, 1) := by decide +kernel
theorem dX11_countOf_19 : decode cX11_countOf 19 = .ok (.iinc 3 1, 3) := by decide +kernel
theorem dX11_countOf_22 : decode cX11_countOf 22 = .ok (.goto (-18), 3) := by decide +kernel
theorem dX11_countOf_25 : decode cX11_countOf 25 = .ok (.iload_n 2, 1) := by decide +kernel
theorem dX11_countOf_26 : decode cX11_countOf 26 = .ok (.ireturn, 1) := by decide +kernel
theorem dX11_layTable_0 : decode cX11_layTable 0 = .ok (.aload_n 0, 1) := by decide +kernel
theorem dX11_layTable_1 : decode cX11_layTable 1 = .ok (.getfield 13, 3) := by decide +kernel
theorem dX11_layTable_4 : decode cX11_layTable 4 = .ok (.iload_n 1, 1) := by decide +kernel
theorem dX11_layTable_5 : decode cX11_layTable 5 = .ok (.iaload, 1) := by decide +kernel
theorem dX11_layTable_6 : decode cX11_layTable 6 = .ok (.istore 5, 2) := by decide +kernel
theorem dX11_layTable_8 : decode cX11_layTable 8 = .ok (.iconst 0, 1) := by decide +kernel
theorem dX11_layTable_9 : decode cX11_layTable 9 = .ok (.istore 6, 2) := by decide +kernel
theorem dX11_layTable_11 : decode cX11_layTable 11 = .ok (.iconst 0, 1) := by decide +kernel
theorem dX11_layTable_12 : decode cX11_layTable 12 = .ok (.istore 7, 2) := by decide +kernel
theorem dX11_layTable_14 : decode cX11_layTable 14 = .ok (.iload 7, 2) := by decide +kernel
theorem dX11_layTable_16 : decode cX11_layTable 16 = .ok (.aload_n 0, 1) := by decide +kernel
theorem dX11_layTable_17 : decode cX11_layTable 17 = .ok (.getfield 7, 3) := by decide +kernel
theorem dX11_layTable_20 : decode cX11_layTable 20 = .ok (.iload_n 1, 1) := by decide +kernel
theorem dX11_layTable_21 : decode cX11_layTable 21 = .ok (.iaload, 1) := by decide +kernel
theorem dX11_layTable_22 : decode cX11_layTable 22 = .ok (.if_icmp .gt 162, 3) := by decide +kernel
theorem dX11_layTable_25 : decode cX11_layTable 25 = .ok (.iload 7, 2) := by decide +kernel
theorem dX11_layTable_27 : decode cX11_layTable 27 = .ok (.ifCond .eq 25, 3) := by decide +kernel
theorem dX11_layTable_30 : decode cX11_layTable 30 = .ok (.iload 7, 2) := by decide +kernel
theorem dX11_layTable_32 : decode cX11_layTable 32 = .ok (.aload_n 0, 1) := by decide +kernel
theorem dX11_layTable_33 : decode cX11_layTable 33 = .ok (.getfield 7, 3) := by decide +kernel
theorem dX11_layTable_36 : decode cX11_layTable 36 = .ok (.iload_n 1, 1) := by decide +kernel
theorem dX11_layTable_37 : decode cX11_layTable 37 = .ok (.iaload, 1) := by decide +kernel
theorem dX11_layTable_38 : decode cX11_layTable 38 = .ok (.if_icmp .eq 14, 3) := by decide +kernel
theorem dX11_layTable_41 : decode cX11_layTable 41 = .ok (.lload_n 2, 1) := by decide +kernel
theorem dX11_layTable_42 : decode cX11_layTable 42 = .ok (.iload 7, 2) := by decide +kernel
theorem dX11_layTable_44 : decode cX11_layTable 44 = .ok (.lshr, 1) := by decide +kernel
theorem dX11_layTable_45 : decode cX11_layTable 45 = .ok (.lconst 1, 1) := by decide +kernel
theorem dX11_layTable_46 : decode cX11_layTable 46 = .ok (.land, 1) := by decide +kernel
theorem dX11_layTable_47 : decode cX11_layTable 47 = .ok (.lconst 1, 1) := by decide +kernel
theorem dX11_layTable_48 : decode cX11_layTable 48 = .ok (.lcmp, 1) := by decide +kernel
theorem dX11_layTable_49 : decode cX11_layTable 49 = .ok (.ifCond .ne 7, 3) := by decide +kernel
theorem dX11_layTable_52 : decode cX11_layTable 52 = .ok (.iconst 1, 1) := by decide +kernel
theorem dX11_layTable_53 : decode cX11_layTable 53 = .ok (.goto 4, 3) := by decide +kernel
theorem dX11_layTable_56 : decode cX11_layTable 56 = .ok (.iconst 0, 1) := by decide +kernel
theorem dX11_layTable_57 : decode cX11_layTable 57 = .ok (.istore 8, 2) := by decide +kernel
theorem dX11_layTable_59 : decode cX11_layTable 59 = .ok (.iconst 0, 1) := by decide +kernel
theorem dX11_layTable_60 : decode cX11_layTable 60 = .ok (.istore 9, 2) := by decide +kernel
theorem dX11_layTable_62 : decode cX11_layTable 62 = .ok (.iload 9, 2) := by decide +kernel
theorem dX11_layTable_64 : decode cX11_layTable 64 = .ok (.iload 5, 2) := by decide +kernel
theorem dX11_layTable_66 : decode cX11_layTable 66 = .ok (.if_icmp .ge 66, 3) := by decide +kernel
theorem dX11_layTable_69 : decode cX11_layTable 69 = .ok (.iload 8, 2) := by decide +kernel
theorem dX11_layTable_71 : decode cX11_layTable 71 = .ok (.ifCond .eq 61, 3) := by decide +kernel
theorem dX11_layTable_74 : decode cX11_layTable 74 = .ok (.aload_n 0, 1) := by decide +kernel
theorem dX11_layTable_75 : decode cX11_layTable 75 = .ok (.getfield 19, 3) := by decide +kernel
theorem dX11_layTable_78 : decode cX11_layTable 78 = .ok (.iconst 5, 1) := by decide +kernel
theorem dX11_layTable_79 : decode cX11_layTable 79 = .ok (.iload_n 1, 1) := by decide +kernel
theorem dX11_layTable_80 : decode cX11_layTable 80 = .ok (.imul, 1) := by decide +kernel
theorem dX11_layTable_81 : decode cX11_layTable 81 = .ok (.iload 9, 2) := by decide +kernel
theorem dX11_layTable_83 : decode cX11_layTable 83 = .ok (.iadd, 1) := by decide +kernel
theorem dX11_layTable_84 : decode cX11_layTable 84 = .ok (.iaload, 1) := by decide +kernel
theorem dX11_layTable_85 : decode cX11_layTable 85 = .ok (.istore 10, 2) := by decide +kernel
theorem dX11_layTable_87 : decode cX11_layTable 87 = .ok (.aload_n 0, 1) := by decide +kernel
theorem dX11_layTable_88 : decode cX11_layTable 88 = .ok (.getfield 38, 3) := by decide +kernel
theorem dX11_layTable_91 : decode cX11_layTable 91 = .ok (.bipush 6, 2) := by decide +kernel
theorem dX11_layTable_93 : decode cX11_layTable 93 = .ok (.iload 6, 2) := by decide +kernel
theorem dX11_layTable_95 : decode cX11_layTable 95 = .ok (.imul, 1) := by decide +kernel
theorem dX11_layTable_96 : decode cX11_layTable 96 = .ok (.iload 9, 2) := by decide +kernel
theorem dX11_layTable_98 : decode cX11_layTable 98 = .ok (.iadd, 1) := by decide +kernel
theorem dX11_layTable_99 : decode cX11_layTable 99 = .ok (.iload 7, 2) := by decide +kernel
theorem dX11_layTable_101 : decode cX11_layTable 101 = .ok (.ifCond .ne 7, 3) := by decide +kernel
theorem dX11_layTable_104 : decode cX11_layTable 104 = .ok (.lconst 1, 1) := by decide +kernel
theorem dX11_layTable_105 : decode cX11_layTable 105 = .ok (.goto 20, 3) := by decide +kernel
theorem dX11_layTable_108 : decode cX11_layTable 108 = .ok (.iload 10, 2) := by decide +kernel
theorem dX11_layTable_110 : decode cX11_layTable 110 = .ok (.iload 7, 2) := by decide +kernel
theorem dX11_layTable_112 : decode cX11_layTable 112 = .ok (.if_icmp .ge 12, 3) := by decide +kernel
theorem dX11_layTable_115 : decode cX11_layTable 115 = .ok (.iload 7, 2) := by decide +kernel
theorem dX11_layTable_117 : decode cX11_layTable 117 = .ok (.iload 10, 2) := by decide +kernel
theorem dX11_layTable_119 : decode cX11_layTable 119 = .ok (.isub, 1) := by decide +kernel
theorem dX11_layTable_120 : decode cX11_layTable 120 = .ok (.i2l, 1) := by decide +kernel
theorem dX11_layTable_121 : decode cX11_layTable 121 = .ok (.goto 4, 3) := by decide +kernel
theorem dX11_layTable_124 : decode cX11_layTable 124 = .ok (.lconst 0, 1) := by decide +kernel
theorem dX11_layTable_125 : decode cX11_layTable 125 = .ok (.lastore, 1) := by decide +kernel
theorem dX11_layTable_126 : decode cX11_layTable 126 = .ok (.iinc 9 1, 3) := by decide +kernel
theorem dX11_layTable_129 : decode cX11_layTable 129 = .ok (.goto (-67), 3) := by decide +kernel
theorem dX11_layTable_132 : decode cX11_layTable 132 = .ok (.iload 8, 2) := by decide +kernel
theorem dX11_layTable_134 : decode cX11_layTable 134 = .ok (.ifCond .eq 44, 3) := by decide +kernel
theorem dX11_layTable_137 : decode cX11_layTable 137 = .ok (.aload_n 0, 1) := by decide +kernel
theorem dX11_layTable_138 : decode cX11_layTable 138 = .ok (.getfield 38, 3) := by decide +kernel
theorem dX11_layTable_141 : decode cX11_layTable 141 = .ok (.bipush 6, 2) := by decide +kernel
theorem dX11_layTable_143 : decode cX11_layTable 143 = .ok (.iload 6, 2) := by decide +kernel
theorem dX11_layTable_145 : decode cX11_layTable 145 = .ok (.imul, 1) := by decide +kernel
theorem dX11_layTable_146 : decode cX11_layTable 146 = .ok (.iconst 5, 1) := by decide +kernel
theorem dX11_layTable_147 : decode cX11_layTable 147 = .ok (.iadd, 1) := by decide +kernel
theorem dX11_layTable_148 : decode cX11_layTable 148 = .ok (.iload 7, 2) := by decide +kernel
theorem dX11_layTable_150 : decode cX11_layTable 150 = .ok (.ifCond .ne 7, 3) := by decide +kernel
theorem dX11_layTable_153 : decode cX11_layTable 153 = .ok (.lconst 1, 1) := by decide +kernel
theorem dX11_layTable_154 : decode cX11_layTable 154 = .ok (.goto 20, 3) := by decide +kernel
theorem dX11_layTable_157 : decode cX11_layTable 157 = .ok (.iload 4, 2) := by decide +kernel
theorem dX11_layTable_159 : decode cX11_layTable 159 = .ok (.iload 7, 2) := by decide +kernel
theorem dX11_layTable_161 : decode cX11_layTable 161 = .ok (.if_icmp .ge 12, 3) := by decide +kernel
theorem dX11_layTable_164 : decode cX11_layTable 164 = .ok (.iload 7, 2) := by decide +kernel
theorem dX11_layTable_166 : decode cX11_layTable 166 = .ok (.iload 4, 2) := by decide +kernel
theorem dX11_layTable_168 : decode cX11_layTable 168 = .ok (.isub, 1) := by decide +kernel
theorem dX11_layTable_169 : decode cX11_layTable 169 = .ok (.i2l, 1) := by decide +kernel
theorem dX11_layTable_170 : decode cX11_layTable 170 = .ok (.goto 4, 3) := by decide +kernel
theorem dX11_layTable_173 : decode cX11_layTable 173 = .ok (.lconst 0, 1) := by decide +kernel
theorem dX11_layTable_174 : decode cX11_layTable 174 = .ok (.lastore, 1) := by decide +kernel
theorem dX11_layTable_175 : decode cX11_layTable 175 = .ok (.iinc 6 1, 3) := by decide +kernel
theorem dX11_layTable_178 : decode cX11_layTable 178 = .ok (.iinc 7 1, 3) := by decide +kernel
theorem dX11_layTable_181 : decode cX11_layTable 181 = .ok (.goto (-167), 3) := by decide +kernel
theorem dX11_layTable_184 : decode cX11_layTable 184 = .ok (.return_, 1) := by decide +kernel
theorem dX11_change_0 : decode cX11_change 0 = .ok (.iconst 0, 1) := by decide +kernel
theorem dX11_change_1 : decode cX11_change 1 = .ok (.istore_n 3, 1) := by decide +kernel
theorem dX11_change_2 : decode cX11_change 2 = .ok (.iload_n 3, 1) := by decide +kernel
theorem dX11_change_3 : decode cX11_change 3 = .ok (.bipush 6, 2) := by decide +kernel
theorem dX11_change_5 : decode cX11_change 5 = .ok (.if_icmp .ge 57, 3) := by decide +kernel
theorem dX11_change_8 : decode cX11_change 8 = .ok (.aload_n 0, 1) := by decide +kernel
theorem dX11_change_9 : decode cX11_change 9 = .ok (.getfield 38, 3) := by decide +kernel
theorem dX11_change_12 : decode cX11_change 12 = .ok (.bipush 6, 2) := by decide +kernel
theorem dX11_change_14 : decode cX11_change 14 = .ok (.iload_n 1, 1) := by decide +kernel
theorem dX11_change_15 : decode cX11_change 15 = .ok (.imul, 1) := by decide +kernel
theorem dX11_change_16 : decode cX11_change 16 = .ok (.iload_n 3, 1) := by decide +kernel
theorem dX11_change_17 : decode cX11_change 17 = .ok (.iadd, 1) := by decide +kernel
theorem dX11_change_18 : decode cX11_change 18 = .ok (.laload, 1) := by decide +kernel
theorem dX11_change_19 : decode cX11_change 19 = .ok (.lstore 4, 2) := by decide +kernel
theorem dX11_change_21 : decode cX11_change 21 = .ok (.aload_n 0, 1) := by decide +kernel
theorem dX11_change_22 : decode cX11_change 22 = .ok (.getfield 38, 3) := by decide +kernel
theorem dX11_change_25 : decode cX11_change 25 = .ok (.bipush 6, 2) := by decide +kernel
theorem dX11_change_27 : decode cX11_change 27 = .ok (.iload_n 1, 1) := by decide +kernel
theorem dX11_change_28 : decode cX11_change 28 = .ok (.imul, 1) := by decide +kernel
theorem dX11_change_29 : decode cX11_change 29 = .ok (.iload_n 3, 1) := by decide +kernel
theorem dX11_change_30 : decode cX11_change 30 = .ok (.iadd, 1) := by decide +kernel
theorem dX11_change_31 : decode cX11_change 31 = .ok (.aload_n 0, 1) := by decide +kernel
theorem dX11_change_32 : decode cX11_change 32 = .ok (.getfield 38, 3) := by decide +kernel
theorem dX11_change_35 : decode cX11_change 35 = .ok (.bipush 6, 2) := by decide +kernel
theorem dX11_change_37 : decode cX11_change 37 = .ok (.iload_n 2, 1) := by decide +kernel
theorem dX11_change_38 : decode cX11_change 38 = .ok (.imul, 1) := by decide +kernel
theorem dX11_change_39 : decode cX11_change 39 = .ok (.iload_n 3, 1) := by decide +kernel
theorem dX11_change_40 : decode cX11_change 40 = .ok (.iadd, 1) := by decide +kernel
theorem dX11_change_41 : decode cX11_change 41 = .ok (.laload, 1) := by decide +kernel
theorem dX11_change_42 : decode cX11_change 42 = .ok (.lastore, 1) := by decide +kernel
theorem dX11_change_43 : decode cX11_change 43 = .ok (.aload_n 0, 1) := by decide +kernel
theorem dX11_change_44 : decode cX11_change 44 = .ok (.getfield 38, 3) := by decide +kernel
theorem dX11_change_47 : decode cX11_change 47 = .ok (.bipush 6, 2) := by decide +kernel
theorem dX11_change_49 : decode cX11_change 49 = .ok (.iload_n 2, 1) := by decide +kernel
theorem dX11_change_50 : decode cX11_change 50 = .ok (.imul, 1) := by decide +kernel
theorem dX11_change_51 : decode cX11_change 51 = .ok (.iload_n 3, 1) := by decide +kernel
theorem dX11_change_52 : decode cX11_change 52 = .ok (.iadd, 1) := by decide +kernel
theorem dX11_change_53 : decode cX11_change 53 = .ok (.lload 4, 2) := by decide +kernel
theorem dX11_change_55 : decode cX11_change 55 = .ok (.lastore, 1) := by decide +kernel
theorem dX11_change_56 : decode cX11_change 56 = .ok (.iinc 3 1, 3) := by decide +kernel
theorem dX11_change_59 : decode cX11_change 59 = .ok (.goto (-57), 3) := by decide +kernel
theorem dX11_change_62 : decode cX11_change 62 = .ok (.return_, 1) := by decide +kernel
theorem dX11_solve_0 : decode cX11_solve 0 = .ok (.lconst 1, 1) := by decide +kernel
theorem dX11_solve_1 : decode cX11_solve 1 = .ok (.lstore_n 2, 1) := by decide +kernel
theorem dX11_solve_2 : decode cX11_solve 2 = .ok (.iconst 0, 1) := by decide +kernel
theorem dX11_solve_3 : decode cX11_solve 3 = .ok (.istore 4, 2) := by decide +kernel
theorem dX11_solve_5 : decode cX11_solve 5 = .ok (.iload 4, 2) := by decide +kernel
theorem dX11_solve_7 : decode cX11_solve 7 = .ok (.iload_n 1, 1) := by decide +kernel
theorem dX11_solve_8 : decode cX11_solve 8 = .ok (.if_icmp .ge 229, 3) := by decide +kernel
theorem dX11_solve_11 : decode cX11_solve 11 = .ok (.iload 4, 2) := by decide +kernel
theorem dX11_solve_13 : decode cX11_solve 13 = .ok (.istore 5, 2) := by decide +kernel
theorem dX11_solve_15 : decode cX11_solve 15 = .ok (.iload 5, 2) := by decide +kernel
theorem dX11_solve_17 : decode cX11_solve 17 = .ok (.iload_n 1, 1) := by decide +kernel
theorem dX11_solve_18 : decode cX11_solve 18 = .ok (.if_icmp .ge 27, 3) := by decide +kernel
theorem dX11_solve_21 : decode cX11_solve 21 = .ok (.aload_n 0, 1) := by decide +kernel
theorem dX11_solve_22 : decode cX11_solve 22 = .ok (.getfield 38, 3) := by decide +kernel
theorem dX11_solve_25 : decode cX11_solve 25 = .ok (.bipush 6, 2) := by decide +kernel
theorem dX11_solve_27 : decode cX11_solve 27 = .ok (.iload 5, 2) := by decide +kernel
theorem dX11_solve_29 : decode cX11_solve 29 = .ok (.imul, 1) := by decide +kernel
theorem dX11_solve_30 : decode cX11_solve 30 = .ok (.iload 4, 2) := by decide +kernel
theorem dX11_solve_32 : decode cX11_solve 32 = .ok (.iadd, 1) := by decide +kernel
theorem dX11_solve_33 : decode cX11_solve 33 = .ok (.laload, 1) := by decide +kernel
theorem dX11_solve_34 : decode cX11_solve 34 = .ok (.lconst 0, 1) := by decide +kernel
theorem dX11_solve_35 : decode cX11_solve 35 = .ok (.lcmp, 1) := by decide +kernel
theorem dX11_solve_36 : decode cX11_solve 36 = .ok (.ifCond .ne 9, 3) := by decide +kernel
theorem dX11_solve_39 : decode cX11_solve 39 = .ok (.iinc 5 1, 3) := by decide +kernel
theorem dX11_solve_42 : decode cX11_solve 42 = .ok (.goto (-27), 3) := by decide +kernel
theorem dX11_solve_45 : decode cX11_solve 45 = .ok (.iload 5, 2) := by decide +kernel
theorem dX11_solve_47 : decode cX11_solve 47 = .ok (.iload_n 1, 1) := by decide +kernel
theorem dX11_solve_48 : decode cX11_solve 48 = .ok (.if_icmp .ne 5, 3) := by decide +kernel
theorem dX11_solve_51 : decode cX11_solve 51 = .ok (.lconst 0, 1) := by decide +kernel
theorem dX11_solve_52 : decode cX11_solve 52 = .ok (.lreturn, 1) := by decide +kernel
theorem dX11_solve_53 : decode cX11_solve 53 = .ok (.iload 5, 2) := by decide +kernel
theorem dX11_solve_55 : decode cX11_solve 55 = .ok (.iload 4, 2) := by decide +kernel
theorem dX11_solve_57 : decode cX11_solve 57 = .ok (.if_icmp .eq 55, 3) := by decide +kernel
theorem dX11_solve_60 : decode cX11_solve 60 = .ok (.aload_n 0, 1) := by decide +kernel
theorem dX11_solve_61 : decode cX11_solve 61 = .ok (.iload 5, 2) := by decide +kernel
theorem dX11_solve_63 : decode cX11_solve 63 = .ok (.iload 4, 2) := by decide +kernel
theorem dX11_solve_65 : decode cX11_solve 65 = .ok (.invokevirtual 117, 3) := by decide +kernel
theorem dX11_solve_68 : decode cX11_solve 68 = .ok (.iconst 0, 1) := by decide +kernel
theorem dX11_solve_69 : decode cX11_solve 69 = .ok (.istore 6, 2) := by decide +kernel
theorem dX11_solve_71 : decode cX11_solve 71 = .ok (.iload 6, 2) := by decide +kernel
theorem dX11_solve_73 : decode cX11_solve 73 = .ok (.bipush 6, 2) := by decide +kernel
theorem dX11_solve_75 : decode cX11_solve 75 = .ok (.if_icmp .ge 37, 3) := by decide +kernel
theorem dX11_solve_78 : decode cX11_solve 78 = .ok (.aload_n 0, 1) := by decide +kernel
theorem dX11_solve_79 : decode cX11_solve 79 = .ok (.getfield 38, 3) := by decide +kernel
theorem dX11_solve_82 : decode cX11_solve 82 = .ok (.bipush 6, 2) := by decide +kernel
theorem dX11_solve_84 : decode cX11_solve 84 = .ok (.iload 5, 2) := by decide +kernel
theorem dX11_solve_86 : decode cX11_solve 86 = .ok (.imul, 1) := by decide +kernel
theorem dX11_solve_87 : decode cX11_solve 87 = .ok (.iload 6, 2) := by decide +kernel
theorem dX11_solve_89 : decode cX11_solve 89 = .ok (.iadd, 1) := by decide +kernel
theorem dX11_solve_90 : decode cX11_solve 90 = .ok (.lconst 0, 1) := by decide +kernel
theorem dX11_solve_91 : decode cX11_solve 91 = .ok (.aload_n 0, 1) := by decide +kernel
theorem dX11_solve_92 : decode cX11_solve 92 = .ok (.getfield 38, 3) := by decide +kernel
theorem dX11_solve_95 : decode cX11_solve 95 = .ok (.bipush 6, 2) := by decide +kernel
theorem dX11_solve_97 : decode cX11_solve 97 = .ok (.iload 5, 2) := by decide +kernel
theorem dX11_solve_99 : decode cX11_solve 99 = .ok (.imul, 1) := by decide +kernel
theorem dX11_solve_100 : decode cX11_solve 100 = .ok (.iload 6, 2) := by decide +kernel
theorem dX11_solve_102 : decode cX11_solve 102 = .ok (.iadd, 1) := by decide +kernel
theorem dX11_solve_103 : decode cX11_solve 103 = .ok (.laload, 1) := by decide +kernel
theorem dX11_solve_104 : decode cX11_solve 104 = .ok (.lsub, 1) := by decide +kernel
theorem dX11_solve_105 : decode cX11_solve 105 = .ok (.lastore, 1) := by decide +kernel
theorem dX11_solve_106 : decode cX11_solve 106 = .ok (.iinc 6 1, 3) := by decide +kernel
theorem dX11_solve_109 : decode cX11_solve 109 = .ok (.goto (-38), 3) := by decide +kernel
theorem dX11_solve_112 : decode cX11_solve 112 = .ok (.aload_n 0, 1) := by decide +kernel
theorem dX11_solve_113 : decode cX11_solve 113 = .ok (.getfield 38, 3) := by decide +kernel
theorem dX11_solve_116 : decode cX11_solve 116 = .ok (.bipush 6, 2) := by decide +kernel
theorem dX11_solve_118 : decode cX11_solve 118 = .ok (.iload 4, 2) := by decide +kernel
theorem dX11_solve_120 : decode cX11_solve 120 = .ok (.imul, 1) := by decide +kernel
theorem dX11_solve_121 : decode cX11_solve 121 = .ok (.iload 4, 2) := by decide +kernel
theorem dX11_solve_123 : decode cX11_solve 123 = .ok (.iadd, 1) := by decide +kernel
theorem dX11_solve_124 : decode cX11_solve 124 = .ok (.laload, 1) := by decide +kernel
theorem dX11_solve_125 : decode cX11_solve 125 = .ok (.lstore 6, 2) := by decide +kernel
theorem dX11_solve_127 : decode cX11_solve 127 = .ok (.iconst 0, 1) := by decide +kernel
theorem dX11_solve_128 : decode cX11_solve 128 = .ok (.istore 8, 2) := by decide +kernel
theorem dX11_solve_130 : decode cX11_solve 130 = .ok (.iload 8, 2) := by decide +kernel
theorem dX11_solve_132 : decode cX11_solve 132 = .ok (.iload_n 1, 1) := by decide +kernel
theorem dX11_solve_133 : decode cX11_solve 133 = .ok (.if_icmp .ge 95, 3) := by decide +kernel
theorem dX11_solve_136 : decode cX11_solve 136 = .ok (.aload_n 0, 1) := by decide +kernel
theorem dX11_solve_137 : decode cX11_solve 137 = .ok (.getfield 38, 3) := by decide +kernel
theorem dX11_solve_140 : decode cX11_solve 140 = .ok (.bipush 6, 2) := by decide +kernel
theorem dX11_solve_142 : decode cX11_solve 142 = .ok (.iload 8, 2) := by decide +kernel
theorem dX11_solve_144 : decode cX11_solve 144 = .ok (.imul, 1) := by decide +kernel
theorem dX11_solve_145 : decode cX11_solve 145 = .ok (.iload 4, 2) := by decide +kernel
theorem dX11_solve_147 : decode cX11_solve 147 = .ok (.iadd, 1) := by decide +kernel
theorem dX11_solve_148 : decode cX11_solve 148 = .ok (.laload, 1) := by decide +kernel
theorem dX11_solve_149 : decode cX11_solve 149 = .ok (.lstore 9, 2) := by decide +kernel
theorem dX11_solve_151 : decode cX11_solve 151 = .ok (.iconst 0, 1) := by decide +kernel
theorem dX11_solve_152 : decode cX11_solve 152 = .ok (.istore 11, 2) := by decide +kernel
theorem dX11_solve_154 : decode cX11_solve 154 = .ok (.iload 11, 2) := by decide +kernel
theorem dX11_solve_156 : decode cX11_solve 156 = .ok (.bipush 6, 2) := by decide +kernel
theorem dX11_solve_158 : decode cX11_solve 158 = .ok (.if_icmp .ge 64, 3) := by decide +kernel
theorem dX11_solve_161 : decode cX11_solve 161 = .ok (.iload 8, 2) := by decide +kernel
theorem dX11_solve_163 : decode cX11_solve 163 = .ok (.iload 4, 2) := by decide +kernel
theorem dX11_solve_165 : decode cX11_solve 165 = .ok (.if_icmp .eq 57, 3) := by decide +kernel
theorem dX11_solve_168 : decode cX11_solve 168 = .ok (.aload_n 0, 1) := by decide +kernel
theorem dX11_solve_169 : decode cX11_solve 169 = .ok (.getfield 38, 3) := by decide +kernel
theorem dX11_solve_172 : decode cX11_solve 172 = .ok (.bipush 6, 2) := by decide +kernel
theorem dX11_solve_174 : decode cX11_solve 174 = .ok (.iload 8, 2) := by decide +kernel
theorem dX11_solve_176 : decode cX11_solve 176 = .ok (.imul, 1) := by decide +kernel
theorem dX11_solve_177 : decode cX11_solve 177 = .ok (.iload 11, 2) := by decide +kernel
theorem dX11_solve_179 : decode cX11_solve 179 = .ok (.iadd, 1) := by decide +kernel
theorem dX11_solve_180 : decode cX11_solve 180 = .ok (.aload_n 0, 1) := by decide +kernel
theorem dX11_solve_181 : decode cX11_solve 181 = .ok (.getfield 38, 3) := by decide +kernel
theorem dX11_solve_184 : decode cX11_solve 184 = .ok (.bipush 6, 2) := by decide +kernel
theorem dX11_solve_186 : decode cX11_solve 186 = .ok (.iload 8, 2) := by decide +kernel
theorem dX11_solve_188 : decode cX11_solve 188 = .ok (.imul, 1) := by decide +kernel
theorem dX11_solve_189 : decode cX11_solve 189 = .ok (.iload 11, 2) := by decide +kernel
theorem dX11_solve_191 : decode cX11_solve 191 = .ok (.iadd, 1) := by decide +kernel
theorem dX11_solve_192 : decode cX11_solve 192 = .ok (.laload, 1) := by decide +kernel
theorem dX11_solve_193 : decode cX11_solve 193 = .ok (.lload 6, 2) := by decide +kernel
theorem dX11_solve_195 : decode cX11_solve 195 = .ok (.lmul, 1) := by decide +kernel
theorem dX11_solve_196 : decode cX11_solve 196 = .ok (.lload 9, 2) := by decide +kernel
theorem dX11_solve_198 : decode cX11_solve 198 = .ok (.aload_n 0, 1) := by decide +kernel
theorem dX11_solve_199 : decode cX11_solve 199 = .ok (.getfield 38, 3) := by decide +kernel
theorem dX11_solve_202 : decode cX11_solve 202 = .ok (.bipush 6, 2) := by decide +kernel
theorem dX11_solve_204 : decode cX11_solve 204 = .ok (.iload 4, 2) := by decide +kernel
theorem dX11_solve_206 : decode cX11_solve 206 = .ok (.imul, 1) := by decide +kernel
theorem dX11_solve_207 : decode cX11_solve 207 = .ok (.iload 11, 2) := by decide +kernel
theorem dX11_solve_209 : decode cX11_solve 209 = .ok (.iadd, 1) := by decide +kernel
theorem dX11_solve_210 : decode cX11_solve 210 = .ok (.laload, 1) := by decide +kernel
theorem dX11_solve_211 : decode cX11_solve 211 = .ok (.lmul, 1) := by decide +kernel
theorem dX11_solve_212 : decode cX11_solve 212 = .ok (.lsub, 1) := by decide +kernel
theorem dX11_solve_213 : decode cX11_solve 213 = .ok (.lload_n 2, 1) := by decide +kernel
theorem dX11_solve_214 : decode cX11_solve 214 = .ok (.ldiv, 1) := by decide +kernel
theorem dX11_solve_215 : decode cX11_solve 215 = .ok (.lastore, 1) := by decide +kernel
theorem dX11_solve_216 : decode cX11_solve 216 = .ok (.iinc 11 1, 3) := by decide +kernel
theorem dX11_solve_219 : decode cX11_solve 219 = .ok (.goto (-65), 3) := by decide +kernel
theorem dX11_solve_222 : decode cX11_solve 222 = .ok (.iinc 8 1, 3) := by decide +kernel
theorem dX11_solve_225 : decode cX11_solve 225 = .ok (.goto (-95), 3) := by decide +kernel
theorem dX11_solve_228 : decode cX11_solve 228 = .ok (.lload 6, 2) := by decide +kernel
theorem dX11_solve_230 : decode cX11_solve 230 = .ok (.lstore_n 2, 1) := by decide +kernel
theorem dX11_solve_231 : decode cX11_solve 231 = .ok (.iinc 4 1, 3) := by decide +kernel
theorem dX11_solve_234 : decode cX11_solve 234 = .ok (.goto (-229), 3) := by decide +kernel
theorem dX11_solve_237 : decode cX11_solve 237 = .ok (.lload_n 2, 1) := by decide +kernel
theorem dX11_solve_238 : decode cX11_solve 238 = .ok (.lreturn, 1) := by decide +kernel
theorem dX11_findBridge_0 : decode cX11_findBridge 0 = .ok (.aload_n 0, 1) := by decide +kernel
theorem dX11_findBridge_1 : decode cX11_findBridge 1 = .ok (.getfield 13, 3) := by decide +kernel
theorem dX11_findBridge_4 : decode cX11_findBridge 4 = .ok (.iload_n 1, 1) := by decide +kernel
theorem dX11_findBridge_5 : decode cX11_findBridge 5 = .ok (.iaload, 1) := by decide +kernel
theorem dX11_findBridge_6 : decode cX11_findBridge 6 = .ok (.istore 4, 2) := by decide +kernel
theorem dX11_findBridge_8 : decode cX11_findBridge 8 = .ok (.iconst 0, 1) := by decide +kernel
theorem dX11_findBridge_9 : decode cX11_findBridge 9 = .ok (.istore 5, 2) := by decide +kernel
theorem dX11_findBridge_11 : decode cX11_findBridge 11 = .ok (.iload 5, 2) := by decide +kernel
theorem dX11_findBridge_13 : decode cX11_findBridge 13 = .ok (.aload_n 0, 1) := by decide +kernel
theorem dX11_findBridge_14 : decode cX11_findBridge 14 = .ok (.getfield 7, 3) := by decide +kernel
theorem dX11_findBridge_17 : decode cX11_findBridge 17 = .ok (.iload_n 1, 1) := by decide +kernel
theorem dX11_findBridge_18 : decode cX11_findBridge 18 = .ok (.iaload, 1) := by decide +kernel
theorem dX11_findBridge_19 : decode cX11_findBridge 19 = .ok (.if_icmp .gt 138, 3) := by decide +kernel
theorem dX11_findBridge_22 : decode cX11_findBridge 22 = .ok (.iconst 0, 1) := by decide +kernel
theorem dX11_findBridge_23 : decode cX11_findBridge 23 = .ok (.istore 6, 2) := by decide +kernel
theorem dX11_findBridge_25 : decode cX11_findBridge 25 = .ok (.iload 6, 2) := by decide +kernel
theorem dX11_findBridge_27 : decode cX11_findBridge 27 = .ok (.bipush 30, 2) := by decide +kernel
theorem dX11_findBridge_29 : decode cX11_findBridge 29 = .ok (.if_icmp .ge 17, 3) := by decide +kernel
theorem dX11_findBridge_32 : decode cX11_findBridge 32 = .ok (.aload_n 0, 1) := by decide +kernel
theorem dX11_findBridge_33 : decode cX11_findBridge 33 = .ok (.getfield 38, 3) := by decide +kernel
theorem dX11_findBridge_36 : decode cX11_findBridge 36 = .ok (.iload 6, 2) := by decide +kernel
theorem dX11_findBridge_38 : decode cX11_findBridge 38 = .ok (.lconst 0, 1) := by decide +kernel
theorem dX11_findBridge_39 : decode cX11_findBridge 39 = .ok (.lastore, 1) := by decide +kernel
theorem dX11_findBridge_40 : decode cX11_findBridge 40 = .ok (.iinc 6 1, 3) := by decide +kernel
theorem dX11_findBridge_43 : decode cX11_findBridge 43 = .ok (.goto (-18), 3) := by decide +kernel
theorem dX11_findBridge_46 : decode cX11_findBridge 46 = .ok (.aload_n 0, 1) := by decide +kernel
theorem dX11_findBridge_47 : decode cX11_findBridge 47 = .ok (.iload_n 1, 1) := by decide +kernel
theorem dX11_findBridge_48 : decode cX11_findBridge 48 = .ok (.lload_n 2, 1) := by decide +kernel
theorem dX11_findBridge_49 : decode cX11_findBridge 49 = .ok (.iload 5, 2) := by decide +kernel
theorem dX11_findBridge_51 : decode cX11_findBridge 51 = .ok (.invokevirtual 121, 3) := by decide +kernel
theorem dX11_findBridge_54 : decode cX11_findBridge 54 = .ok (.aload_n 0, 1) := by decide +kernel
theorem dX11_findBridge_55 : decode cX11_findBridge 55 = .ok (.iload 4, 2) := by decide +kernel
theorem dX11_findBridge_57 : decode cX11_findBridge 57 = .ok (.invokevirtual 125, 3) := by decide +kernel
theorem dX11_findBridge_60 : decode cX11_findBridge 60 = .ok (.lstore 6, 2) := by decide +kernel
theorem dX11_findBridge_62 : decode cX11_findBridge 62 = .ok (.lload 6, 2) := by decide +kernel
theorem dX11_findBridge_64 : decode cX11_findBridge 64 = .ok (.lconst 0, 1) := by decide +kernel
theorem dX11_findBridge_65 : decode cX11_findBridge 65 = .ok (.lcmp, 1) := by decide +kernel
theorem dX11_findBridge_66 : decode cX11_findBridge 66 = .ok (.ifCond .ne 5, 3) := by decide +kernel
theorem dX11_findBridge_69 : decode cX11_findBridge 69 = .ok (.iconst 0, 1) := by decide +kernel
theorem dX11_findBridge_70 : decode cX11_findBridge 70 = .ok (.ireturn, 1) := by decide +kernel
theorem dX11_findBridge_71 : decode cX11_findBridge 71 = .ok (.aload_n 0, 1) := by decide +kernel
theorem dX11_findBridge_72 : decode cX11_findBridge 72 = .ok (.getfield 35, 3) := by decide +kernel
theorem dX11_findBridge_75 : decode cX11_findBridge 75 = .ok (.iload_n 1, 1) := by decide +kernel
theorem dX11_findBridge_76 : decode cX11_findBridge 76 = .ok (.lload 6, 2) := by decide +kernel
theorem dX11_findBridge_78 : decode cX11_findBridge 78 = .ok (.invokestatic 109, 3) := by decide +kernel
theorem dX11_findBridge_81 : decode cX11_findBridge 81 = .ok (.lastore, 1) := by decide +kernel
theorem dX11_findBridge_82 : decode cX11_findBridge 82 = .ok (.iconst 0, 1) := by decide +kernel
theorem dX11_findBridge_83 : decode cX11_findBridge 83 = .ok (.istore 8, 2) := by decide +kernel
theorem dX11_findBridge_85 : decode cX11_findBridge 85 = .ok (.iload 8, 2) := by decide +kernel
theorem dX11_findBridge_87 : decode cX11_findBridge 87 = .ok (.iload 4, 2) := by decide +kernel
theorem dX11_findBridge_89 : decode cX11_findBridge 89 = .ok (.if_icmp .ge 62, 3) := by decide +kernel
theorem dX11_findBridge_92 : decode cX11_findBridge 92 = .ok (.aload_n 0, 1) := by decide +kernel
theorem dX11_findBridge_93 : decode cX11_findBridge 93 = .ok (.getfield 31, 3) := by decide +kernel
theorem dX11_findBridge_96 : decode cX11_findBridge 96 = .ok (.iconst 5, 1) := by decide +kernel
theorem dX11_findBridge_97 : decode cX11_findBridge 97 = .ok (.bipush 61, 2) := by decide +kernel
theorem dX11_findBridge_99 : decode cX11_findBridge 99 = .ok (.iload_n 1, 1) := by decide +kernel
theorem dX11_findBridge_100 : decode cX11_findBridge 100 = .ok (.imul, 1) := by decide +kernel
theorem dX11_findBridge_101 : decode cX11_findBridge 101 = .ok (.iload 5, 2) := by decide +kernel
theorem dX11_findBridge_103 : decode cX11_findBridge 103 = .ok (.iadd, 1) := by decide +kernel
theorem dX11_findBridge_104 : decode cX11_findBridge 104 = .ok (.imul, 1) := by decide +kernel
theorem dX11_findBridge_105 : decode cX11_findBridge 105 = .ok (.iload 8, 2) := by decide +kernel
theorem dX11_findBridge_107 : decode cX11_findBridge 107 = .ok (.iadd, 1) := by decide +kernel
theorem dX11_findBridge_108 : decode cX11_findBridge 108 = .ok (.lload 6, 2) := by decide +kernel
theorem dX11_findBridge_110 : decode cX11_findBridge 110 = .ok (.lconst 0, 1) := by decide +kernel
theorem dX11_findBridge_111 : decode cX11_findBridge 111 = .ok (.lcmp, 1) := by decide +kernel
theorem dX11_findBridge_112 : decode cX11_findBridge 112 = .ok (.ifCond .ge 20, 3) := by decide +kernel
theorem dX11_findBridge_115 : decode cX11_findBridge 115 = .ok (.lconst 0, 1) := by decide +kernel
theorem dX11_findBridge_116 : decode cX11_findBridge 116 = .ok (.aload_n 0, 1) := by decide +kernel
theorem dX11_findBridge_117 : decode cX11_findBridge 117 = .ok (.getfield 38, 3) := by decide +kernel
theorem dX11_findBridge_120 : decode cX11_findBridge 120 = .ok (.bipush 6, 2) := by decide +kernel
theorem dX11_findBridge_122 : decode cX11_findBridge 122 = .ok (.iload 8, 2) := by decide +kernel
theorem dX11_findBridge_124 : decode cX11_findBridge 124 = .ok (.imul, 1) := by decide +kernel
theorem dX11_findBridge_125 : decode cX11_findBridge 125 = .ok (.iconst 5, 1) := by decide +kernel
theorem dX11_findBridge_126 : decode cX11_findBridge 126 = .ok (.iadd, 1) := by decide +kernel
theorem dX11_findBridge_127 : decode cX11_findBridge 127 = .ok (.laload, 1) := by decide +kernel
theorem dX11_findBridge_128 : decode cX11_findBridge 128 = .ok (.lsub, 1) := by decide +kernel
theorem dX11_findBridge_129 : decode cX11_findBridge 129 = .ok (.goto 15, 3) := by decide +kernel
theorem dX11_findBridge_132 : decode cX11_findBridge 132 = .ok (.aload_n 0, 1) := by decide +kernel
theorem dX11_findBridge_133 : decode cX11_findBridge 133 = .ok (.getfield 38, 3) := by decide +kernel
theorem dX11_findBridge_136 : decode cX11_findBridge 136 = .ok (.bipush 6, 2) := by decide +kernel
theorem dX11_findBridge_138 : decode cX11_findBridge 138 = .ok (.iload 8, 2) := by decide +kernel
theorem dX11_findBridge_140 : decode cX11_findBridge 140 = .ok (.imul, 1) := by decide +kernel
theorem dX11_findBridge_141 : decode cX11_findBridge 141 = .ok (.iconst 5, 1) := by decide +kernel
theorem dX11_findBridge_142 : decode cX11_findBridge 142 = .ok (.iadd, 1) := by decide +kernel
theorem dX11_findBridge_143 : decode cX11_findBridge 143 = .ok (.laload, 1) := by decide +kernel
theorem dX11_findBridge_144 : decode cX11_findBridge 144 = .ok (.lastore, 1) := by decide +kernel
theorem dX11_findBridge_145 : decode cX11_findBridge 145 = .ok (.iinc 8 1, 3) := by decide +kernel
theorem dX11_findBridge_148 : decode cX11_findBridge 148 = .ok (.goto (-63), 3) := by decide +kernel
theorem dX11_findBridge_151 : decode cX11_findBridge 151 = .ok (.iinc 5 1, 3) := by decide +kernel
theorem dX11_findBridge_154 : decode cX11_findBridge 154 = .ok (.goto (-143), 3) := by decide +kernel
theorem dX11_findBridge_157 : decode cX11_findBridge 157 = .ok (.iconst 1, 1) := by decide +kernel
theorem dX11_findBridge_158 : decode cX11_findBridge 158 = .ok (.ireturn, 1) := by decide +kernel
theorem dX11_bridge_0 : decode cX11_bridge 0 = .ok (.iload_n 1, 1) := by decide +kernel
theorem dX11_bridge_1 : decode cX11_bridge 1 = .ok (.i2l, 1) := by decide +kernel
theorem dX11_bridge_2 : decode cX11_bridge 2 = .ok (.ldc2_w 129, 3) := by decide +kernel
theorem dX11_bridge_5 : decode cX11_bridge 5 = .ok (.ldc2_w 131, 3) := by decide +kernel
theorem dX11_bridge_8 : decode cX11_bridge 8 = .ok (.invokestatic 133, 3) := by decide +kernel
theorem dX11_bridge_11 : decode cX11_bridge 11 = .ok (.ifCond .eq 35, 3) := by decide +kernel
theorem dX11_bridge_14 : decode cX11_bridge 14 = .ok (.lload_n 2, 1) := by decide +kernel
theorem dX11_bridge_15 : decode cX11_bridge 15 = .ok (.lconst 0, 1) := by decide +kernel
theorem dX11_bridge_16 : decode cX11_bridge 16 = .ok (.lcmp, 1) := by decide +kernel
theorem dX11_bridge_17 : decode cX11_bridge 17 = .ok (.ifCond .lt 29, 3) := by decide +kernel
theorem dX11_bridge_20 : decode cX11_bridge 20 = .ok (.lload 4, 2) := by decide +kernel
theorem dX11_bridge_22 : decode cX11_bridge 22 = .ok (.lconst 0, 1) := by decide +kernel
theorem dX11_bridge_23 : decode cX11_bridge 23 = .ok (.lcmp, 1) := by decide +kernel
theorem dX11_bridge_24 : decode cX11_bridge 24 = .ok (.ifCond .lt 22, 3) := by decide +kernel
theorem dX11_bridge_27 : decode cX11_bridge 27 = .ok (.lload_n 2, 1) := by decide +kernel
theorem dX11_bridge_28 : decode cX11_bridge 28 = .ok (.iload_n 1, 1) := by decide +kernel
theorem dX11_bridge_29 : decode cX11_bridge 29 = .ok (.iconst 1, 1) := by decide +kernel
theorem dX11_bridge_30 : decode cX11_bridge 30 = .ok (.iadd, 1) := by decide +kernel
theorem dX11_bridge_31 : decode cX11_bridge 31 = .ok (.lshr, 1) := by decide +kernel
theorem dX11_bridge_32 : decode cX11_bridge 32 = .ok (.lconst 0, 1) := by decide +kernel
theorem dX11_bridge_33 : decode cX11_bridge 33 = .ok (.lcmp, 1) := by decide +kernel
theorem dX11_bridge_34 : decode cX11_bridge 34 = .ok (.ifCond .ne 12, 3) := by decide +kernel
theorem dX11_bridge_37 : decode cX11_bridge 37 = .ok (.lload 4, 2) := by decide +kernel
theorem dX11_bridge_39 : decode cX11_bridge 39 = .ok (.iload_n 1, 1) := by decide +kernel
theorem dX11_bridge_40 : decode cX11_bridge 40 = .ok (.lshr, 1) := by decide +kernel
theorem dX11_bridge_41 : decode cX11_bridge 41 = .ok (.lconst 0, 1) := by decide +kernel
theorem dX11_bridge_42 : decode cX11_bridge 42 = .ok (.lcmp, 1) := by decide +kernel
theorem dX11_bridge_43 : decode cX11_bridge 43 = .ok (.ifCond .eq 7, 3) := by decide +kernel
theorem dX11_bridge_46 : decode cX11_bridge 46 = .ok (.sipush (-1002), 3) := by decide +kernel
theorem dX11_bridge_49 : decode cX11_bridge 49 = .ok (.ireturn, 1) := by decide +kernel
theorem dX11_bridge_50 : decode cX11_bridge 50 = .ok (.lload_n 2, 1) := by decide +kernel
theorem dX11_bridge_51 : decode cX11_bridge 51 = .ok (.invokestatic 137, 3) := by decide +kernel
theorem dX11_bridge_54 : decode cX11_bridge 54 = .ok (.istore 6, 2) := by decide +kernel
theorem dX11_bridge_56 : decode cX11_bridge 56 = .ok (.iload 6, 2) := by decide +kernel
theorem dX11_bridge_58 : decode cX11_bridge 58 = .ok (.i2l, 1) := by decide +kernel
theorem dX11_bridge_59 : decode cX11_bridge 59 = .ok (.ldc2_w 129, 3) := by decide +kernel
theorem dX11_bridge_62 : decode cX11_bridge 62 = .ok (.ldc2_w 141, 3) := by decide +kernel
theorem dX11_bridge_65 : decode cX11_bridge 65 = .ok (.invokestatic 133, 3) := by decide +kernel
theorem dX11_bridge_68 : decode cX11_bridge 68 = .ok (.ifCond .eq 33, 3) := by decide +kernel
theorem dX11_bridge_71 : decode cX11_bridge 71 = .ok (.lload 4, 2) := by decide +kernel
theorem dX11_bridge_73 : decode cX11_bridge 73 = .ok (.invokestatic 137, 3) := by decide +kernel
theorem dX11_bridge_76 : decode cX11_bridge 76 = .ok (.iload 6, 2) := by decide +kernel
theorem dX11_bridge_78 : decode cX11_bridge 78 = .ok (.iconst 2, 1) := by decide +kernel
theorem dX11_bridge_79 : decode cX11_bridge 79 = .ok (.isub, 1) := by decide +kernel
theorem dX11_bridge_80 : decode cX11_bridge 80 = .ok (.if_icmp .ne 21, 3) := by decide +kernel
theorem dX11_bridge_83 : decode cX11_bridge 83 = .ok (.lload_n 2, 1) := by decide +kernel
theorem dX11_bridge_84 : decode cX11_bridge 84 = .ok (.lload 4, 2) := by decide +kernel
theorem dX11_bridge_86 : decode cX11_bridge 86 = .ok (.land, 1) := by decide +kernel
theorem dX11_bridge_87 : decode cX11_bridge 87 = .ok (.lconst 0, 1) := by decide +kernel
theorem dX11_bridge_88 : decode cX11_bridge 88 = .ok (.lcmp, 1) := by decide +kernel
theorem dX11_bridge_89 : decode cX11_bridge 89 = .ok (.ifCond .ne 12, 3) := by decide +kernel
theorem dX11_bridge_92 : decode cX11_bridge 92 = .ok (.lload 4, 2) := by decide +kernel
theorem dX11_bridge_94 : decode cX11_bridge 94 = .ok (.lconst 1, 1) := by decide +kernel
theorem dX11_bridge_95 : decode cX11_bridge 95 = .ok (.land, 1) := by decide +kernel
theorem dX11_bridge_96 : decode cX11_bridge 96 = .ok (.lconst 0, 1) := by decide +kernel
theorem dX11_bridge_97 : decode cX11_bridge 97 = .ok (.lcmp, 1) := by decide +kernel
theorem dX11_bridge_98 : decode cX11_bridge 98 = .ok (.ifCond .eq 7, 3) := by decide +kernel
theorem dX11_bridge_101 : decode cX11_bridge 101 = .ok (.sipush (-1002), 3) := by decide +kernel
theorem dX11_bridge_104 : decode cX11_bridge 104 = .ok (.ireturn, 1) := by decide +kernel
theorem dX11_bridge_105 : decode cX11_bridge 105 = .ok (.aload_n 0, 1) := by decide +kernel
theorem dX11_bridge_106 : decode cX11_bridge 106 = .ok (.getfield 143, 3) := by decide +kernel
theorem dX11_bridge_109 : decode cX11_bridge 109 = .ok (.bipush 6, 2) := by decide +kernel
theorem dX11_bridge_111 : decode cX11_bridge 111 = .ok (.if_icmp .ne 7, 3) := by decide +kernel
theorem dX11_bridge_114 : decode cX11_bridge 114 = .ok (.iconst 1, 1) := by decide +kernel
theorem dX11_bridge_115 : decode cX11_bridge 115 = .ok (.goto 4, 3) := by decide +kernel
theorem dX11_bridge_118 : decode cX11_bridge 118 = .ok (.iconst 0, 1) := by decide +kernel
theorem dX11_bridge_119 : decode cX11_bridge 119 = .ok (.istore 7, 2) := by decide +kernel
theorem dX11_bridge_121 : decode cX11_bridge 121 = .ok (.iload 7, 2) := by decide +kernel
theorem dX11_bridge_123 : decode cX11_bridge 123 = .ok (.ifCond .eq 7, 3) := by decide +kernel
theorem dX11_bridge_126 : decode cX11_bridge 126 = .ok (.iconst 5, 1) := by decide +kernel
theorem dX11_bridge_127 : decode cX11_bridge 127 = .ok (.goto 7, 3) := by decide +kernel
theorem dX11_bridge_130 : decode cX11_bridge 130 = .ok (.aload_n 0, 1) := by decide +kernel
theorem dX11_bridge_131 : decode cX11_bridge 131 = .ok (.getfield 143, 3) := by decide +kernel
theorem dX11_bridge_134 : decode cX11_bridge 134 = .ok (.istore 8, 2) := by decide +kernel
theorem dX11_bridge_136 : decode cX11_bridge 136 = .ok (.iload 7, 2) := by decide +kernel
theorem dX11_bridge_138 : decode cX11_bridge 138 = .ok (.ifCond .eq 26, 3) := by decide +kernel
theorem dX11_bridge_141 : decode cX11_bridge 141 = .ok (.aload_n 0, 1) := by decide +kernel
theorem dX11_bridge_142 : decode cX11_bridge 142 = .ok (.iload_n 1, 1) := by decide +kernel
theorem dX11_bridge_143 : decode cX11_bridge 143 = .ok (.lload_n 2, 1) := by decide +kernel
theorem dX11_bridge_144 : decode cX11_bridge 144 = .ok (.lload 4, 2) := by decide +kernel
theorem dX11_bridge_146 : decode cX11_bridge 146 = .ok (.iload 6, 2) := by decide +kernel
theorem dX11_bridge_148 : decode cX11_bridge 148 = .ok (.invokevirtual 146, 3) := by decide +kernel
theorem dX11_bridge_151 : decode cX11_bridge 151 = .ok (.ifCond .eq 9, 3) := by decide +kernel
theorem dX11_bridge_154 : decode cX11_bridge 154 = .ok (.sipush (-1003), 3) := by decide +kernel
theorem dX11_bridge_157 : decode cX11_bridge 157 = .ok (.goto 6, 3) := by decide +kernel
theorem dX11_bridge_160 : decode cX11_bridge 160 = .ok (.sipush (-1004), 3) := by decide +kernel
theorem dX11_bridge_163 : decode cX11_bridge 163 = .ok (.ireturn, 1) := by decide +kernel
theorem dX11_bridge_164 : decode cX11_bridge 164 = .ok (.aload_n 0, 1) := by decide +kernel
theorem dX11_bridge_165 : decode cX11_bridge 165 = .ok (.getfield 7, 3) := by decide +kernel
theorem dX11_bridge_168 : decode cX11_bridge 168 = .ok (.iload 8, 2) := by decide +kernel
theorem dX11_bridge_170 : decode cX11_bridge 170 = .ok (.iload_n 1, 1) := by decide +kernel
theorem dX11_bridge_171 : decode cX11_bridge 171 = .ok (.iastore, 1) := by decide +kernel
theorem dX11_bridge_172 : decode cX11_bridge 172 = .ok (.aload_n 0, 1) := by decide +kernel
theorem dX11_bridge_173 : decode cX11_bridge 173 = .ok (.getfield 13, 3) := by decide +kernel
theorem dX11_bridge_176 : decode cX11_bridge 176 = .ok (.iload 8, 2) := by decide +kernel
theorem dX11_bridge_178 : decode cX11_bridge 178 = .ok (.iload 6, 2) := by decide +kernel
theorem dX11_bridge_180 : decode cX11_bridge 180 = .ok (.iastore, 1) := by decide +kernel
theorem dX11_bridge_181 : decode cX11_bridge 181 = .ok (.aload_n 0, 1) := by decide +kernel
theorem dX11_bridge_182 : decode cX11_bridge 182 = .ok (.getfield 16, 3) := by decide +kernel
theorem dX11_bridge_185 : decode cX11_bridge 185 = .ok (.iload 8, 2) := by decide +kernel
theorem dX11_bridge_187 : decode cX11_bridge 187 = .ok (.iload 6, 2) := by decide +kernel
theorem dX11_bridge_189 : decode cX11_bridge 189 = .ok (.iconst 2, 1) := by decide +kernel
theorem dX11_bridge_190 : decode cX11_bridge 190 = .ok (.isub, 1) := by decide +kernel
theorem dX11_bridge_191 : decode cX11_bridge 191 = .ok (.iastore, 1) := by decide +kernel
theorem dX11_bridge_192 : decode cX11_bridge 192 = .ok (.aload_n 0, 1) := by decide +kernel
theorem dX11_bridge_193 : decode cX11_bridge 193 = .ok (.iload 8, 2) := by decide +kernel
theorem dX11_bridge_195 : decode cX11_bridge 195 = .ok (.lload_n 2, 1) := by decide +kernel
theorem dX11_bridge_196 : decode cX11_bridge 196 = .ok (.invokevirtual 150, 3) := by decide +kernel
theorem dX11_bridge_199 : decode cX11_bridge 199 = .ok (.aload_n 0, 1) := by decide +kernel
theorem dX11_bridge_200 : decode cX11_bridge 200 = .ok (.iload 8, 2) := by decide +kernel
theorem dX11_bridge_202 : decode cX11_bridge 202 = .ok (.lload 4, 2) := by decide +kernel
theorem dX11_bridge_204 : decode cX11_bridge 204 = .ok (.invokevirtual 154, 3) := by decide +kernel
theorem dX11_bridge_207 : decode cX11_bridge 207 = .ok (.ifCond .ne 7, 3) := by decide +kernel
theorem dX11_bridge_210 : decode cX11_bridge 210 = .ok (.sipush (-1003), 3) := by decide +kernel
theorem dX11_bridge_213 : decode cX11_bridge 213 = .ok (.ireturn, 1) := by decide +kernel
theorem dX11_bridge_214 : decode cX11_bridge 214 = .ok (.aload_n 0, 1) := by decide +kernel
theorem dX11_bridge_215 : decode cX11_bridge 215 = .ok (.getfield 66, 3) := by decide +kernel
theorem dX11_bridge_218 : decode cX11_bridge 218 = .ok (.iload 8, 2) := by decide +kernel
theorem dX11_bridge_220 : decode cX11_bridge 220 = .ok (.iconst 0, 1) := by decide +kernel
theorem dX11_bridge_221 : decode cX11_bridge 221 = .ok (.iastore, 1) := by decide +kernel
theorem dX11_bridge_222 : decode cX11_bridge 222 = .ok (.aload_n 0, 1) := by decide +kernel
theorem dX11_bridge_223 : decode cX11_bridge 223 = .ok (.dup, 1) := by decide +kernel
theorem dX11_bridge_224 : decode cX11_bridge 224 = .ok (.getfield 143, 3) := by decide +kernel
theorem dX11_bridge_227 : decode cX11_bridge 227 = .ok (.iconst 1, 1) := by decide +kernel
theorem dX11_bridge_228 : decode cX11_bridge 228 = .ok (.iadd, 1) := by decide +kernel
theorem dX11_bridge_229 : decode cX11_bridge 229 = .ok (.putfield 143, 3) := by decide +kernel
theorem dX11_bridge_232 : decode cX11_bridge 232 = .ok (.iload 8, 2) := by decide +kernel
theorem dX11_bridge_234 : decode cX11_bridge 234 = .ok (.ireturn, 1) := by decide +kernel
theorem dX11_laySupports_0 : decode cX11_laySupports 0 = .ok (.iconst 0, 1) := by decide +kernel
theorem dX11_laySupports_1 : decode cX11_laySupports 1 = .ok (.istore 4, 2) := by decide +kernel
theorem dX11_laySupports_3 : decode cX11_laySupports 3 = .ok (.iconst 0, 1) := by decide +kernel
theorem dX11_laySupports_4 : decode cX11_laySupports 4 = .ok (.istore 5, 2) := by decide +kernel
theorem dX11_laySupports_6 : decode cX11_laySupports 6 = .ok (.iload 5, 2) := by decide +kernel
theorem dX11_laySupports_8 : decode cX11_laySupports 8 = .ok (.bipush 61, 2) := by decide +kernel
theorem dX11_laySupports_10 : decode cX11_laySupports 10 = .ok (.if_icmp .ge 36, 3) := by decide +kernel
theorem dX11_laySupports_13 : decode cX11_laySupports 13 = .ok (.lload_n 2, 1) := by decide +kernel
theorem dX11_laySupports_14 : decode cX11_laySupports 14 = .ok (.iload 5, 2) := by decide +kernel
theorem dX11_laySupports_16 : decode cX11_laySupports 16 = .ok (.lshr, 1) := by decide +kernel
theorem dX11_laySupports_17 : decode cX11_laySupports 17 = .ok (.lconst 1, 1) := by decide +kernel
theorem dX11_laySupports_18 : decode cX11_laySupports 18 = .ok (.land, 1) := by decide +kernel
theorem dX11_laySupports_19 : decode cX11_laySupports 19 = .ok (.lconst 1, 1) := by decide +kernel
theorem dX11_laySupports_20 : decode cX11_laySupports 20 = .ok (.lcmp, 1) := by decide +kernel
theorem dX11_laySupports_21 : decode cX11_laySupports 21 = .ok (.ifCond .ne 19, 3) := by decide +kernel
theorem dX11_laySupports_24 : decode cX11_laySupports 24 = .ok (.aload_n 0, 1) := by decide +kernel
theorem dX11_laySupports_25 : decode cX11_laySupports 25 = .ok (.getfield 19, 3) := by decide +kernel
theorem dX11_laySupports_28 : decode cX11_laySupports 28 = .ok (.iconst 5, 1) := by decide +kernel
theorem dX11_laySupports_29 : decode cX11_laySupports 29 = .ok (.iload_n 1, 1) := by decide +kernel
theorem dX11_laySupports_30 : decode cX11_laySupports 30 = .ok (.imul, 1) := by decide +kernel
theorem dX11_laySupports_31 : decode cX11_laySupports 31 = .ok (.iload 4, 2) := by decide +kernel
theorem dX11_laySupports_33 : decode cX11_laySupports 33 = .ok (.iadd, 1) := by decide +kernel
theorem dX11_laySupports_34 : decode cX11_laySupports 34 = .ok (.iload 5, 2) := by decide +kernel
theorem dX11_laySupports_36 : decode cX11_laySupports 36 = .ok (.iastore, 1) := by decide +kernel
theorem dX11_laySupports_37 : decode cX11_laySupports 37 = .ok (.iinc 4 1, 3) := by decide +kernel
theorem dX11_laySupports_40 : decode cX11_laySupports 40 = .ok (.iinc 5 1, 3) := by decide +kernel
theorem dX11_laySupports_43 : decode cX11_laySupports 43 = .ok (.goto (-37), 3) := by decide +kernel
theorem dX11_laySupports_46 : decode cX11_laySupports 46 = .ok (.return_, 1) := by decide +kernel
theorem dX11_isLoose_0 : decode cX11_isLoose 0 = .ok (.iconst 5, 1) := by decide +kernel
theorem dX11_isLoose_1 : decode cX11_isLoose 1 = .ok (.istore 7, 2) := by decide +kernel
theorem dX11_isLoose_3 : decode cX11_isLoose 3 = .ok (.aload_n 0, 1) := by decide +kernel
theorem dX11_isLoose_4 : decode cX11_isLoose 4 = .ok (.getfield 41, 3) := by decide +kernel
theorem dX11_isLoose_7 : decode cX11_isLoose 7 = .ok (.iconst 5, 1) := by decide +kernel
theorem dX11_isLoose_8 : decode cX11_isLoose 8 = .ok (.aload_n 0, 1) := by decide +kernel
theorem dX11_isLoose_9 : decode cX11_isLoose 9 = .ok (.getfield 7, 3) := by decide +kernel
theorem dX11_isLoose_12 : decode cX11_isLoose 12 = .ok (.iload 7, 2) := by decide +kernel
theorem dX11_isLoose_14 : decode cX11_isLoose 14 = .ok (.iaload, 1) := by decide +kernel
theorem dX11_isLoose_15 : decode cX11_isLoose 15 = .ok (.iastore, 1) := by decide +kernel
theorem dX11_isLoose_16 : decode cX11_isLoose 16 = .ok (.aload_n 0, 1) := by decide +kernel
theorem dX11_isLoose_17 : decode cX11_isLoose 17 = .ok (.getfield 41, 3) := by decide +kernel
theorem dX11_isLoose_20 : decode cX11_isLoose 20 = .ok (.bipush 6, 2) := by decide +kernel
theorem dX11_isLoose_22 : decode cX11_isLoose 22 = .ok (.aload_n 0, 1) := by decide +kernel
theorem dX11_isLoose_23 : decode cX11_isLoose 23 = .ok (.getfield 13, 3) := by decide +kernel
theorem dX11_isLoose_26 : decode cX11_isLoose 26 = .ok (.iload 7, 2) := by decide +kernel
theorem dX11_isLoose_28 : decode cX11_isLoose 28 = .ok (.iaload, 1) := by decide +kernel
theorem dX11_isLoose_29 : decode cX11_isLoose 29 = .ok (.iastore, 1) := by decide +kernel
theorem dX11_isLoose_30 : decode cX11_isLoose 30 = .ok (.iconst 0, 1) := by decide +kernel
theorem dX11_isLoose_31 : decode cX11_isLoose 31 = .ok (.istore 8, 2) := by decide +kernel
theorem dX11_isLoose_33 : decode cX11_isLoose 33 = .ok (.iload 8, 2) := by decide +kernel
theorem dX11_isLoose_35 : decode cX11_isLoose 35 = .ok (.iconst 5, 1) := by decide +kernel
theorem dX11_isLoose_36 : decode cX11_isLoose 36 = .ok (.if_icmp .ge 28, 3) := by decide +kernel
theorem dX11_isLoose_39 : decode cX11_isLoose 39 = .ok (.aload_n 0, 1) := by decide +kernel
theorem dX11_isLoose_40 : decode cX11_isLoose 40 = .ok (.getfield 41, 3) := by decide +kernel
theorem dX11_isLoose_43 : decode cX11_isLoose 43 = .ok (.iload 8, 2) := by decide +kernel
theorem dX11_isLoose_45 : decode cX11_isLoose 45 = .ok (.aload_n 0, 1) := by decide +kernel
theorem dX11_isLoose_46 : decode cX11_isLoose 46 = .ok (.getfield 19, 3) := by decide +kernel
theorem dX11_isLoose_49 : decode cX11_isLoose 49 = .ok (.iconst 5, 1) := by decide +kernel
theorem dX11_isLoose_50 : decode cX11_isLoose 50 = .ok (.iload 7, 2) := by decide +kernel
theorem dX11_isLoose_52 : decode cX11_isLoose 52 = .ok (.imul, 1) := by decide +kernel
theorem dX11_isLoose_53 : decode cX11_isLoose 53 = .ok (.iload 8, 2) := by decide +kernel
theorem dX11_isLoose_55 : decode cX11_isLoose 55 = .ok (.iadd, 1) := by decide +kernel
theorem dX11_isLoose_56 : decode cX11_isLoose 56 = .ok (.iaload, 1) := by decide +kernel
theorem dX11_isLoose_57 : decode cX11_isLoose 57 = .ok (.iastore, 1) := by decide +kernel
theorem dX11_isLoose_58 : decode cX11_isLoose 58 = .ok (.iinc 8 1, 3) := by decide +kernel
theorem dX11_isLoose_61 : decode cX11_isLoose 61 = .ok (.goto (-28), 3) := by decide +kernel
theorem dX11_isLoose_64 : decode cX11_isLoose 64 = .ok (.aload_n 0, 1) := by decide +kernel
theorem dX11_isLoose_65 : decode cX11_isLoose 65 = .ok (.getfield 7, 3) := by decide +kernel
theorem dX11_isLoose_68 : decode cX11_isLoose 68 = .ok (.iload 7, 2) := by decide +kernel
theorem dX11_isLoose_70 : decode cX11_isLoose 70 = .ok (.iload_n 1, 1) := by decide +kernel
theorem dX11_isLoose_71 : decode cX11_isLoose 71 = .ok (.iastore, 1) := by decide +kernel
theorem dX11_isLoose_72 : decode cX11_isLoose 72 = .ok (.aload_n 0, 1) := by decide +kernel
theorem dX11_isLoose_73 : decode cX11_isLoose 73 = .ok (.getfield 13, 3) := by decide +kernel
theorem dX11_isLoose_76 : decode cX11_isLoose 76 = .ok (.iload 7, 2) := by decide +kernel
theorem dX11_isLoose_78 : decode cX11_isLoose 78 = .ok (.iload 6, 2) := by decide +kernel
theorem dX11_isLoose_80 : decode cX11_isLoose 80 = .ok (.iastore, 1) := by decide +kernel
theorem dX11_isLoose_81 : decode cX11_isLoose 81 = .ok (.aload_n 0, 1) := by decide +kernel
theorem dX11_isLoose_82 : decode cX11_isLoose 82 = .ok (.iload 7, 2) := by decide +kernel
theorem dX11_isLoose_84 : decode cX11_isLoose 84 = .ok (.lload_n 2, 1) := by decide +kernel
theorem dX11_isLoose_85 : decode cX11_isLoose 85 = .ok (.invokevirtual 150, 3) := by decide +kernel
theorem dX11_isLoose_88 : decode cX11_isLoose 88 = .ok (.iconst 0, 1) := by decide +kernel
theorem dX11_isLoose_89 : decode cX11_isLoose 89 = .ok (.istore 8, 2) := by decide +kernel
theorem dX11_isLoose_91 : decode cX11_isLoose 91 = .ok (.iload 8, 2) := by decide +kernel
theorem dX11_isLoose_93 : decode cX11_isLoose 93 = .ok (.bipush 30, 2) := by decide +kernel
theorem dX11_isLoose_95 : decode cX11_isLoose 95 = .ok (.if_icmp .ge 17, 3) := by decide +kernel
theorem dX11_isLoose_98 : decode cX11_isLoose 98 = .ok (.aload_n 0, 1) := by decide +kernel
theorem dX11_isLoose_99 : decode cX11_isLoose 99 = .ok (.getfield 38, 3) := by decide +kernel
theorem dX11_isLoose_102 : decode cX11_isLoose 102 = .ok (.iload 8, 2) := by decide +kernel
theorem dX11_isLoose_104 : decode cX11_isLoose 104 = .ok (.lconst 0, 1) := by decide +kernel
theorem dX11_isLoose_105 : decode cX11_isLoose 105 = .ok (.lastore, 1) := by decide +kernel
theorem dX11_isLoose_106 : decode cX11_isLoose 106 = .ok (.iinc 8 1, 3) := by decide +kernel
theorem dX11_isLoose_109 : decode cX11_isLoose 109 = .ok (.goto (-18), 3) := by decide +kernel
theorem dX11_isLoose_112 : decode cX11_isLoose 112 = .ok (.aload_n 0, 1) := by decide +kernel
theorem dX11_isLoose_113 : decode cX11_isLoose 113 = .ok (.iload 7, 2) := by decide +kernel
theorem dX11_isLoose_115 : decode cX11_isLoose 115 = .ok (.lload 4, 2) := by decide +kernel
theorem dX11_isLoose_117 : decode cX11_isLoose 117 = .ok (.iconst 0, 1) := by decide +kernel
theorem dX11_isLoose_118 : decode cX11_isLoose 118 = .ok (.invokevirtual 121, 3) := by decide +kernel
theorem dX11_isLoose_121 : decode cX11_isLoose 121 = .ok (.aload_n 0, 1) := by decide +kernel
theorem dX11_isLoose_122 : decode cX11_isLoose 122 = .ok (.iload 6, 2) := by decide +kernel
theorem dX11_isLoose_124 : decode cX11_isLoose 124 = .ok (.invokevirtual 125, 3) := by decide +kernel
theorem dX11_isLoose_127 : decode cX11_isLoose 127 = .ok (.lconst 0, 1) := by decide +kernel
theorem dX11_isLoose_128 : decode cX11_isLoose 128 = .ok (.lcmp, 1) := by decide +kernel
theorem dX11_isLoose_129 : decode cX11_isLoose 129 = .ok (.ifCond .ne 7, 3) := by decide +kernel
theorem dX11_isLoose_132 : decode cX11_isLoose 132 = .ok (.iconst 1, 1) := by decide +kernel
theorem dX11_isLoose_133 : decode cX11_isLoose 133 = .ok (.goto 4, 3) := by decide +kernel
theorem dX11_isLoose_136 : decode cX11_isLoose 136 = .ok (.iconst 0, 1) := by decide +kernel
theorem dX11_isLoose_137 : decode cX11_isLoose 137 = .ok (.istore 8, 2) := by decide +kernel
theorem dX11_isLoose_139 : decode cX11_isLoose 139 = .ok (.aload_n 0, 1) := by decide +kernel
theorem dX11_isLoose_140 : decode cX11_isLoose 140 = .ok (.getfield 7, 3) := by decide +kernel
theorem dX11_isLoose_143 : decode cX11_isLoose 143 = .ok (.iload 7, 2) := by decide +kernel
theorem dX11_isLoose_145 : decode cX11_isLoose 145 = .ok (.aload_n 0, 1) := by decide +kernel
theorem dX11_isLoose_146 : decode cX11_isLoose 146 = .ok (.getfield 41, 3) := by decide +kernel
theorem dX11_isLoose_149 : decode cX11_isLoose 149 = .ok (.iconst 5, 1) := by decide +kernel
theorem dX11_isLoose_150 : decode cX11_isLoose 150 = .ok (.iaload, 1) := by decide +kernel
theorem dX11_isLoose_151 : decode cX11_isLoose 151 = .ok (.iastore, 1) := by decide +kernel
theorem dX11_isLoose_152 : decode cX11_isLoose 152 = .ok (.aload_n 0, 1) := by decide +kernel
theorem dX11_isLoose_153 : decode cX11_isLoose 153 = .ok (.getfield 13, 3) := by decide +kernel
theorem dX11_isLoose_156 : decode cX11_isLoose 156 = .ok (.iload 7, 2) := by decide +kernel
theorem dX11_isLoose_158 : decode cX11_isLoose 158 = .ok (.aload_n 0, 1) := by decide +kernel
theorem dX11_isLoose_159 : decode cX11_isLoose 159 = .ok (.getfield 41, 3) := by decide +kernel
theorem dX11_isLoose_162 : decode cX11_isLoose 162 = .ok (.bipush 6, 2) := by decide +kernel
theorem dX11_isLoose_164 : decode cX11_isLoose 164 = .ok (.iaload, 1) := by decide +kernel
theorem dX11_isLoose_165 : decode cX11_isLoose 165 = .ok (.iastore, 1) := by decide +kernel
theorem dX11_isLoose_166 : decode cX11_isLoose 166 = .ok (.iconst 0, 1) := by decide +kernel
theorem dX11_isLoose_167 : decode cX11_isLoose 167 = .ok (.istore 9, 2) := by decide +kernel
theorem dX11_isLoose_169 : decode cX11_isLoose 169 = .ok (.iload 9, 2) := by decide +kernel
theorem dX11_isLoose_171 : decode cX11_isLoose 171 = .ok (.iconst 5, 1) := by decide +kernel
theorem dX11_isLoose_172 : decode cX11_isLoose 172 = .ok (.if_icmp .ge 28, 3) := by decide +kernel
theorem dX11_isLoose_175 : decode cX11_isLoose 175 = .ok (.aload_n 0, 1) := by decide +kernel
theorem dX11_isLoose_176 : decode cX11_isLoose 176 = .ok (.getfield 19, 3) := by decide +kernel
theorem dX11_isLoose_179 : decode cX11_isLoose 179 = .ok (.iconst 5, 1) := by decide +kernel
theorem dX11_isLoose_180 : decode cX11_isLoose 180 = .ok (.iload 7, 2) := by decide +kernel
theorem dX11_isLoose_182 : decode cX11_isLoose 182 = .ok (.imul, 1) := by decide +kernel
theorem dX11_isLoose_183 : decode cX11_isLoose 183 = .ok (.iload 9, 2) := by decide +kernel
theorem dX11_isLoose_185 : decode cX11_isLoose 185 = .ok (.iadd, 1) := by decide +kernel
theorem dX11_isLoose_186 : decode cX11_isLoose 186 = .ok (.aload_n 0, 1) := by decide +kernel
theorem dX11_isLoose_187 : decode cX11_isLoose 187 = .ok (.getfield 41, 3) := by decide +kernel
theorem dX11_isLoose_190 : decode cX11_isLoose 190 = .ok (.iload 9, 2) := by decide +kernel
theorem dX11_isLoose_192 : decode cX11_isLoose 192 = .ok (.iaload, 1) := by decide +kernel
theorem dX11_isLoose_193 : decode cX11_isLoose 193 = .ok (.iastore, 1) := by decide +kernel
theorem dX11_isLoose_194 : decode cX11_isLoose 194 = .ok (.iinc 9 1, 3) := by decide +kernel
theorem dX11_isLoose_197 : decode cX11_isLoose 197 = .ok (.goto (-28), 3) := by decide +kernel
theorem dX11_isLoose_200 : decode cX11_isLoose 200 = .ok (.iload 8, 2) := by decide +kernel
theorem dX11_isLoose_202 : decode cX11_isLoose 202 = .ok (.ireturn, 1) := by decide +kernel
theorem dX11_noBridge_0 : decode cX11_noBridge 0 = .ok (.iload_n 1, 1) := by decide +kernel
theorem dX11_noBridge_1 : decode cX11_noBridge 1 = .ok (.i2l, 1) := by decide +kernel
theorem dX11_noBridge_2 : decode cX11_noBridge 2 = .ok (.lconst 0, 1) := by decide +kernel
theorem dX11_noBridge_3 : decode cX11_noBridge 3 = .ok (.aload_n 0, 1) := by decide +kernel
theorem dX11_noBridge_4 : decode cX11_noBridge 4 = .ok (.getfield 143, 3) := by decide +kernel
theorem dX11_noBridge_7 : decode cX11_noBridge 7 = .ok (.iconst 1, 1) := by decide +kernel
theorem dX11_noBridge_8 : decode cX11_noBridge 8 = .ok (.isub, 1) := by decide +kernel
theorem dX11_noBridge_9 : decode cX11_noBridge 9 = .ok (.i2l, 1) := by decide +kernel
theorem dX11_noBridge_10 : decode cX11_noBridge 10 = .ok (.invokestatic 133, 3) := by decide +kernel
theorem dX11_noBridge_13 : decode cX11_noBridge 13 = .ok (.ifCond .ne 7, 3) := by decide +kernel
theorem dX11_noBridge_16 : decode cX11_noBridge 16 = .ok (.iconst 1, 1) := by decide +kernel
theorem dX11_noBridge_17 : decode cX11_noBridge 17 = .ok (.goto 4, 3) := by decide +kernel
theorem dX11_noBridge_20 : decode cX11_noBridge 20 = .ok (.iconst 0, 1) := by decide +kernel
theorem dX11_noBridge_21 : decode cX11_noBridge 21 = .ok (.ireturn, 1) := by decide +kernel
theorem dX11_told_0 : decode cX11_told 0 = .ok (.aload_n 0, 1) := by decide +kernel
theorem dX11_told_1 : decode cX11_told 1 = .ok (.iload_n 1, 1) := by decide +kernel
theorem dX11_told_2 : decode cX11_told 2 = .ok (.invokevirtual 158, 3) := by decide +kernel
theorem dX11_told_5 : decode cX11_told 5 = .ok (.ifCond .eq 7, 3) := by decide +kernel
theorem dX11_told_8 : decode cX11_told 8 = .ok (.sipush (-1001), 3) := by decide +kernel
theorem dX11_told_11 : decode cX11_told 11 = .ok (.ireturn, 1) := by decide +kernel
theorem dX11_told_12 : decode cX11_told 12 = .ok (.iload_n 2, 1) := by decide +kernel
theorem dX11_told_13 : decode cX11_told 13 = .ok (.tableswitch 92 0 6 #[43, 50, 57, 64, 71, 78, 85], 43) := by decide +kernel
theorem dX11_told_56 : decode cX11_told 56 = .ok (.aload_n 0, 1) := by decide +kernel
theorem dX11_told_57 : decode cX11_told 57 = .ok (.getfield 7, 3) := by decide +kernel
theorem dX11_told_60 : decode cX11_told 60 = .ok (.iload_n 1, 1) := by decide +kernel
theorem dX11_told_61 : decode cX11_told 61 = .ok (.iaload, 1) := by decide +kernel
theorem dX11_told_62 : decode cX11_told 62 = .ok (.ireturn, 1) := by decide +kernel
theorem dX11_told_63 : decode cX11_told 63 = .ok (.aload_n 0, 1) := by decide +kernel
theorem dX11_told_64 : decode cX11_told 64 = .ok (.getfield 13, 3) := by decide +kernel
theorem dX11_told_67 : decode cX11_told 67 = .ok (.iload_n 1, 1) := by decide +kernel
theorem dX11_told_68 : decode cX11_told 68 = .ok (.iaload, 1) := by decide +kernel
theorem dX11_told_69 : decode cX11_told 69 = .ok (.ireturn, 1) := by decide +kernel
theorem dX11_told_70 : decode cX11_told 70 = .ok (.aload_n 0, 1) := by decide +kernel
theorem dX11_told_71 : decode cX11_told 71 = .ok (.getfield 16, 3) := by decide +kernel
theorem dX11_told_74 : decode cX11_told 74 = .ok (.iload_n 1, 1) := by decide +kernel
theorem dX11_told_75 : decode cX11_told 75 = .ok (.iaload, 1) := by decide +kernel
theorem dX11_told_76 : decode cX11_told 76 = .ok (.ireturn, 1) := by decide +kernel
theorem dX11_told_77 : decode cX11_told 77 = .ok (.aload_n 0, 1) := by decide +kernel
theorem dX11_told_78 : decode cX11_told 78 = .ok (.getfield 66, 3) := by decide +kernel
theorem dX11_told_81 : decode cX11_told 81 = .ok (.iload_n 1, 1) := by decide +kernel
theorem dX11_told_82 : decode cX11_told 82 = .ok (.iaload, 1) := by decide +kernel
theorem dX11_told_83 : decode cX11_told 83 = .ok (.ireturn, 1) := by decide +kernel
theorem dX11_told_84 : decode cX11_told 84 = .ok (.aload_n 0, 1) := by decide +kernel
theorem dX11_told_85 : decode cX11_told 85 = .ok (.getfield 22, 3) := by decide +kernel
theorem dX11_told_88 : decode cX11_told 88 = .ok (.iload_n 1, 1) := by decide +kernel
theorem dX11_told_89 : decode cX11_told 89 = .ok (.iaload, 1) := by decide +kernel
theorem dX11_told_90 : decode cX11_told 90 = .ok (.ireturn, 1) := by decide +kernel
theorem dX11_told_91 : decode cX11_told 91 = .ok (.aload_n 0, 1) := by decide +kernel
theorem dX11_told_92 : decode cX11_told 92 = .ok (.getfield 25, 3) := by decide +kernel
theorem dX11_told_95 : decode cX11_told 95 = .ok (.iload_n 1, 1) := by decide +kernel
theorem dX11_told_96 : decode cX11_told 96 = .ok (.iaload, 1) := by decide +kernel
theorem dX11_told_97 : decode cX11_told 97 = .ok (.ireturn, 1) := by decide +kernel
theorem dX11_told_98 : decode cX11_told 98 = .ok (.aload_n 0, 1) := by decide +kernel
theorem dX11_told_99 : decode cX11_told 99 = .ok (.getfield 28, 3) := by decide +kernel
theorem dX11_told_102 : decode cX11_told 102 = .ok (.iload_n 1, 1) := by decide +kernel
theorem dX11_told_103 : decode cX11_told 103 = .ok (.iaload, 1) := by decide +kernel
theorem dX11_told_104 : decode cX11_told 104 = .ok (.ireturn, 1) := by decide +kernel
theorem dX11_told_105 : decode cX11_told 105 = .ok (.sipush (-1002), 3) := by decide +kernel
theorem dX11_told_108 : decode cX11_told 108 = .ok (.ireturn, 1) := by decide +kernel
theorem dX11_noSupport_0 : decode cX11_noSupport 0 = .ok (.iload_n 2, 1) := by decide +kernel
theorem dX11_noSupport_1 : decode cX11_noSupport 1 = .ok (.ifCond .ne 25, 3) := by decide +kernel
theorem dX11_noSupport_4 : decode cX11_noSupport 4 = .ok (.iload_n 3, 1) := by decide +kernel
theorem dX11_noSupport_5 : decode cX11_noSupport 5 = .ok (.i2l, 1) := by decide +kernel
theorem dX11_noSupport_6 : decode cX11_noSupport 6 = .ok (.lconst 0, 1) := by decide +kernel
theorem dX11_noSupport_7 : decode cX11_noSupport 7 = .ok (.aload_n 0, 1) := by decide +kernel
theorem dX11_noSupport_8 : decode cX11_noSupport 8 = .ok (.getfield 13, 3) := by decide +kernel
theorem dX11_noSupport_11 : decode cX11_noSupport 11 = .ok (.iload_n 1, 1) := by decide +kernel
theorem dX11_noSupport_12 : decode cX11_noSupport 12 = .ok (.iaload, 1) := by decide +kernel
theorem dX11_noSupport_13 : decode cX11_noSupport 13 = .ok (.iconst 1, 1) := by decide +kernel
theorem dX11_noSupport_14 : decode cX11_noSupport 14 = .ok (.isub, 1) := by decide +kernel
theorem dX11_noSupport_15 : decode cX11_noSupport 15 = .ok (.i2l, 1) := by decide +kernel
theorem dX11_noSupport_16 : decode cX11_noSupport 16 = .ok (.invokestatic 133, 3) := by decide +kernel
theorem dX11_noSupport_19 : decode cX11_noSupport 19 = .ok (.ifCond .ne 7, 3) := by decide +kernel
theorem dX11_noSupport_22 : decode cX11_noSupport 22 = .ok (.iconst 1, 1) := by decide +kernel
theorem dX11_noSupport_23 : decode cX11_noSupport 23 = .ok (.goto 4, 3) := by decide +kernel
theorem dX11_noSupport_26 : decode cX11_noSupport 26 = .ok (.iconst 0, 1) := by decide +kernel
theorem dX11_noSupport_27 : decode cX11_noSupport 27 = .ok (.ireturn, 1) := by decide +kernel
theorem dX11_isResponse_0 : decode cX11_isResponse 0 = .ok (.iload_n 2, 1) := by decide +kernel
theorem dX11_isResponse_1 : decode cX11_isResponse 1 = .ok (.ifCond .eq 24, 3) := by decide +kernel
theorem dX11_isResponse_4 : decode cX11_isResponse 4 = .ok (.iload_n 2, 1) := by decide +kernel
theorem dX11_isResponse_5 : decode cX11_isResponse 5 = .ok (.iconst 1, 1) := by decide +kernel
theorem dX11_isResponse_6 : decode cX11_isResponse 6 = .ok (.if_icmp .ne 23, 3) := by decide +kernel
theorem dX11_isResponse_9 : decode cX11_isResponse 9 = .ok (.iload_n 3, 1) := by decide +kernel
theorem dX11_isResponse_10 : decode cX11_isResponse 10 = .ok (.i2l, 1) := by decide +kernel
theorem dX11_isResponse_11 : decode cX11_isResponse 11 = .ok (.lconst 0, 1) := by decide +kernel
theorem dX11_isResponse_12 : decode cX11_isResponse 12 = .ok (.aload_n 0, 1) := by decide +kernel
theorem dX11_isResponse_13 : decode cX11_isResponse 13 = .ok (.getfield 7, 3) := by decide +kernel
theorem dX11_isResponse_16 : decode cX11_isResponse 16 = .ok (.iload_n 1, 1) := by decide +kernel
theorem dX11_isResponse_17 : decode cX11_isResponse 17 = .ok (.iaload, 1) := by decide +kernel
theorem dX11_isResponse_18 : decode cX11_isResponse 18 = .ok (.i2l, 1) := by decide +kernel
theorem dX11_isResponse_19 : decode cX11_isResponse 19 = .ok (.invokestatic 133, 3) := by decide +kernel
theorem dX11_isResponse_22 : decode cX11_isResponse 22 = .ok (.ifCond .eq 7, 3) := by decide +kernel
theorem dX11_isResponse_25 : decode cX11_isResponse 25 = .ok (.iconst 1, 1) := by decide +kernel
theorem dX11_isResponse_26 : decode cX11_isResponse 26 = .ok (.goto 4, 3) := by decide +kernel
theorem dX11_isResponse_29 : decode cX11_isResponse 29 = .ok (.iconst 0, 1) := by decide +kernel
theorem dX11_isResponse_30 : decode cX11_isResponse 30 = .ok (.ireturn, 1) := by decide +kernel
theorem dX11_influenceAt_0 : decode cX11_influenceAt 0 = .ok (.iconst 5, 1) := by decide +kernel
theorem dX11_influenceAt_1 : decode cX11_influenceAt 1 = .ok (.bipush 61, 2) := by decide +kernel
theorem dX11_influenceAt_3 : decode cX11_influenceAt 3 = .ok (.iload_n 1, 1) := by decide +kernel
theorem dX11_influenceAt_4 : decode cX11_influenceAt 4 = .ok (.imul, 1) := by decide +kernel
theorem dX11_influenceAt_5 : decode cX11_influenceAt 5 = .ok (.iload 4, 2) := by decide +kernel
theorem dX11_influenceAt_7 : decode cX11_influenceAt 7 = .ok (.iadd, 1) := by decide +kernel
theorem dX11_influenceAt_8 : decode cX11_influenceAt 8 = .ok (.imul, 1) := by decide +kernel
theorem dX11_influenceAt_9 : decode cX11_influenceAt 9 = .ok (.istore 5, 2) := by decide +kernel
theorem dX11_influenceAt_11 : decode cX11_influenceAt 11 = .ok (.iload_n 2, 1) := by decide +kernel
theorem dX11_influenceAt_12 : decode cX11_influenceAt 12 = .ok (.ifCond .ne 13, 3) := by decide +kernel
theorem dX11_influenceAt_15 : decode cX11_influenceAt 15 = .ok (.aload_n 0, 1) := by decide +kernel
theorem dX11_influenceAt_16 : decode cX11_influenceAt 16 = .ok (.getfield 31, 3) := by decide +kernel
theorem dX11_influenceAt_19 : decode cX11_influenceAt 19 = .ok (.iload 5, 2) := by decide +kernel
theorem dX11_influenceAt_21 : decode cX11_influenceAt 21 = .ok (.iload_n 3, 1) := by decide +kernel
theorem dX11_influenceAt_22 : decode cX11_influenceAt 22 = .ok (.iadd, 1) := by decide +kernel
theorem dX11_influenceAt_23 : decode cX11_influenceAt 23 = .ok (.laload, 1) := by decide +kernel
theorem dX11_influenceAt_24 : decode cX11_influenceAt 24 = .ok (.lreturn, 1) := by decide +kernel
theorem dX11_influenceAt_25 : decode cX11_influenceAt 25 = .ok (.iload 4, 2) := by decide +kernel
theorem dX11_influenceAt_27 : decode cX11_influenceAt 27 = .ok (.iload_n 3, 1) := by decide +kernel
theorem dX11_influenceAt_28 : decode cX11_influenceAt 28 = .ok (.if_icmp .ge 20, 3) := by decide +kernel
theorem dX11_influenceAt_31 : decode cX11_influenceAt 31 = .ok (.lconst 0, 1) := by decide +kernel
theorem dX11_influenceAt_32 : decode cX11_influenceAt 32 = .ok (.iload_n 3, 1) := by decide +kernel
theorem dX11_influenceAt_33 : decode cX11_influenceAt 33 = .ok (.iload 4, 2) := by decide +kernel
theorem dX11_influenceAt_35 : decode cX11_influenceAt 35 = .ok (.isub, 1) := by decide +kernel
theorem dX11_influenceAt_36 : decode cX11_influenceAt 36 = .ok (.i2l, 1) := by decide +kernel
theorem dX11_influenceAt_37 : decode cX11_influenceAt 37 = .ok (.aload_n 0, 1) := by decide +kernel
theorem dX11_influenceAt_38 : decode cX11_influenceAt 38 = .ok (.getfield 35, 3) := by decide +kernel
theorem dX11_influenceAt_41 : decode cX11_influenceAt 41 = .ok (.iload_n 1, 1) := by decide +kernel
theorem dX11_influenceAt_42 : decode cX11_influenceAt 42 = .ok (.laload, 1) := by decide +kernel
theorem dX11_influenceAt_43 : decode cX11_influenceAt 43 = .ok (.lmul, 1) := by decide +kernel
theorem dX11_influenceAt_44 : decode cX11_influenceAt 44 = .ok (.lsub, 1) := by decide +kernel
theorem dX11_influenceAt_45 : decode cX11_influenceAt 45 = .ok (.goto 4, 3) := by decide +kernel
theorem dX11_influenceAt_48 : decode cX11_influenceAt 48 = .ok (.lconst 0, 1) := by decide +kernel
theorem dX11_influenceAt_49 : decode cX11_influenceAt 49 = .ok (.lstore 6, 2) := by decide +kernel
theorem dX11_influenceAt_51 : decode cX11_influenceAt 51 = .ok (.iconst 0, 1) := by decide +kernel
theorem dX11_influenceAt_52 : decode cX11_influenceAt 52 = .ok (.istore 8, 2) := by decide +kernel
theorem dX11_influenceAt_54 : decode cX11_influenceAt 54 = .ok (.iload 8, 2) := by decide +kernel
theorem dX11_influenceAt_56 : decode cX11_influenceAt 56 = .ok (.aload_n 0, 1) := by decide +kernel
theorem dX11_influenceAt_57 : decode cX11_influenceAt 57 = .ok (.getfield 13, 3) := by decide +kernel
theorem dX11_influenceAt_60 : decode cX11_influenceAt 60 = .ok (.iload_n 1, 1) := by decide +kernel
theorem dX11_influenceAt_61 : decode cX11_influenceAt 61 = .ok (.iaload, 1) := by decide +kernel
theorem dX11_influenceAt_62 : decode cX11_influenceAt 62 = .ok (.if_icmp .ge 53, 3) := by decide +kernel
theorem dX11_influenceAt_65 : decode cX11_influenceAt 65 = .ok (.aload_n 0, 1) := by decide +kernel
theorem dX11_influenceAt_66 : decode cX11_influenceAt 66 = .ok (.getfield 19, 3) := by decide +kernel
theorem dX11_influenceAt_69 : decode cX11_influenceAt 69 = .ok (.iconst 5, 1) := by decide +kernel
theorem dX11_influenceAt_70 : decode cX11_influenceAt 70 = .ok (.iload_n 1, 1) := by decide +kernel
theorem dX11_influenceAt_71 : decode cX11_influenceAt 71 = .ok (.imul, 1) := by decide +kernel
theorem dX11_influenceAt_72 : decode cX11_influenceAt 72 = .ok (.iload 8, 2) := by decide +kernel
theorem dX11_influenceAt_74 : decode cX11_influenceAt 74 = .ok (.iadd, 1) := by decide +kernel
theorem dX11_influenceAt_75 : decode cX11_influenceAt 75 = .ok (.iaload, 1) := by decide +kernel
theorem dX11_influenceAt_76 : decode cX11_influenceAt 76 = .ok (.istore 9, 2) := by decide +kernel
theorem dX11_influenceAt_78 : decode cX11_influenceAt 78 = .ok (.lload 6, 2) := by decide +kernel
theorem dX11_influenceAt_80 : decode cX11_influenceAt 80 = .ok (.iload 9, 2) := by decide +kernel
theorem dX11_influenceAt_82 : decode cX11_influenceAt 82 = .ok (.iload_n 3, 1) := by decide +kernel
theorem dX11_influenceAt_83 : decode cX11_influenceAt 83 = .ok (.if_icmp .ge 22, 3) := by decide +kernel
theorem dX11_influenceAt_86 : decode cX11_influenceAt 86 = .ok (.aload_n 0, 1) := by decide +kernel
theorem dX11_influenceAt_87 : decode cX11_influenceAt 87 = .ok (.getfield 31, 3) := by decide +kernel
theorem dX11_influenceAt_90 : decode cX11_influenceAt 90 = .ok (.iload 5, 2) := by decide +kernel
theorem dX11_influenceAt_92 : decode cX11_influenceAt 92 = .ok (.iload 8, 2) := by decide +kernel
theorem dX11_influenceAt_94 : decode cX11_influenceAt 94 = .ok (.iadd, 1) := by decide +kernel
theorem dX11_influenceAt_95 : decode cX11_influenceAt 95 = .ok (.laload, 1) := by decide +kernel
theorem dX11_influenceAt_96 : decode cX11_influenceAt 96 = .ok (.iload_n 3, 1) := by decide +kernel
theorem dX11_influenceAt_97 : decode cX11_influenceAt 97 = .ok (.iload 9, 2) := by decide +kernel
theorem dX11_influenceAt_99 : decode cX11_influenceAt 99 = .ok (.isub, 1) := by decide +kernel
theorem dX11_influenceAt_100 : decode cX11_influenceAt 100 = .ok (.i2l, 1) := by decide +kernel
theorem dX11_influenceAt_101 : decode cX11_influenceAt 101 = .ok (.lmul, 1) := by decide +kernel
theorem dX11_influenceAt_102 : decode cX11_influenceAt 102 = .ok (.goto 4, 3) := by decide +kernel
theorem dX11_influenceAt_105 : decode cX11_influenceAt 105 = .ok (.lconst 0, 1) := by decide +kernel
theorem dX11_influenceAt_106 : decode cX11_influenceAt 106 = .ok (.ladd, 1) := by decide +kernel
theorem dX11_influenceAt_107 : decode cX11_influenceAt 107 = .ok (.lstore 6, 2) := by decide +kernel
theorem dX11_influenceAt_109 : decode cX11_influenceAt 109 = .ok (.iinc 8 1, 3) := by decide +kernel
theorem dX11_influenceAt_112 : decode cX11_influenceAt 112 = .ok (.goto (-58), 3) := by decide +kernel
theorem dX11_influenceAt_115 : decode cX11_influenceAt 115 = .ok (.lload 6, 2) := by decide +kernel
theorem dX11_influenceAt_117 : decode cX11_influenceAt 117 = .ok (.lreturn, 1) := by decide +kernel
theorem dX11_influence_0 : decode cX11_influence 0 = .ok (.aload_n 0, 1) := by decide +kernel
theorem dX11_influence_1 : decode cX11_influence 1 = .ok (.iload_n 1, 1) := by decide +kernel
theorem dX11_influence_2 : decode cX11_influence 2 = .ok (.invokevirtual 158, 3) := by decide +kernel
theorem dX11_influence_5 : decode cX11_influence 5 = .ok (.ifCond .ne 13, 3) := by decide +kernel
theorem dX11_influence_8 : decode cX11_influence 8 = .ok (.aload_n 0, 1) := by decide +kernel
theorem dX11_influence_9 : decode cX11_influence 9 = .ok (.iload_n 1, 1) := by decide +kernel
theorem dX11_influence_10 : decode cX11_influence 10 = .ok (.iload_n 2, 1) := by decide +kernel
theorem dX11_influence_11 : decode cX11_influence 11 = .ok (.iload_n 3, 1) := by decide +kernel
theorem dX11_influence_12 : decode cX11_influence 12 = .ok (.invokevirtual 162, 3) := by decide +kernel
theorem dX11_influence_15 : decode cX11_influence 15 = .ok (.ifCond .eq 7, 3) := by decide +kernel
theorem dX11_influence_18 : decode cX11_influence 18 = .ok (.ldc2_w 166, 3) := by decide +kernel
theorem dX11_influence_21 : decode cX11_influence 21 = .ok (.lreturn, 1) := by decide +kernel
theorem dX11_influence_22 : decode cX11_influence 22 = .ok (.aload_n 0, 1) := by decide +kernel
theorem dX11_influence_23 : decode cX11_influence 23 = .ok (.iload_n 1, 1) := by decide +kernel
theorem dX11_influence_24 : decode cX11_influence 24 = .ok (.iload_n 2, 1) := by decide +kernel
theorem dX11_influence_25 : decode cX11_influence 25 = .ok (.iload_n 3, 1) := by decide +kernel
theorem dX11_influence_26 : decode cX11_influence 26 = .ok (.invokevirtual 168, 3) := by decide +kernel
theorem dX11_influence_29 : decode cX11_influence 29 = .ok (.ifCond .eq 31, 3) := by decide +kernel
theorem dX11_influence_32 : decode cX11_influence 32 = .ok (.iload 4, 2) := by decide +kernel
theorem dX11_influence_34 : decode cX11_influence 34 = .ok (.i2l, 1) := by decide +kernel
theorem dX11_influence_35 : decode cX11_influence 35 = .ok (.lconst 0, 1) := by decide +kernel
theorem dX11_influence_36 : decode cX11_influence 36 = .ok (.aload_n 0, 1) := by decide +kernel
theorem dX11_influence_37 : decode cX11_influence 37 = .ok (.getfield 7, 3) := by decide +kernel
theorem dX11_influence_40 : decode cX11_influence 40 = .ok (.iload_n 1, 1) := by decide +kernel
theorem dX11_influence_41 : decode cX11_influence 41 = .ok (.iaload, 1) := by decide +kernel
theorem dX11_influence_42 : decode cX11_influence 42 = .ok (.i2l, 1) := by decide +kernel
theorem dX11_influence_43 : decode cX11_influence 43 = .ok (.invokestatic 133, 3) := by decide +kernel
theorem dX11_influence_46 : decode cX11_influence 46 = .ok (.ifCond .eq 14, 3) := by decide +kernel
theorem dX11_influence_49 : decode cX11_influence 49 = .ok (.iload 5, 2) := by decide +kernel
theorem dX11_influence_51 : decode cX11_influence 51 = .ok (.i2l, 1) := by decide +kernel
theorem dX11_influence_52 : decode cX11_influence 52 = .ok (.lconst 0, 1) := by decide +kernel
theorem dX11_influence_53 : decode cX11_influence 53 = .ok (.lconst 1, 1) := by decide +kernel
theorem dX11_influence_54 : decode cX11_influence 54 = .ok (.invokestatic 133, 3) := by decide +kernel
theorem dX11_influence_57 : decode cX11_influence 57 = .ok (.ifCond .ne 7, 3) := by decide +kernel
theorem dX11_influence_60 : decode cX11_influence 60 = .ok (.ldc2_w 171, 3) := by decide +kernel
theorem dX11_influence_63 : decode cX11_influence 63 = .ok (.lreturn, 1) := by decide +kernel
theorem dX11_influence_64 : decode cX11_influence 64 = .ok (.aload_n 0, 1) := by decide +kernel
theorem dX11_influence_65 : decode cX11_influence 65 = .ok (.iload_n 1, 1) := by decide +kernel
theorem dX11_influence_66 : decode cX11_influence 66 = .ok (.iload_n 2, 1) := by decide +kernel
theorem dX11_influence_67 : decode cX11_influence 67 = .ok (.iload_n 3, 1) := by decide +kernel
theorem dX11_influence_68 : decode cX11_influence 68 = .ok (.iload 4, 2) := by decide +kernel
theorem dX11_influence_70 : decode cX11_influence 70 = .ok (.invokevirtual 173, 3) := by decide +kernel
theorem dX11_influence_73 : decode cX11_influence 73 = .ok (.aload_n 0, 1) := by decide +kernel
theorem dX11_influence_74 : decode cX11_influence 74 = .ok (.getfield 35, 3) := by decide +kernel
theorem dX11_influence_77 : decode cX11_influence 77 = .ok (.iload_n 1, 1) := by decide +kernel
theorem dX11_influence_78 : decode cX11_influence 78 = .ok (.laload, 1) := by decide +kernel
theorem dX11_influence_79 : decode cX11_influence 79 = .ok (.iload 5, 2) := by decide +kernel
theorem dX11_influence_81 : decode cX11_influence 81 = .ok (.invokestatic 177, 3) := by decide +kernel
theorem dX11_influence_84 : decode cX11_influence 84 = .ok (.lreturn, 1) := by decide +kernel
theorem dX11_rule_0 : decode cX11_rule 0 = .ok (.aload_n 0, 1) := by decide +kernel
theorem dX11_rule_1 : decode cX11_rule 1 = .ok (.iload_n 1, 1) := by decide +kernel
theorem dX11_rule_2 : decode cX11_rule 2 = .ok (.invokevirtual 158, 3) := by decide +kernel
theorem dX11_rule_5 : decode cX11_rule 5 = .ok (.ifCond .eq 7, 3) := by decide +kernel
theorem dX11_rule_8 : decode cX11_rule 8 = .ok (.sipush (-1001), 3) := by decide +kernel
theorem dX11_rule_11 : decode cX11_rule 11 = .ok (.ireturn, 1) := by decide +kernel
theorem dX11_rule_12 : decode cX11_rule 12 = .ok (.sipush (-1002), 3) := by decide +kernel
theorem dX11_rule_15 : decode cX11_rule 15 = .ok (.istore 4, 2) := by decide +kernel
theorem dX11_rule_17 : decode cX11_rule 17 = .ok (.iload_n 2, 1) := by decide +kernel
theorem dX11_rule_18 : decode cX11_rule 18 = .ok (.ifCond .ne 33, 3) := by decide +kernel
theorem dX11_rule_21 : decode cX11_rule 21 = .ok (.iload_n 3, 1) := by decide +kernel
theorem dX11_rule_22 : decode cX11_rule 22 = .ok (.i2l, 1) := by decide +kernel
theorem dX11_rule_23 : decode cX11_rule 23 = .ok (.lconst 0, 1) := by decide +kernel
theorem dX11_rule_24 : decode cX11_rule 24 = .ok (.ldc2_w 131, 3) := by decide +kernel
theorem dX11_rule_27 : decode cX11_rule 27 = .ok (.invokestatic 133, 3) := by decide +kernel
theorem dX11_rule_30 : decode cX11_rule 30 = .ok (.ifCond .eq 21, 3) := by decide +kernel
theorem dX11_rule_33 : decode cX11_rule 33 = .ok (.aload_n 0, 1) := by decide +kernel
theorem dX11_rule_34 : decode cX11_rule 34 = .ok (.getfield 22, 3) := by decide +kernel
theorem dX11_rule_37 : decode cX11_rule 37 = .ok (.iload_n 1, 1) := by decide +kernel
theorem dX11_rule_38 : decode cX11_rule 38 = .ok (.iaload, 1) := by decide +kernel
theorem dX11_rule_39 : decode cX11_rule 39 = .ok (.istore 4, 2) := by decide +kernel
theorem dX11_rule_41 : decode cX11_rule 41 = .ok (.aload_n 0, 1) := by decide +kernel
theorem dX11_rule_42 : decode cX11_rule 42 = .ok (.getfield 22, 3) := by decide +kernel
theorem dX11_rule_45 : decode cX11_rule 45 = .ok (.iload_n 1, 1) := by decide +kernel
theorem dX11_rule_46 : decode cX11_rule 46 = .ok (.iload_n 3, 1) := by decide +kernel
theorem dX11_rule_47 : decode cX11_rule 47 = .ok (.iastore, 1) := by decide +kernel
theorem dX11_rule_48 : decode cX11_rule 48 = .ok (.goto 70, 3) := by decide +kernel
theorem dX11_rule_51 : decode cX11_rule 51 = .ok (.iload_n 2, 1) := by decide +kernel
theorem dX11_rule_52 : decode cX11_rule 52 = .ok (.iconst 1, 1) := by decide +kernel
theorem dX11_rule_53 : decode cX11_rule 53 = .ok (.if_icmp .ne 33, 3) := by decide +kernel
theorem dX11_rule_56 : decode cX11_rule 56 = .ok (.iload_n 3, 1) := by decide +kernel
theorem dX11_rule_57 : decode cX11_rule 57 = .ok (.i2l, 1) := by decide +kernel
theorem dX11_rule_58 : decode cX11_rule 58 = .ok (.lconst 1, 1) := by decide +kernel
theorem dX11_rule_59 : decode cX11_rule 59 = .ok (.ldc2_w 181, 3) := by decide +kernel
theorem dX11_rule_62 : decode cX11_rule 62 = .ok (.invokestatic 133, 3) := by decide +kernel
theorem dX11_rule_65 : decode cX11_rule 65 = .ok (.ifCond .eq 21, 3) := by decide +kernel
theorem dX11_rule_68 : decode cX11_rule 68 = .ok (.aload_n 0, 1) := by decide +kernel
theorem dX11_rule_69 : decode cX11_rule 69 = .ok (.getfield 25, 3) := by decide +kernel
theorem dX11_rule_72 : decode cX11_rule 72 = .ok (.iload_n 1, 1) := by decide +kernel
theorem dX11_rule_73 : decode cX11_rule 73 = .ok (.iaload, 1) := by decide +kernel
theorem dX11_rule_74 : decode cX11_rule 74 = .ok (.istore 4, 2) := by decide +kernel
theorem dX11_rule_76 : decode cX11_rule 76 = .ok (.aload_n 0, 1) := by decide +kernel
theorem dX11_rule_77 : decode cX11_rule 77 = .ok (.getfield 25, 3) := by decide +kernel
theorem dX11_rule_80 : decode cX11_rule 80 = .ok (.iload_n 1, 1) := by decide +kernel
theorem dX11_rule_81 : decode cX11_rule 81 = .ok (.iload_n 3, 1) := by decide +kernel
theorem dX11_rule_82 : decode cX11_rule 82 = .ok (.iastore, 1) := by decide +kernel
theorem dX11_rule_83 : decode cX11_rule 83 = .ok (.goto 35, 3) := by decide +kernel
theorem dX11_rule_86 : decode cX11_rule 86 = .ok (.iload_n 2, 1) := by decide +kernel
theorem dX11_rule_87 : decode cX11_rule 87 = .ok (.iconst 2, 1) := by decide +kernel
theorem dX11_rule_88 : decode cX11_rule 88 = .ok (.if_icmp .ne 30, 3) := by decide +kernel
theorem dX11_rule_91 : decode cX11_rule 91 = .ok (.iload_n 3, 1) := by decide +kernel
theorem dX11_rule_92 : decode cX11_rule 92 = .ok (.i2l, 1) := by decide +kernel
theorem dX11_rule_93 : decode cX11_rule 93 = .ok (.lconst 0, 1) := by decide +kernel
theorem dX11_rule_94 : decode cX11_rule 94 = .ok (.ldc2_w 183, 3) := by decide +kernel
theorem dX11_rule_97 : decode cX11_rule 97 = .ok (.invokestatic 133, 3) := by decide +kernel
theorem dX11_rule_100 : decode cX11_rule 100 = .ok (.ifCond .eq 18, 3) := by decide +kernel
theorem dX11_rule_103 : decode cX11_rule 103 = .ok (.aload_n 0, 1) := by decide +kernel
theorem dX11_rule_104 : decode cX11_rule 104 = .ok (.getfield 28, 3) := by decide +kernel
theorem dX11_rule_107 : decode cX11_rule 107 = .ok (.iload_n 1, 1) := by decide +kernel
theorem dX11_rule_108 : decode cX11_rule 108 = .ok (.iaload, 1) := by decide +kernel
theorem dX11_rule_109 : decode cX11_rule 109 = .ok (.istore 4, 2) := by decide +kernel
theorem dX11_rule_111 : decode cX11_rule 111 = .ok (.aload_n 0, 1) := by decide +kernel
theorem dX11_rule_112 : decode cX11_rule 112 = .ok (.getfield 28, 3) := by decide +kernel
theorem dX11_rule_115 : decode cX11_rule 115 = .ok (.iload_n 1, 1) := by decide +kernel
theorem dX11_rule_116 : decode cX11_rule 116 = .ok (.iload_n 3, 1) := by decide +kernel
theorem dX11_rule_117 : decode cX11_rule 117 = .ok (.iastore, 1) := by decide +kernel
theorem dX11_rule_118 : decode cX11_rule 118 = .ok (.iload 4, 2) := by decide +kernel
theorem dX11_rule_120 : decode cX11_rule 120 = .ok (.ireturn, 1) := by decide +kernel
theorem dX11_noTrain_0 : decode cX11_noTrain 0 = .ok (.iload_n 1, 1) := by decide +kernel
theorem dX11_noTrain_1 : decode cX11_noTrain 1 = .ok (.i2l, 1) := by decide +kernel
theorem dX11_noTrain_2 : decode cX11_noTrain 2 = .ok (.lconst 0, 1) := by decide +kernel
theorem dX11_noTrain_3 : decode cX11_noTrain 3 = .ok (.aload_n 0, 1) := by decide +kernel
theorem dX11_noTrain_4 : decode cX11_noTrain 4 = .ok (.getfield 185, 3) := by decide +kernel
theorem dX11_noTrain_7 : decode cX11_noTrain 7 = .ok (.iconst 1, 1) := by decide +kernel
theorem dX11_noTrain_8 : decode cX11_noTrain 8 = .ok (.isub, 1) := by decide +kernel
theorem dX11_noTrain_9 : decode cX11_noTrain 9 = .ok (.i2l, 1) := by decide +kernel
theorem dX11_noTrain_10 : decode cX11_noTrain 10 = .ok (.invokestatic 133, 3) := by decide +kernel
theorem dX11_noTrain_13 : decode cX11_noTrain 13 = .ok (.ifCond .ne 7, 3) := by decide +kernel
theorem dX11_noTrain_16 : decode cX11_noTrain 16 = .ok (.iconst 1, 1) := by decide +kernel
theorem dX11_noTrain_17 : decode cX11_noTrain 17 = .ok (.goto 4, 3) := by decide +kernel
theorem dX11_noTrain_20 : decode cX11_noTrain 20 = .ok (.iconst 0, 1) := by decide +kernel
theorem dX11_noTrain_21 : decode cX11_noTrain 21 = .ok (.ireturn, 1) := by decide +kernel
theorem dX11_train_0 : decode cX11_train 0 = .ok (.iload_n 1, 1) := by decide +kernel
theorem dX11_train_1 : decode cX11_train 1 = .ok (.i2l, 1) := by decide +kernel
theorem dX11_train_2 : decode cX11_train 2 = .ok (.lconst 1, 1) := by decide +kernel
theorem dX11_train_3 : decode cX11_train 3 = .ok (.ldc2_w 188, 3) := by decide +kernel
theorem dX11_train_6 : decode cX11_train 6 = .ok (.invokestatic 133, 3) := by decide +kernel
theorem dX11_train_9 : decode cX11_train 9 = .ok (.ifCond .ne 7, 3) := by decide +kernel
theorem dX11_train_12 : decode cX11_train 12 = .ok (.sipush (-1002), 3) := by decide +kernel
theorem dX11_train_15 : decode cX11_train 15 = .ok (.ireturn, 1) := by decide +kernel
theorem dX11_train_16 : decode cX11_train 16 = .ok (.aload_n 0, 1) := by decide +kernel
theorem dX11_train_17 : decode cX11_train 17 = .ok (.getfield 185, 3) := by decide +kernel
theorem dX11_train_20 : decode cX11_train 20 = .ok (.bipush 8, 2) := by decide +kernel
theorem dX11_train_22 : decode cX11_train 22 = .ok (.if_icmp .ne 7, 3) := by decide +kernel
theorem dX11_train_25 : decode cX11_train 25 = .ok (.sipush (-1004), 3) := by decide +kernel
theorem dX11_train_28 : decode cX11_train 28 = .ok (.ireturn, 1) := by decide +kernel
theorem dX11_train_29 : decode cX11_train 29 = .ok (.aload_n 0, 1) := by decide +kernel
theorem dX11_train_30 : decode cX11_train 30 = .ok (.getfield 44, 3) := by decide +kernel
theorem dX11_train_33 : decode cX11_train 33 = .ok (.aload_n 0, 1) := by decide +kernel
theorem dX11_train_34 : decode cX11_train 34 = .ok (.getfield 185, 3) := by decide +kernel
theorem dX11_train_37 : decode cX11_train 37 = .ok (.iconst 1, 1) := by decide +kernel
theorem dX11_train_38 : decode cX11_train 38 = .ok (.iastore, 1) := by decide +kernel
theorem dX11_train_39 : decode cX11_train 39 = .ok (.aload_n 0, 1) := by decide +kernel
theorem dX11_train_40 : decode cX11_train 40 = .ok (.getfield 47, 3) := by decide +kernel
theorem dX11_train_43 : decode cX11_train 43 = .ok (.bipush 8, 2) := by decide +kernel
theorem dX11_train_45 : decode cX11_train 45 = .ok (.aload_n 0, 1) := by decide +kernel
theorem dX11_train_46 : decode cX11_train 46 = .ok (.getfield 185, 3) := by decide +kernel
theorem dX11_train_49 : decode cX11_train 49 = .ok (.imul, 1) := by decide +kernel
theorem dX11_train_50 : decode cX11_train 50 = .ok (.iload_n 1, 1) := by decide +kernel
theorem dX11_train_51 : decode cX11_train 51 = .ok (.iastore, 1) := by decide +kernel
theorem dX11_train_52 : decode cX11_train 52 = .ok (.aload_n 0, 1) := by decide +kernel
theorem dX11_train_53 : decode cX11_train 53 = .ok (.getfield 50, 3) := by decide +kernel
theorem dX11_train_56 : decode cX11_train 56 = .ok (.bipush 8, 2) := by decide +kernel
theorem dX11_train_58 : decode cX11_train 58 = .ok (.aload_n 0, 1) := by decide +kernel
theorem dX11_train_59 : decode cX11_train 59 = .ok (.getfield 185, 3) := by decide +kernel
theorem dX11_train_62 : decode cX11_train 62 = .ok (.imul, 1) := by decide +kernel
theorem dX11_train_63 : decode cX11_train 63 = .ok (.iconst 0, 1) := by decide +kernel
theorem dX11_train_64 : decode cX11_train 64 = .ok (.iastore, 1) := by decide +kernel
theorem dX11_train_65 : decode cX11_train 65 = .ok (.aload_n 0, 1) := by decide +kernel
theorem dX11_train_66 : decode cX11_train 66 = .ok (.getfield 53, 3) := by decide +kernel
theorem dX11_train_69 : decode cX11_train 69 = .ok (.aload_n 0, 1) := by decide +kernel
theorem dX11_train_70 : decode cX11_train 70 = .ok (.getfield 185, 3) := by decide +kernel
theorem dX11_train_73 : decode cX11_train 73 = .ok (.iconst 0, 1) := by decide +kernel
theorem dX11_train_74 : decode cX11_train 74 = .ok (.iastore, 1) := by decide +kernel
theorem dX11_train_75 : decode cX11_train 75 = .ok (.aload_n 0, 1) := by decide +kernel
theorem dX11_train_76 : decode cX11_train 76 = .ok (.dup, 1) := by decide +kernel
theorem dX11_train_77 : decode cX11_train 77 = .ok (.getfield 185, 3) := by decide +kernel
theorem dX11_train_80 : decode cX11_train 80 = .ok (.iconst 1, 1) := by decide +kernel
theorem dX11_train_81 : decode cX11_train 81 = .ok (.iadd, 1) := by decide +kernel
theorem dX11_train_82 : decode cX11_train 82 = .ok (.putfield 185, 3) := by decide +kernel
theorem dX11_train_85 : decode cX11_train 85 = .ok (.aload_n 0, 1) := by decide +kernel
theorem dX11_train_86 : decode cX11_train 86 = .ok (.getfield 185, 3) := by decide +kernel
theorem dX11_train_89 : decode cX11_train 89 = .ok (.iconst 1, 1) := by decide +kernel
theorem dX11_train_90 : decode cX11_train 90 = .ok (.isub, 1) := by decide +kernel
theorem dX11_train_91 : decode cX11_train 91 = .ok (.ireturn, 1) := by decide +kernel
theorem dX11_axle_0 : decode cX11_axle 0 = .ok (.aload_n 0, 1) := by decide +kernel
theorem dX11_axle_1 : decode cX11_axle 1 = .ok (.iload_n 1, 1) := by decide +kernel
theorem dX11_axle_2 : decode cX11_axle 2 = .ok (.invokevirtual 190, 3) := by decide +kernel
theorem dX11_axle_5 : decode cX11_axle 5 = .ok (.ifCond .eq 7, 3) := by decide +kernel
theorem dX11_axle_8 : decode cX11_axle 8 = .ok (.sipush (-1001), 3) := by decide +kernel
theorem dX11_axle_11 : decode cX11_axle 11 = .ok (.ireturn, 1) := by decide +kernel
theorem dX11_axle_12 : decode cX11_axle 12 = .ok (.iload_n 2, 1) := by decide +kernel
theorem dX11_axle_13 : decode cX11_axle 13 = .ok (.i2l, 1) := by decide +kernel
theorem dX11_axle_14 : decode cX11_axle 14 = .ok (.lconst 1, 1) := by decide +kernel
theorem dX11_axle_15 : decode cX11_axle 15 = .ok (.ldc2_w 193, 3) := by decide +kernel
theorem dX11_axle_18 : decode cX11_axle 18 = .ok (.invokestatic 133, 3) := by decide +kernel
theorem dX11_axle_21 : decode cX11_axle 21 = .ok (.ifCond .eq 15, 3) := by decide +kernel
theorem dX11_axle_24 : decode cX11_axle 24 = .ok (.iload_n 3, 1) := by decide +kernel
theorem dX11_axle_25 : decode cX11_axle 25 = .ok (.i2l, 1) := by decide +kernel
theorem dX11_axle_26 : decode cX11_axle 26 = .ok (.lconst 1, 1) := by decide +kernel
theorem dX11_axle_27 : decode cX11_axle 27 = .ok (.ldc2_w 188, 3) := by decide +kernel
theorem dX11_axle_30 : decode cX11_axle 30 = .ok (.invokestatic 133, 3) := by decide +kernel
theorem dX11_axle_33 : decode cX11_axle 33 = .ok (.ifCond .ne 7, 3) := by decide +kernel
theorem dX11_axle_36 : decode cX11_axle 36 = .ok (.sipush (-1002), 3) := by decide +kernel
theorem dX11_axle_39 : decode cX11_axle 39 = .ok (.ireturn, 1) := by decide +kernel
theorem dX11_axle_40 : decode cX11_axle 40 = .ok (.aload_n 0, 1) := by decide +kernel
theorem dX11_axle_41 : decode cX11_axle 41 = .ok (.getfield 44, 3) := by decide +kernel
theorem dX11_axle_44 : decode cX11_axle 44 = .ok (.iload_n 1, 1) := by decide +kernel
theorem dX11_axle_45 : decode cX11_axle 45 = .ok (.iaload, 1) := by decide +kernel
theorem dX11_axle_46 : decode cX11_axle 46 = .ok (.bipush 8, 2) := by decide +kernel
theorem dX11_axle_48 : decode cX11_axle 48 = .ok (.if_icmp .ne 7, 3) := by decide +kernel
theorem dX11_axle_51 : decode cX11_axle 51 = .ok (.sipush (-1004), 3) := by decide +kernel
theorem dX11_axle_54 : decode cX11_axle 54 = .ok (.ireturn, 1) := by decide +kernel
theorem dX11_axle_55 : decode cX11_axle 55 = .ok (.aload_n 0, 1) := by decide +kernel
theorem dX11_axle_56 : decode cX11_axle 56 = .ok (.getfield 47, 3) := by decide +kernel
theorem dX11_axle_59 : decode cX11_axle 59 = .ok (.bipush 8, 2) := by decide +kernel
theorem dX11_axle_61 : decode cX11_axle 61 = .ok (.iload_n 1, 1) := by decide +kernel
theorem dX11_axle_62 : decode cX11_axle 62 = .ok (.imul, 1) := by decide +kernel
theorem dX11_axle_63 : decode cX11_axle 63 = .ok (.aload_n 0, 1) := by decide +kernel
theorem dX11_axle_64 : decode cX11_axle 64 = .ok (.getfield 44, 3) := by decide +kernel
theorem dX11_axle_67 : decode cX11_axle 67 = .ok (.iload_n 1, 1) := by decide +kernel
theorem dX11_axle_68 : decode cX11_axle 68 = .ok (.iaload, 1) := by decide +kernel
theorem dX11_axle_69 : decode cX11_axle 69 = .ok (.iadd, 1) := by decide +kernel
theorem dX11_axle_70 : decode cX11_axle 70 = .ok (.iload_n 3, 1) := by decide +kernel
theorem dX11_axle_71 : decode cX11_axle 71 = .ok (.iastore, 1) := by decide +kernel
theorem dX11_axle_72 : decode cX11_axle 72 = .ok (.aload_n 0, 1) := by decide +kernel
theorem dX11_axle_73 : decode cX11_axle 73 = .ok (.getfield 50, 3) := by decide +kernel
theorem dX11_axle_76 : decode cX11_axle 76 = .ok (.bipush 8, 2) := by decide +kernel
theorem dX11_axle_78 : decode cX11_axle 78 = .ok (.iload_n 1, 1) := by decide +kernel
theorem dX11_axle_79 : decode cX11_axle 79 = .ok (.imul, 1) := by decide +kernel
theorem dX11_axle_80 : decode cX11_axle 80 = .ok (.aload_n 0, 1) := by decide +kernel
theorem dX11_axle_81 : decode cX11_axle 81 = .ok (.getfield 44, 3) := by decide +kernel
theorem dX11_axle_84 : decode cX11_axle 84 = .ok (.iload_n 1, 1) := by decide +kernel
theorem dX11_axle_85 : decode cX11_axle 85 = .ok (.iaload, 1) := by decide +kernel
theorem dX11_axle_86 : decode cX11_axle 86 = .ok (.iadd, 1) := by decide +kernel
theorem dX11_axle_87 : decode cX11_axle 87 = .ok (.iload_n 2, 1) := by decide +kernel
theorem dX11_axle_88 : decode cX11_axle 88 = .ok (.iastore, 1) := by decide +kernel
theorem dX11_axle_89 : decode cX11_axle 89 = .ok (.aload_n 0, 1) := by decide +kernel
theorem dX11_axle_90 : decode cX11_axle 90 = .ok (.getfield 44, 3) := by decide +kernel
theorem dX11_axle_93 : decode cX11_axle 93 = .ok (.iload_n 1, 1) := by decide +kernel
theorem dX11_axle_94 : decode cX11_axle 94 = .ok (.dup2, 1) := by decide +kernel
theorem dX11_axle_95 : decode cX11_axle 95 = .ok (.iaload, 1) := by decide +kernel
theorem dX11_axle_96 : decode cX11_axle 96 = .ok (.iconst 1, 1) := by decide +kernel
theorem dX11_axle_97 : decode cX11_axle 97 = .ok (.iadd, 1) := by decide +kernel
theorem dX11_axle_98 : decode cX11_axle 98 = .ok (.iastore, 1) := by decide +kernel
theorem dX11_axle_99 : decode cX11_axle 99 = .ok (.aload_n 0, 1) := by decide +kernel
theorem dX11_axle_100 : decode cX11_axle 100 = .ok (.getfield 44, 3) := by decide +kernel
theorem dX11_axle_103 : decode cX11_axle 103 = .ok (.iload_n 1, 1) := by decide +kernel
theorem dX11_axle_104 : decode cX11_axle 104 = .ok (.iaload, 1) := by decide +kernel
theorem dX11_axle_105 : decode cX11_axle 105 = .ok (.ireturn, 1) := by decide +kernel
theorem dX11_weightOf_0 : decode cX11_weightOf 0 = .ok (.aload_n 0, 1) := by decide +kernel
theorem dX11_weightOf_1 : decode cX11_weightOf 1 = .ok (.getfield 47, 3) := by decide +kernel
theorem dX11_weightOf_4 : decode cX11_weightOf 4 = .ok (.bipush 8, 2) := by decide +kernel
theorem dX11_weightOf_6 : decode cX11_weightOf 6 = .ok (.iload_n 1, 1) := by decide +kernel
theorem dX11_weightOf_7 : decode cX11_weightOf 7 = .ok (.imul, 1) := by decide +kernel
theorem dX11_weightOf_8 : decode cX11_weightOf 8 = .ok (.iload_n 2, 1) := by decide +kernel
theorem dX11_weightOf_9 : decode cX11_weightOf 9 = .ok (.iadd, 1) := by decide +kernel
theorem dX11_weightOf_10 : decode cX11_weightOf 10 = .ok (.iaload, 1) := by decide +kernel
theorem dX11_weightOf_11 : decode cX11_weightOf 11 = .ok (.istore_n 3, 1) := by decide +kernel
theorem dX11_weightOf_12 : decode cX11_weightOf 12 = .ok (.iload_n 1, 1) := by decide +kernel
theorem dX11_weightOf_13 : decode cX11_weightOf 13 = .ok (.aload_n 0, 1) := by decide +kernel
theorem dX11_weightOf_14 : decode cX11_weightOf 14 = .ok (.getfield 63, 3) := by decide +kernel
theorem dX11_weightOf_17 : decode cX11_weightOf 17 = .ok (.if_icmp .ne 15, 3) := by decide +kernel
theorem dX11_weightOf_20 : decode cX11_weightOf 20 = .ok (.iload_n 3, 1) := by decide +kernel
theorem dX11_weightOf_21 : decode cX11_weightOf 21 = .ok (.aload_n 0, 1) := by decide +kernel
theorem dX11_weightOf_22 : decode cX11_weightOf 22 = .ok (.getfield 60, 3) := by decide +kernel
theorem dX11_weightOf_25 : decode cX11_weightOf 25 = .ok (.imul, 1) := by decide +kernel
theorem dX11_weightOf_26 : decode cX11_weightOf 26 = .ok (.bipush 100, 2) := by decide +kernel
theorem dX11_weightOf_28 : decode cX11_weightOf 28 = .ok (.idiv, 1) := by decide +kernel
theorem dX11_weightOf_29 : decode cX11_weightOf 29 = .ok (.goto 4, 3) := by decide +kernel
theorem dX11_weightOf_32 : decode cX11_weightOf 32 = .ok (.iload_n 3, 1) := by decide +kernel
theorem dX11_weightOf_33 : decode cX11_weightOf 33 = .ok (.ireturn, 1) := by decide +kernel
theorem dX11_gapOf_0 : decode cX11_gapOf 0 = .ok (.iload_n 2, 1) := by decide +kernel
theorem dX11_gapOf_1 : decode cX11_gapOf 1 = .ok (.ifCond .ne 7, 3) := by decide +kernel
theorem dX11_gapOf_4 : decode cX11_gapOf 4 = .ok (.iconst 0, 1) := by decide +kernel
theorem dX11_gapOf_5 : decode cX11_gapOf 5 = .ok (.goto 31, 3) := by decide +kernel
theorem dX11_gapOf_8 : decode cX11_gapOf 8 = .ok (.aload_n 0, 1) := by decide +kernel
theorem dX11_gapOf_9 : decode cX11_gapOf 9 = .ok (.getfield 50, 3) := by decide +kernel
theorem dX11_gapOf_12 : decode cX11_gapOf 12 = .ok (.bipush 8, 2) := by decide +kernel
theorem dX11_gapOf_14 : decode cX11_gapOf 14 = .ok (.iload_n 1, 1) := by decide +kernel
theorem dX11_gapOf_15 : decode cX11_gapOf 15 = .ok (.imul, 1) := by decide +kernel
theorem dX11_gapOf_16 : decode cX11_gapOf 16 = .ok (.iload_n 2, 1) := by decide +kernel
theorem dX11_gapOf_17 : decode cX11_gapOf 17 = .ok (.iadd, 1) := by decide +kernel
theorem dX11_gapOf_18 : decode cX11_gapOf 18 = .ok (.iaload, 1) := by decide +kernel
theorem dX11_gapOf_19 : decode cX11_gapOf 19 = .ok (.iload_n 1, 1) := by decide +kernel
theorem dX11_gapOf_20 : decode cX11_gapOf 20 = .ok (.aload_n 0, 1) := by decide +kernel
theorem dX11_gapOf_21 : decode cX11_gapOf 21 = .ok (.getfield 63, 3) := by decide +kernel
theorem dX11_gapOf_24 : decode cX11_gapOf 24 = .ok (.if_icmp .ne 10, 3) := by decide +kernel
theorem dX11_gapOf_27 : decode cX11_gapOf 27 = .ok (.aload_n 0, 1) := by decide +kernel
theorem dX11_gapOf_28 : decode cX11_gapOf 28 = .ok (.getfield 195, 3) := by decide +kernel
theorem dX11_gapOf_31 : decode cX11_gapOf 31 = .ok (.goto 4, 3) := by decide +kernel
theorem dX11_gapOf_34 : decode cX11_gapOf 34 = .ok (.iconst 0, 1) := by decide +kernel
theorem dX11_gapOf_35 : decode cX11_gapOf 35 = .ok (.iadd, 1) := by decide +kernel
theorem dX11_gapOf_36 : decode cX11_gapOf 36 = .ok (.ireturn, 1) := by decide +kernel
theorem dX11_allGaps_0 : decode cX11_allGaps 0 = .ok (.iconst 0, 1) := by decide +kernel
theorem dX11_allGaps_1 : decode cX11_allGaps 1 = .ok (.istore_n 2, 1) := by decide +kernel
theorem dX11_allGaps_2 : decode cX11_allGaps 2 = .ok (.iconst 0, 1) := by decide +kernel
theorem dX11_allGaps_3 : decode cX11_allGaps 3 = .ok (.istore_n 3, 1) := by decide +kernel
theorem dX11_allGaps_4 : decode cX11_allGaps 4 = .ok (.iload_n 3, 1) := by decide +kernel
theorem dX11_allGaps_5 : decode cX11_allGaps 5 = .ok (.aload_n 0, 1) := by decide +kernel
theorem dX11_allGaps_6 : decode cX11_allGaps 6 = .ok (.getfield 44, 3) := by decide +kernel
theorem dX11_allGaps_9 : decode cX11_allGaps 9 = .ok (.iload_n 1, 1) := by decide +kernel
theorem dX11_allGaps_10 : decode cX11_allGaps 10 = .ok (.iaload, 1) := by decide +kernel
theorem dX11_allGaps_11 : decode cX11_allGaps 11 = .ok (.if_icmp .ge 18, 3) := by decide +kernel
theorem dX11_allGaps_14 : decode cX11_allGaps 14 = .ok (.iload_n 2, 1) := by decide +kernel
theorem dX11_allGaps_15 : decode cX11_allGaps 15 = .ok (.aload_n 0, 1) := by decide +kernel
theorem dX11_allGaps_16 : decode cX11_allGaps 16 = .ok (.iload_n 1, 1) := by decide +kernel
theorem dX11_allGaps_17 : decode cX11_allGaps 17 = .ok (.iload_n 3, 1) := by decide +kernel
theorem dX11_allGaps_18 : decode cX11_allGaps 18 = .ok (.invokevirtual 198, 3) := by decide +kernel
theorem dX11_allGaps_21 : decode cX11_allGaps 21 = .ok (.iadd, 1) := by decide +kernel
theorem dX11_allGaps_22 : decode cX11_allGaps 22 = .ok (.istore_n 2, 1) := by decide +kernel
theorem dX11_allGaps_23 : decode cX11_allGaps 23 = .ok (.iinc 3 1, 3) := by decide +kernel
theorem dX11_allGaps_26 : decode cX11_allGaps 26 = .ok (.goto (-22), 3) := by decide +kernel
theorem dX11_allGaps_29 : decode cX11_allGaps 29 = .ok (.iload_n 2, 1) := by decide +kernel
theorem dX11_allGaps_30 : decode cX11_allGaps 30 = .ok (.ireturn, 1) := by decide +kernel
theorem dX11_axles_0 : decode cX11_axles 0 = .ok (.aload_n 0, 1) := by decide +kernel
theorem dX11_axles_1 : decode cX11_axles 1 = .ok (.iload_n 1, 1) := by decide +kernel
theorem dX11_axles_2 : decode cX11_axles 2 = .ok (.invokevirtual 190, 3) := by decide +kernel
theorem dX11_axles_5 : decode cX11_axles 5 = .ok (.ifCond .eq 7, 3) := by decide +kernel
theorem dX11_axles_8 : decode cX11_axles 8 = .ok (.sipush (-1001), 3) := by decide +kernel
theorem dX11_axles_11 : decode cX11_axles 11 = .ok (.ireturn, 1) := by decide +kernel
theorem dX11_axles_12 : decode cX11_axles 12 = .ok (.iload_n 3, 1) := by decide +kernel
theorem dX11_axles_13 : decode cX11_axles 13 = .ok (.i2l, 1) := by decide +kernel
theorem dX11_axles_14 : decode cX11_axles 14 = .ok (.lconst 0, 1) := by decide +kernel
theorem dX11_axles_15 : decode cX11_axles 15 = .ok (.lconst 1, 1) := by decide +kernel
theorem dX11_axles_16 : decode cX11_axles 16 = .ok (.invokestatic 133, 3) := by decide +kernel
theorem dX11_axles_19 : decode cX11_axles 19 = .ok (.ifCond .ne 7, 3) := by decide +kernel
theorem dX11_axles_22 : decode cX11_axles 22 = .ok (.sipush (-1002), 3) := by decide +kernel
theorem dX11_axles_25 : decode cX11_axles 25 = .ok (.ireturn, 1) := by decide +kernel
theorem dX11_axles_26 : decode cX11_axles 26 = .ok (.iload_n 2, 1) := by decide +kernel
theorem dX11_axles_27 : decode cX11_axles 27 = .ok (.iconst (-1), 1) := by decide +kernel
theorem dX11_axles_28 : decode cX11_axles 28 = .ok (.if_icmp .ne 22, 3) := by decide +kernel
theorem dX11_axles_31 : decode cX11_axles 31 = .ok (.iload_n 3, 1) := by decide +kernel
theorem dX11_axles_32 : decode cX11_axles 32 = .ok (.ifCond .ne 12, 3) := by decide +kernel
theorem dX11_axles_35 : decode cX11_axles 35 = .ok (.aload_n 0, 1) := by decide +kernel
theorem dX11_axles_36 : decode cX11_axles 36 = .ok (.getfield 44, 3) := by decide +kernel
theorem dX11_axles_39 : decode cX11_axles 39 = .ok (.iload_n 1, 1) := by decide +kernel
theorem dX11_axles_40 : decode cX11_axles 40 = .ok (.iaload, 1) := by decide +kernel
theorem dX11_axles_41 : decode cX11_axles 41 = .ok (.goto 8, 3) := by decide +kernel
theorem dX11_axles_44 : decode cX11_axles 44 = .ok (.aload_n 0, 1) := by decide +kernel
theorem dX11_axles_45 : decode cX11_axles 45 = .ok (.iload_n 1, 1) := by decide +kernel
theorem dX11_axles_46 : decode cX11_axles 46 = .ok (.invokevirtual 202, 3) := by decide +kernel
theorem dX11_axles_49 : decode cX11_axles 49 = .ok (.ireturn, 1) := by decide +kernel
theorem dX11_axles_50 : decode cX11_axles 50 = .ok (.iload_n 2, 1) := by decide +kernel
theorem dX11_axles_51 : decode cX11_axles 51 = .ok (.i2l, 1) := by decide +kernel
theorem dX11_axles_52 : decode cX11_axles 52 = .ok (.lconst 0, 1) := by decide +kernel
theorem dX11_axles_53 : decode cX11_axles 53 = .ok (.aload_n 0, 1) := by decide +kernel
theorem dX11_axles_54 : decode cX11_axles 54 = .ok (.getfield 44, 3) := by decide +kernel
theorem dX11_axles_57 : decode cX11_axles 57 = .ok (.iload_n 1, 1) := by decide +kernel
theorem dX11_axles_58 : decode cX11_axles 58 = .ok (.iaload, 1) := by decide +kernel
theorem dX11_axles_59 : decode cX11_axles 59 = .ok (.iconst 1, 1) := by decide +kernel
theorem dX11_axles_60 : decode cX11_axles 60 = .ok (.isub, 1) := by decide +kernel
theorem dX11_axles_61 : decode cX11_axles 61 = .ok (.i2l, 1) := by decide +kernel
theorem dX11_axles_62 : decode cX11_axles 62 = .ok (.invokestatic 133, 3) := by decide +kernel
theorem dX11_axles_65 : decode cX11_axles 65 = .ok (.ifCond .ne 5, 3) := by decide +kernel
theorem dX11_axles_68 : decode cX11_axles 68 = .ok (.iconst (-1), 1) := by decide +kernel
theorem dX11_axles_69 : decode cX11_axles 69 = .ok (.ireturn, 1) := by decide +kernel
theorem dX11_axles_70 : decode cX11_axles 70 = .ok (.iload_n 3, 1) := by decide +kernel
theorem dX11_axles_71 : decode cX11_axles 71 = .ok (.ifCond .ne 17, 3) := by decide +kernel
theorem dX11_axles_74 : decode cX11_axles 74 = .ok (.aload_n 0, 1) := by decide +kernel
theorem dX11_axles_75 : decode cX11_axles 75 = .ok (.getfield 47, 3) := by decide +kernel
theorem dX11_axles_78 : decode cX11_axles 78 = .ok (.bipush 8, 2) := by decide +kernel
theorem dX11_axles_80 : decode cX11_axles 80 = .ok (.iload_n 1, 1) := by decide +kernel
theorem dX11_axles_81 : decode cX11_axles 81 = .ok (.imul, 1) := by decide +kernel
theorem dX11_axles_82 : decode cX11_axles 82 = .ok (.iload_n 2, 1) := by decide +kernel
theorem dX11_axles_83 : decode cX11_axles 83 = .ok (.iadd, 1) := by decide +kernel
theorem dX11_axles_84 : decode cX11_axles 84 = .ok (.iaload, 1) := by decide +kernel
theorem dX11_axles_85 : decode cX11_axles 85 = .ok (.goto 14, 3) := by decide +kernel
theorem dX11_axles_88 : decode cX11_axles 88 = .ok (.aload_n 0, 1) := by decide +kernel
theorem dX11_axles_89 : decode cX11_axles 89 = .ok (.getfield 50, 3) := by decide +kernel
theorem dX11_axles_92 : decode cX11_axles 92 = .ok (.bipush 8, 2) := by decide +kernel
theorem dX11_axles_94 : decode cX11_axles 94 = .ok (.iload_n 1, 1) := by decide +kernel
theorem dX11_axles_95 : decode cX11_axles 95 = .ok (.imul, 1) := by decide +kernel
theorem dX11_axles_96 : decode cX11_axles 96 = .ok (.iload_n 2, 1) := by decide +kernel
theorem dX11_axles_97 : decode cX11_axles 97 = .ok (.iadd, 1) := by decide +kernel
theorem dX11_axles_98 : decode cX11_axles 98 = .ok (.iaload, 1) := by decide +kernel
theorem dX11_axles_99 : decode cX11_axles 99 = .ok (.ireturn, 1) := by decide +kernel
theorem dX11_effectAt_0 : decode cX11_effectAt 0 = .ok (.lconst 0, 1) := by decide +kernel
theorem dX11_effectAt_1 : decode cX11_effectAt 1 = .ok (.lstore 7, 2) := by decide +kernel
theorem dX11_effectAt_3 : decode cX11_effectAt 3 = .ok (.iload 6, 2) := by decide +kernel
theorem dX11_effectAt_5 : decode cX11_effectAt 5 = .ok (.istore 9, 2) := by decide +kernel
theorem dX11_effectAt_7 : decode cX11_effectAt 7 = .ok (.iconst 0, 1) := by decide +kernel
theorem dX11_effectAt_8 : decode cX11_effectAt 8 = .ok (.istore 10, 2) := by decide +kernel
theorem dX11_effectAt_10 : decode cX11_effectAt 10 = .ok (.iload 10, 2) := by decide +kernel
theorem dX11_effectAt_12 : decode cX11_effectAt 12 = .ok (.aload_n 0, 1) := by decide +kernel
theorem dX11_effectAt_13 : decode cX11_effectAt 13 = .ok (.getfield 44, 3) := by decide +kernel
theorem dX11_effectAt_16 : decode cX11_effectAt 16 = .ok (.iload 4, 2) := by decide +kernel
theorem dX11_effectAt_18 : decode cX11_effectAt 18 = .ok (.iaload, 1) := by decide +kernel
theorem dX11_effectAt_19 : decode cX11_effectAt 19 = .ok (.if_icmp .ge 113, 3) := by decide +kernel
theorem dX11_effectAt_22 : decode cX11_effectAt 22 = .ok (.iload 5, 2) := by decide +kernel
theorem dX11_effectAt_24 : decode cX11_effectAt 24 = .ok (.ifCond .ne 8, 3) := by decide +kernel
theorem dX11_effectAt_27 : decode cX11_effectAt 27 = .ok (.iload 10, 2) := by decide +kernel
theorem dX11_effectAt_29 : decode cX11_effectAt 29 = .ok (.goto 15, 3) := by decide +kernel
theorem dX11_effectAt_32 : decode cX11_effectAt 32 = .ok (.aload_n 0, 1) := by decide +kernel
theorem dX11_effectAt_33 : decode cX11_effectAt 33 = .ok (.getfield 44, 3) := by decide +kernel
theorem dX11_effectAt_36 : decode cX11_effectAt 36 = .ok (.iload 4, 2) := by decide +kernel
theorem dX11_effectAt_38 : decode cX11_effectAt 38 = .ok (.iaload, 1) := by decide +kernel
theorem dX11_effectAt_39 : decode cX11_effectAt 39 = .ok (.iconst 1, 1) := by decide +kernel
theorem dX11_effectAt_40 : decode cX11_effectAt 40 = .ok (.isub, 1) := by decide +kernel
theorem dX11_effectAt_41 : decode cX11_effectAt 41 = .ok (.iload 10, 2) := by decide +kernel
theorem dX11_effectAt_43 : decode cX11_effectAt 43 = .ok (.isub, 1) := by decide +kernel
theorem dX11_effectAt_44 : decode cX11_effectAt 44 = .ok (.istore 11, 2) := by decide +kernel
theorem dX11_effectAt_46 : decode cX11_effectAt 46 = .ok (.iload 9, 2) := by decide +kernel
theorem dX11_effectAt_48 : decode cX11_effectAt 48 = .ok (.i2l, 1) := by decide +kernel
theorem dX11_effectAt_49 : decode cX11_effectAt 49 = .ok (.lconst 0, 1) := by decide +kernel
theorem dX11_effectAt_50 : decode cX11_effectAt 50 = .ok (.aload_n 0, 1) := by decide +kernel
theorem dX11_effectAt_51 : decode cX11_effectAt 51 = .ok (.getfield 7, 3) := by decide +kernel
theorem dX11_effectAt_54 : decode cX11_effectAt 54 = .ok (.iload_n 1, 1) := by decide +kernel
theorem dX11_effectAt_55 : decode cX11_effectAt 55 = .ok (.iaload, 1) := by decide +kernel
theorem dX11_effectAt_56 : decode cX11_effectAt 56 = .ok (.i2l, 1) := by decide +kernel
theorem dX11_effectAt_57 : decode cX11_effectAt 57 = .ok (.invokestatic 133, 3) := by decide +kernel
theorem dX11_effectAt_60 : decode cX11_effectAt 60 = .ok (.ifCond .eq 27, 3) := by decide +kernel
theorem dX11_effectAt_63 : decode cX11_effectAt 63 = .ok (.lload 7, 2) := by decide +kernel
theorem dX11_effectAt_65 : decode cX11_effectAt 65 = .ok (.aload_n 0, 1) := by decide +kernel
theorem dX11_effectAt_66 : decode cX11_effectAt 66 = .ok (.iload 4, 2) := by decide +kernel
theorem dX11_effectAt_68 : decode cX11_effectAt 68 = .ok (.iload 11, 2) := by decide +kernel
theorem dX11_effectAt_70 : decode cX11_effectAt 70 = .ok (.invokevirtual 206, 3) := by decide +kernel
theorem dX11_effectAt_73 : decode cX11_effectAt 73 = .ok (.i2l, 1) := by decide +kernel
theorem dX11_effectAt_74 : decode cX11_effectAt 74 = .ok (.aload_n 0, 1) := by decide +kernel
theorem dX11_effectAt_75 : decode cX11_effectAt 75 = .ok (.iload_n 1, 1) := by decide +kernel
theorem dX11_effectAt_76 : decode cX11_effectAt 76 = .ok (.iload_n 2, 1) := by decide +kernel
theorem dX11_effectAt_77 : decode cX11_effectAt 77 = .ok (.iload_n 3, 1) := by decide +kernel
theorem dX11_effectAt_78 : decode cX11_effectAt 78 = .ok (.iload 9, 2) := by decide +kernel
theorem dX11_effectAt_80 : decode cX11_effectAt 80 = .ok (.invokevirtual 173, 3) := by decide +kernel
theorem dX11_effectAt_83 : decode cX11_effectAt 83 = .ok (.lmul, 1) := by decide +kernel
theorem dX11_effectAt_84 : decode cX11_effectAt 84 = .ok (.ladd, 1) := by decide +kernel
theorem dX11_effectAt_85 : decode cX11_effectAt 85 = .ok (.lstore 7, 2) := by decide +kernel
theorem dX11_effectAt_87 : decode cX11_effectAt 87 = .ok (.iload 10, 2) := by decide +kernel
theorem dX11_effectAt_89 : decode cX11_effectAt 89 = .ok (.iconst 1, 1) := by decide +kernel
theorem dX11_effectAt_90 : decode cX11_effectAt 90 = .ok (.iadd, 1) := by decide +kernel
theorem dX11_effectAt_91 : decode cX11_effectAt 91 = .ok (.aload_n 0, 1) := by decide +kernel
theorem dX11_effectAt_92 : decode cX11_effectAt 92 = .ok (.getfield 44, 3) := by decide +kernel
theorem dX11_effectAt_95 : decode cX11_effectAt 95 = .ok (.iload 4, 2) := by decide +kernel
theorem dX11_effectAt_97 : decode cX11_effectAt 97 = .ok (.iaload, 1) := by decide +kernel
theorem dX11_effectAt_98 : decode cX11_effectAt 98 = .ok (.if_icmp .ge 28, 3) := by decide +kernel
theorem dX11_effectAt_101 : decode cX11_effectAt 101 = .ok (.iload 9, 2) := by decide +kernel
theorem dX11_effectAt_103 : decode cX11_effectAt 103 = .ok (.aload_n 0, 1) := by decide +kernel
theorem dX11_effectAt_104 : decode cX11_effectAt 104 = .ok (.iload 4, 2) := by decide +kernel
theorem dX11_effectAt_106 : decode cX11_effectAt 106 = .ok (.iload 5, 2) := by decide +kernel
theorem dX11_effectAt_108 : decode cX11_effectAt 108 = .ok (.ifCond .ne 10, 3) := by decide +kernel
theorem dX11_effectAt_111 : decode cX11_effectAt 111 = .ok (.iload 11, 2) := by decide +kernel
theorem dX11_effectAt_113 : decode cX11_effectAt 113 = .ok (.iconst 1, 1) := by decide +kernel
theorem dX11_effectAt_114 : decode cX11_effectAt 114 = .ok (.iadd, 1) := by decide +kernel
theorem dX11_effectAt_115 : decode cX11_effectAt 115 = .ok (.goto 5, 3) := by decide +kernel
theorem dX11_effectAt_118 : decode cX11_effectAt 118 = .ok (.iload 11, 2) := by decide +kernel
theorem dX11_effectAt_120 : decode cX11_effectAt 120 = .ok (.invokevirtual 198, 3) := by decide +kernel
theorem dX11_effectAt_123 : decode cX11_effectAt 123 = .ok (.isub, 1) := by decide +kernel
theorem dX11_effectAt_124 : decode cX11_effectAt 124 = .ok (.istore 9, 2) := by decide +kernel
theorem dX11_effectAt_126 : decode cX11_effectAt 126 = .ok (.iinc 10 1, 3) := by decide +kernel
theorem dX11_effectAt_129 : decode cX11_effectAt 129 = .ok (.goto (-119), 3) := by decide +kernel
theorem dX11_effectAt_132 : decode cX11_effectAt 132 = .ok (.lload 7, 2) := by decide +kernel
theorem dX11_effectAt_134 : decode cX11_effectAt 134 = .ok (.lreturn, 1) := by decide +kernel
theorem dX11_effect_0 : decode cX11_effect 0 = .ok (.aload_n 0, 1) := by decide +kernel
theorem dX11_effect_1 : decode cX11_effect 1 = .ok (.iload_n 1, 1) := by decide +kernel
theorem dX11_effect_2 : decode cX11_effect 2 = .ok (.invokevirtual 158, 3) := by decide +kernel
theorem dX11_effect_5 : decode cX11_effect 5 = .ok (.ifCond .ne 22, 3) := by decide +kernel
theorem dX11_effect_8 : decode cX11_effect 8 = .ok (.aload_n 0, 1) := by decide +kernel
theorem dX11_effect_9 : decode cX11_effect 9 = .ok (.iload_n 1, 1) := by decide +kernel
theorem dX11_effect_10 : decode cX11_effect 10 = .ok (.iload_n 2, 1) := by decide +kernel
theorem dX11_effect_11 : decode cX11_effect 11 = .ok (.iload_n 3, 1) := by decide +kernel
theorem dX11_effect_12 : decode cX11_effect 12 = .ok (.invokevirtual 162, 3) := by decide +kernel
theorem dX11_effect_15 : decode cX11_effect 15 = .ok (.ifCond .ne 12, 3) := by decide +kernel
theorem dX11_effect_18 : decode cX11_effect 18 = .ok (.aload_n 0, 1) := by decide +kernel
theorem dX11_effect_19 : decode cX11_effect 19 = .ok (.iload 4, 2) := by decide +kernel
theorem dX11_effect_21 : decode cX11_effect 21 = .ok (.invokevirtual 190, 3) := by decide +kernel
theorem dX11_effect_24 : decode cX11_effect 24 = .ok (.ifCond .eq 7, 3) := by decide +kernel
theorem dX11_effect_27 : decode cX11_effect 27 = .ok (.ldc2_w 166, 3) := by decide +kernel
theorem dX11_effect_30 : decode cX11_effect 30 = .ok (.lreturn, 1) := by decide +kernel
theorem dX11_effect_31 : decode cX11_effect 31 = .ok (.aload_n 0, 1) := by decide +kernel
theorem dX11_effect_32 : decode cX11_effect 32 = .ok (.iload_n 1, 1) := by decide +kernel
theorem dX11_effect_33 : decode cX11_effect 33 = .ok (.iload_n 2, 1) := by decide +kernel
theorem dX11_effect_34 : decode cX11_effect 34 = .ok (.iload_n 3, 1) := by decide +kernel
theorem dX11_effect_35 : decode cX11_effect 35 = .ok (.invokevirtual 168, 3) := by decide +kernel
theorem dX11_effect_38 : decode cX11_effect 38 = .ok (.ifCond .eq 49, 3) := by decide +kernel
theorem dX11_effect_41 : decode cX11_effect 41 = .ok (.iload 5, 2) := by decide +kernel
theorem dX11_effect_43 : decode cX11_effect 43 = .ok (.i2l, 1) := by decide +kernel
theorem dX11_effect_44 : decode cX11_effect 44 = .ok (.lconst 0, 1) := by decide +kernel
theorem dX11_effect_45 : decode cX11_effect 45 = .ok (.lconst 1, 1) := by decide +kernel
theorem dX11_effect_46 : decode cX11_effect 46 = .ok (.invokestatic 133, 3) := by decide +kernel
theorem dX11_effect_49 : decode cX11_effect 49 = .ok (.ifCond .eq 38, 3) := by decide +kernel
theorem dX11_effect_52 : decode cX11_effect 52 = .ok (.iload 6, 2) := by decide +kernel
theorem dX11_effect_54 : decode cX11_effect 54 = .ok (.i2l, 1) := by decide +kernel
theorem dX11_effect_55 : decode cX11_effect 55 = .ok (.lconst 0, 1) := by decide +kernel
theorem dX11_effect_56 : decode cX11_effect 56 = .ok (.aload_n 0, 1) := by decide +kernel
theorem dX11_effect_57 : decode cX11_effect 57 = .ok (.getfield 7, 3) := by decide +kernel
theorem dX11_effect_60 : decode cX11_effect 60 = .ok (.iload_n 1, 1) := by decide +kernel
theorem dX11_effect_61 : decode cX11_effect 61 = .ok (.iaload, 1) := by decide +kernel
theorem dX11_effect_62 : decode cX11_effect 62 = .ok (.aload_n 0, 1) := by decide +kernel
theorem dX11_effect_63 : decode cX11_effect 63 = .ok (.iload 4, 2) := by decide +kernel
theorem dX11_effect_65 : decode cX11_effect 65 = .ok (.invokevirtual 202, 3) := by decide +kernel
theorem dX11_effect_68 : decode cX11_effect 68 = .ok (.iadd, 1) := by decide +kernel
theorem dX11_effect_69 : decode cX11_effect 69 = .ok (.i2l, 1) := by decide +kernel
theorem dX11_effect_70 : decode cX11_effect 70 = .ok (.invokestatic 133, 3) := by decide +kernel
theorem dX11_effect_73 : decode cX11_effect 73 = .ok (.ifCond .eq 14, 3) := by decide +kernel
theorem dX11_effect_76 : decode cX11_effect 76 = .ok (.iload 7, 2) := by decide +kernel
theorem dX11_effect_78 : decode cX11_effect 78 = .ok (.i2l, 1) := by decide +kernel
theorem dX11_effect_79 : decode cX11_effect 79 = .ok (.lconst 0, 1) := by decide +kernel
theorem dX11_effect_80 : decode cX11_effect 80 = .ok (.lconst 1, 1) := by decide +kernel
theorem dX11_effect_81 : decode cX11_effect 81 = .ok (.invokestatic 133, 3) := by decide +kernel
theorem dX11_effect_84 : decode cX11_effect 84 = .ok (.ifCond .ne 7, 3) := by decide +kernel
theorem dX11_effect_87 : decode cX11_effect 87 = .ok (.ldc2_w 171, 3) := by decide +kernel
theorem dX11_effect_90 : decode cX11_effect 90 = .ok (.lreturn, 1) := by decide +kernel
theorem dX11_effect_91 : decode cX11_effect 91 = .ok (.aload_n 0, 1) := by decide +kernel
theorem dX11_effect_92 : decode cX11_effect 92 = .ok (.iload_n 1, 1) := by decide +kernel
theorem dX11_effect_93 : decode cX11_effect 93 = .ok (.iload_n 2, 1) := by decide +kernel
theorem dX11_effect_94 : decode cX11_effect 94 = .ok (.iload_n 3, 1) := by decide +kernel
theorem dX11_effect_95 : decode cX11_effect 95 = .ok (.iload 4, 2) := by decide +kernel
theorem dX11_effect_97 : decode cX11_effect 97 = .ok (.iload 5, 2) := by decide +kernel
theorem dX11_effect_99 : decode cX11_effect 99 = .ok (.iload 6, 2) := by decide +kernel
theorem dX11_effect_101 : decode cX11_effect 101 = .ok (.invokevirtual 209, 3) := by decide +kernel
theorem dX11_effect_104 : decode cX11_effect 104 = .ok (.aload_n 0, 1) := by decide +kernel
theorem dX11_effect_105 : decode cX11_effect 105 = .ok (.getfield 35, 3) := by decide +kernel
theorem dX11_effect_108 : decode cX11_effect 108 = .ok (.iload_n 1, 1) := by decide +kernel
theorem dX11_effect_109 : decode cX11_effect 109 = .ok (.laload, 1) := by decide +kernel
theorem dX11_effect_110 : decode cX11_effect 110 = .ok (.iload 7, 2) := by decide +kernel
theorem dX11_effect_112 : decode cX11_effect 112 = .ok (.invokestatic 177, 3) := by decide +kernel
theorem dX11_effect_115 : decode cX11_effect 115 = .ok (.lreturn, 1) := by decide +kernel
theorem dX11_extreme_0 : decode cX11_extreme 0 = .ok (.lconst 0, 1) := by decide +kernel
theorem dX11_extreme_1 : decode cX11_extreme 1 = .ok (.lstore 6, 2) := by decide +kernel
theorem dX11_extreme_3 : decode cX11_extreme 3 = .ok (.aload_n 0, 1) := by decide +kernel
theorem dX11_extreme_4 : decode cX11_extreme 4 = .ok (.iconst (-1), 1) := by decide +kernel
theorem dX11_extreme_5 : decode cX11_extreme 5 = .ok (.putfield 213, 3) := by decide +kernel
theorem dX11_extreme_8 : decode cX11_extreme 8 = .ok (.aload_n 0, 1) := by decide +kernel
theorem dX11_extreme_9 : decode cX11_extreme 9 = .ok (.iconst (-1), 1) := by decide +kernel
theorem dX11_extreme_10 : decode cX11_extreme 10 = .ok (.putfield 216, 3) := by decide +kernel
theorem dX11_extreme_13 : decode cX11_extreme 13 = .ok (.iconst 0, 1) := by decide +kernel
theorem dX11_extreme_14 : decode cX11_extreme 14 = .ok (.istore 8, 2) := by decide +kernel
theorem dX11_extreme_16 : decode cX11_extreme 16 = .ok (.iload 8, 2) := by decide +kernel
theorem dX11_extreme_18 : decode cX11_extreme 18 = .ok (.iconst 2, 1) := by decide +kernel
theorem dX11_extreme_19 : decode cX11_extreme 19 = .ok (.if_icmp .ge 105, 3) := by decide +kernel
theorem dX11_extreme_22 : decode cX11_extreme 22 = .ok (.iconst 0, 1) := by decide +kernel
theorem dX11_extreme_23 : decode cX11_extreme 23 = .ok (.istore 9, 2) := by decide +kernel
theorem dX11_extreme_25 : decode cX11_extreme 25 = .ok (.iload 9, 2) := by decide +kernel
theorem dX11_extreme_27 : decode cX11_extreme 27 = .ok (.aload_n 0, 1) := by decide +kernel
theorem dX11_extreme_28 : decode cX11_extreme 28 = .ok (.getfield 7, 3) := by decide +kernel
theorem dX11_extreme_31 : decode cX11_extreme 31 = .ok (.iload_n 1, 1) := by decide +kernel
theorem dX11_extreme_32 : decode cX11_extreme 32 = .ok (.iaload, 1) := by decide +kernel
theorem dX11_extreme_33 : decode cX11_extreme 33 = .ok (.aload_n 0, 1) := by decide +kernel
theorem dX11_extreme_34 : decode cX11_extreme 34 = .ok (.iload 4, 2) := by decide +kernel
theorem dX11_extreme_36 : decode cX11_extreme 36 = .ok (.invokevirtual 202, 3) := by decide +kernel
theorem dX11_extreme_39 : decode cX11_extreme 39 = .ok (.iadd, 1) := by decide +kernel
theorem dX11_extreme_40 : decode cX11_extreme 40 = .ok (.if_icmp .gt 78, 3) := by decide +kernel
theorem dX11_extreme_43 : decode cX11_extreme 43 = .ok (.aload_n 0, 1) := by decide +kernel
theorem dX11_extreme_44 : decode cX11_extreme 44 = .ok (.iload_n 1, 1) := by decide +kernel
theorem dX11_extreme_45 : decode cX11_extreme 45 = .ok (.iload_n 2, 1) := by decide +kernel
theorem dX11_extreme_46 : decode cX11_extreme 46 = .ok (.iload_n 3, 1) := by decide +kernel
theorem dX11_extreme_47 : decode cX11_extreme 47 = .ok (.iload 4, 2) := by decide +kernel
theorem dX11_extreme_49 : decode cX11_extreme 49 = .ok (.iload 8, 2) := by decide +kernel
theorem dX11_extreme_51 : decode cX11_extreme 51 = .ok (.iload 9, 2) := by decide +kernel
theorem dX11_extreme_53 : decode cX11_extreme 53 = .ok (.invokevirtual 209, 3) := by decide +kernel
theorem dX11_extreme_56 : decode cX11_extreme 56 = .ok (.lstore 10, 2) := by decide +kernel
theorem dX11_extreme_58 : decode cX11_extreme 58 = .ok (.iload 5, 2) := by decide +kernel
theorem dX11_extreme_60 : decode cX11_extreme 60 = .ok (.ifCond .ne 8, 3) := by decide +kernel
theorem dX11_extreme_63 : decode cX11_extreme 63 = .ok (.lload 10, 2) := by decide +kernel
theorem dX11_extreme_65 : decode cX11_extreme 65 = .ok (.goto 7, 3) := by decide +kernel
theorem dX11_extreme_68 : decode cX11_extreme 68 = .ok (.lconst 0, 1) := by decide +kernel
theorem dX11_extreme_69 : decode cX11_extreme 69 = .ok (.lload 10, 2) := by decide +kernel
theorem dX11_extreme_71 : decode cX11_extreme 71 = .ok (.lsub, 1) := by decide +kernel
theorem dX11_extreme_72 : decode cX11_extreme 72 = .ok (.lstore 12, 2) := by decide +kernel
theorem dX11_extreme_74 : decode cX11_extreme 74 = .ok (.lload 12, 2) := by decide +kernel
theorem dX11_extreme_76 : decode cX11_extreme 76 = .ok (.lconst 0, 1) := by decide +kernel
theorem dX11_extreme_77 : decode cX11_extreme 77 = .ok (.lcmp, 1) := by decide +kernel
theorem dX11_extreme_78 : decode cX11_extreme 78 = .ok (.ifCond .lt 34, 3) := by decide +kernel
theorem dX11_extreme_81 : decode cX11_extreme 81 = .ok (.aload_n 0, 1) := by decide +kernel
theorem dX11_extreme_82 : decode cX11_extreme 82 = .ok (.getfield 213, 3) := by decide +kernel
theorem dX11_extreme_85 : decode cX11_extreme 85 = .ok (.ifCond .lt 11, 3) := by decide +kernel
theorem dX11_extreme_88 : decode cX11_extreme 88 = .ok (.lload 12, 2) := by decide +kernel
theorem dX11_extreme_90 : decode cX11_extreme 90 = .ok (.lload 6, 2) := by decide +kernel
theorem dX11_extreme_92 : decode cX11_extreme 92 = .ok (.lcmp, 1) := by decide +kernel
theorem dX11_extreme_93 : decode cX11_extreme 93 = .ok (.ifCond .le 19, 3) := by decide +kernel
theorem dX11_extreme_96 : decode cX11_extreme 96 = .ok (.lload 12, 2) := by decide +kernel
theorem dX11_extreme_98 : decode cX11_extreme 98 = .ok (.lstore 6, 2) := by decide +kernel
theorem dX11_extreme_100 : decode cX11_extreme 100 = .ok (.aload_n 0, 1) := by decide +kernel
theorem dX11_extreme_101 : decode cX11_extreme 101 = .ok (.iload 8, 2) := by decide +kernel
theorem dX11_extreme_103 : decode cX11_extreme 103 = .ok (.putfield 213, 3) := by decide +kernel
theorem dX11_extreme_106 : decode cX11_extreme 106 = .ok (.aload_n 0, 1) := by decide +kernel
theorem dX11_extreme_107 : decode cX11_extreme 107 = .ok (.iload 9, 2) := by decide +kernel
theorem dX11_extreme_109 : decode cX11_extreme 109 = .ok (.putfield 216, 3) := by decide +kernel
theorem dX11_extreme_112 : decode cX11_extreme 112 = .ok (.iinc 9 1, 3) := by decide +kernel
theorem dX11_extreme_115 : decode cX11_extreme 115 = .ok (.goto (-90), 3) := by decide +kernel
theorem dX11_extreme_118 : decode cX11_extreme 118 = .ok (.iinc 8 1, 3) := by decide +kernel
theorem dX11_extreme_121 : decode cX11_extreme 121 = .ok (.goto (-105), 3) := by decide +kernel
theorem dX11_extreme_124 : decode cX11_extreme 124 = .ok (.iload 5, 2) := by decide +kernel
theorem dX11_extreme_126 : decode cX11_extreme 126 = .ok (.ifCond .ne 8, 3) := by decide +kernel
theorem dX11_extreme_129 : decode cX11_extreme 129 = .ok (.lload 6, 2) := by decide +kernel
theorem dX11_extreme_131 : decode cX11_extreme 131 = .ok (.goto 7, 3) := by decide +kernel
theorem dX11_extreme_134 : decode cX11_extreme 134 = .ok (.lconst 0, 1) := by decide +kernel
theorem dX11_extreme_135 : decode cX11_extreme 135 = .ok (.lload 6, 2) := by decide +kernel
theorem dX11_extreme_137 : decode cX11_extreme 137 = .ok (.lsub, 1) := by decide +kernel
theorem dX11_extreme_138 : decode cX11_extreme 138 = .ok (.lreturn, 1) := by decide +kernel
theorem dX11_worst_0 : decode cX11_worst 0 = .ok (.aload_n 0, 1) := by decide +kernel
theorem dX11_worst_1 : decode cX11_worst 1 = .ok (.iload_n 1, 1) := by decide +kernel
theorem dX11_worst_2 : decode cX11_worst 2 = .ok (.invokevirtual 158, 3) := by decide +kernel
theorem dX11_worst_5 : decode cX11_worst 5 = .ok (.ifCond .ne 22, 3) := by decide +kernel
theorem dX11_worst_8 : decode cX11_worst 8 = .ok (.aload_n 0, 1) := by decide +kernel
theorem dX11_worst_9 : decode cX11_worst 9 = .ok (.iload_n 1, 1) := by decide +kernel
theorem dX11_worst_10 : decode cX11_worst 10 = .ok (.iload_n 2, 1) := by decide +kernel
theorem dX11_worst_11 : decode cX11_worst 11 = .ok (.iload_n 3, 1) := by decide +kernel
theorem dX11_worst_12 : decode cX11_worst 12 = .ok (.invokevirtual 162, 3) := by decide +kernel
theorem dX11_worst_15 : decode cX11_worst 15 = .ok (.ifCond .ne 12, 3) := by decide +kernel
theorem dX11_worst_18 : decode cX11_worst 18 = .ok (.aload_n 0, 1) := by decide +kernel
theorem dX11_worst_19 : decode cX11_worst 19 = .ok (.iload 4, 2) := by decide +kernel
theorem dX11_worst_21 : decode cX11_worst 21 = .ok (.invokevirtual 190, 3) := by decide +kernel
theorem dX11_worst_24 : decode cX11_worst 24 = .ok (.ifCond .eq 7, 3) := by decide +kernel
theorem dX11_worst_27 : decode cX11_worst 27 = .ok (.ldc2_w 166, 3) := by decide +kernel
theorem dX11_worst_30 : decode cX11_worst 30 = .ok (.lreturn, 1) := by decide +kernel
theorem dX11_worst_31 : decode cX11_worst 31 = .ok (.aload_n 0, 1) := by decide +kernel
theorem dX11_worst_32 : decode cX11_worst 32 = .ok (.iload_n 1, 1) := by decide +kernel
theorem dX11_worst_33 : decode cX11_worst 33 = .ok (.iload_n 2, 1) := by decide +kernel
theorem dX11_worst_34 : decode cX11_worst 34 = .ok (.iload_n 3, 1) := by decide +kernel
theorem dX11_worst_35 : decode cX11_worst 35 = .ok (.invokevirtual 168, 3) := by decide +kernel
theorem dX11_worst_38 : decode cX11_worst 38 = .ok (.ifCond .eq 27, 3) := by decide +kernel
theorem dX11_worst_41 : decode cX11_worst 41 = .ok (.iload 5, 2) := by decide +kernel
theorem dX11_worst_43 : decode cX11_worst 43 = .ok (.i2l, 1) := by decide +kernel
theorem dX11_worst_44 : decode cX11_worst 44 = .ok (.lconst 0, 1) := by decide +kernel
theorem dX11_worst_45 : decode cX11_worst 45 = .ok (.lconst 1, 1) := by decide +kernel
theorem dX11_worst_46 : decode cX11_worst 46 = .ok (.invokestatic 133, 3) := by decide +kernel
theorem dX11_worst_49 : decode cX11_worst 49 = .ok (.ifCond .eq 16, 3) := by decide +kernel
theorem dX11_worst_52 : decode cX11_worst 52 = .ok (.iload 6, 2) := by decide +kernel
theorem dX11_worst_54 : decode cX11_worst 54 = .ok (.i2l, 1) := by decide +kernel
theorem dX11_worst_55 : decode cX11_worst 55 = .ok (.lconst 0, 1) := by decide +kernel
theorem dX11_worst_56 : decode cX11_worst 56 = .ok (.ldc2_w 219, 3) := by decide +kernel
theorem dX11_worst_59 : decode cX11_worst 59 = .ok (.invokestatic 133, 3) := by decide +kernel
theorem dX11_worst_62 : decode cX11_worst 62 = .ok (.ifCond .ne 7, 3) := by decide +kernel
theorem dX11_worst_65 : decode cX11_worst 65 = .ok (.ldc2_w 171, 3) := by decide +kernel
theorem dX11_worst_68 : decode cX11_worst 68 = .ok (.lreturn, 1) := by decide +kernel
theorem dX11_worst_69 : decode cX11_worst 69 = .ok (.aload_n 0, 1) := by decide +kernel
theorem dX11_worst_70 : decode cX11_worst 70 = .ok (.iload_n 1, 1) := by decide +kernel
theorem dX11_worst_71 : decode cX11_worst 71 = .ok (.iload_n 2, 1) := by decide +kernel
theorem dX11_worst_72 : decode cX11_worst 72 = .ok (.iload_n 3, 1) := by decide +kernel
theorem dX11_worst_73 : decode cX11_worst 73 = .ok (.iload 4, 2) := by decide +kernel
theorem dX11_worst_75 : decode cX11_worst 75 = .ok (.iload 5, 2) := by decide +kernel
theorem dX11_worst_77 : decode cX11_worst 77 = .ok (.invokevirtual 221, 3) := by decide +kernel
theorem dX11_worst_80 : decode cX11_worst 80 = .ok (.lstore 7, 2) := by decide +kernel
theorem dX11_worst_82 : decode cX11_worst 82 = .ok (.iload 6, 2) := by decide +kernel
theorem dX11_worst_84 : decode cX11_worst 84 = .ok (.iconst 2, 1) := by decide +kernel
theorem dX11_worst_85 : decode cX11_worst 85 = .ok (.if_icmp .ge 19, 3) := by decide +kernel
theorem dX11_worst_88 : decode cX11_worst 88 = .ok (.lload 7, 2) := by decide +kernel
theorem dX11_worst_90 : decode cX11_worst 90 = .ok (.aload_n 0, 1) := by decide +kernel
theorem dX11_worst_91 : decode cX11_worst 91 = .ok (.getfield 35, 3) := by decide +kernel
theorem dX11_worst_94 : decode cX11_worst 94 = .ok (.iload_n 1, 1) := by decide +kernel
theorem dX11_worst_95 : decode cX11_worst 95 = .ok (.laload, 1) := by decide +kernel
theorem dX11_worst_96 : decode cX11_worst 96 = .ok (.iload 6, 2) := by decide +kernel
theorem dX11_worst_98 : decode cX11_worst 98 = .ok (.invokestatic 177, 3) := by decide +kernel
theorem dX11_worst_101 : decode cX11_worst 101 = .ok (.goto 22, 3) := by decide +kernel
theorem dX11_worst_104 : decode cX11_worst 104 = .ok (.iload 6, 2) := by decide +kernel
theorem dX11_worst_106 : decode cX11_worst 106 = .ok (.iconst 2, 1) := by decide +kernel
theorem dX11_worst_107 : decode cX11_worst 107 = .ok (.if_icmp .ne 11, 3) := by decide +kernel
theorem dX11_worst_110 : decode cX11_worst 110 = .ok (.aload_n 0, 1) := by decide +kernel
theorem dX11_worst_111 : decode cX11_worst 111 = .ok (.getfield 213, 3) := by decide +kernel
theorem dX11_worst_114 : decode cX11_worst 114 = .ok (.i2l, 1) := by decide +kernel
theorem dX11_worst_115 : decode cX11_worst 115 = .ok (.goto 8, 3) := by decide +kernel
theorem dX11_worst_118 : decode cX11_worst 118 = .ok (.aload_n 0, 1) := by decide +kernel
theorem dX11_worst_119 : decode cX11_worst 119 = .ok (.getfield 216, 3) := by decide +kernel
theorem dX11_worst_122 : decode cX11_worst 122 = .ok (.i2l, 1) := by decide +kernel
theorem dX11_worst_123 : decode cX11_worst 123 = .ok (.lreturn, 1) := by decide +kernel
theorem dX11_isLimit_0 : decode cX11_isLimit 0 = .ok (.iload_n 0, 1) := by decide +kernel
theorem dX11_isLimit_1 : decode cX11_isLimit 1 = .ok (.i2l, 1) := by decide +kernel
theorem dX11_isLimit_2 : decode cX11_isLimit 2 = .ok (.lconst 0, 1) := by decide +kernel
theorem dX11_isLimit_3 : decode cX11_isLimit 3 = .ok (.ldc2_w 225, 3) := by decide +kernel
theorem dX11_isLimit_6 : decode cX11_isLimit 6 = .ok (.invokestatic 133, 3) := by decide +kernel
theorem dX11_isLimit_9 : decode cX11_isLimit 9 = .ok (.ifCond .eq 19, 3) := by decide +kernel
theorem dX11_isLimit_12 : decode cX11_isLimit 12 = .ok (.iload_n 1, 1) := by decide +kernel
theorem dX11_isLimit_13 : decode cX11_isLimit 13 = .ok (.i2l, 1) := by decide +kernel
theorem dX11_isLimit_14 : decode cX11_isLimit 14 = .ok (.ldc2_w 227, 3) := by decide +kernel
theorem dX11_isLimit_17 : decode cX11_isLimit 17 = .ok (.lconst 0, 1) := by decide +kernel
theorem dX11_isLimit_18 : decode cX11_isLimit 18 = .ok (.invokestatic 133, 3) := by decide +kernel
theorem dX11_isLimit_21 : decode cX11_isLimit 21 = .ok (.ifCond .eq 7, 3) := by decide +kernel
theorem dX11_isLimit_24 : decode cX11_isLimit 24 = .ok (.iconst 1, 1) := by decide +kernel
theorem dX11_isLimit_25 : decode cX11_isLimit 25 = .ok (.goto 4, 3) := by decide +kernel
theorem dX11_isLimit_28 : decode cX11_isLimit 28 = .ok (.iconst 0, 1) := by decide +kernel
theorem dX11_isLimit_29 : decode cX11_isLimit 29 = .ok (.ireturn, 1) := by decide +kernel
theorem dX11_check_0 : decode cX11_check 0 = .ok (.aload_n 0, 1) := by decide +kernel
theorem dX11_check_1 : decode cX11_check 1 = .ok (.iload_n 1, 1) := by decide +kernel
theorem dX11_check_2 : decode cX11_check 2 = .ok (.invokevirtual 158, 3) := by decide +kernel
theorem dX11_check_5 : decode cX11_check 5 = .ok (.ifCond .ne 13, 3) := by decide +kernel
theorem dX11_check_8 : decode cX11_check 8 = .ok (.aload_n 0, 1) := by decide +kernel
theorem dX11_check_9 : decode cX11_check 9 = .ok (.iload_n 1, 1) := by decide +kernel
theorem dX11_check_10 : decode cX11_check 10 = .ok (.iload_n 2, 1) := by decide +kernel
theorem dX11_check_11 : decode cX11_check 11 = .ok (.iload_n 3, 1) := by decide +kernel
theorem dX11_check_12 : decode cX11_check 12 = .ok (.invokevirtual 162, 3) := by decide +kernel
theorem dX11_check_15 : decode cX11_check 15 = .ok (.ifCond .eq 7, 3) := by decide +kernel
theorem dX11_check_18 : decode cX11_check 18 = .ok (.sipush (-1001), 3) := by decide +kernel
theorem dX11_check_21 : decode cX11_check 21 = .ok (.ireturn, 1) := by decide +kernel
theorem dX11_check_22 : decode cX11_check 22 = .ok (.aload_n 0, 1) := by decide +kernel
theorem dX11_check_23 : decode cX11_check 23 = .ok (.iload_n 1, 1) := by decide +kernel
theorem dX11_check_24 : decode cX11_check 24 = .ok (.iload_n 2, 1) := by decide +kernel
theorem dX11_check_25 : decode cX11_check 25 = .ok (.iload_n 3, 1) := by decide +kernel
theorem dX11_check_26 : decode cX11_check 26 = .ok (.invokevirtual 168, 3) := by decide +kernel
theorem dX11_check_29 : decode cX11_check 29 = .ok (.ifCond .eq 13, 3) := by decide +kernel
theorem dX11_check_32 : decode cX11_check 32 = .ok (.iload 4, 2) := by decide +kernel
theorem dX11_check_34 : decode cX11_check 34 = .ok (.iload 5, 2) := by decide +kernel
theorem dX11_check_36 : decode cX11_check 36 = .ok (.invokestatic 229, 3) := by decide +kernel
theorem dX11_check_39 : decode cX11_check 39 = .ok (.ifCond .ne 7, 3) := by decide +kernel
theorem dX11_check_42 : decode cX11_check 42 = .ok (.sipush (-1002), 3) := by decide +kernel
theorem dX11_check_45 : decode cX11_check 45 = .ok (.ireturn, 1) := by decide +kernel
theorem dX11_check_46 : decode cX11_check 46 = .ok (.aload_n 0, 1) := by decide +kernel
theorem dX11_check_47 : decode cX11_check 47 = .ok (.getfield 66, 3) := by decide +kernel
theorem dX11_check_50 : decode cX11_check 50 = .ok (.iload_n 1, 1) := by decide +kernel
theorem dX11_check_51 : decode cX11_check 51 = .ok (.iaload, 1) := by decide +kernel
theorem dX11_check_52 : decode cX11_check 52 = .ok (.iconst 5, 1) := by decide +kernel
theorem dX11_check_53 : decode cX11_check 53 = .ok (.if_icmp .ne 7, 3) := by decide +kernel
theorem dX11_check_56 : decode cX11_check 56 = .ok (.sipush (-1004), 3) := by decide +kernel
theorem dX11_check_59 : decode cX11_check 59 = .ok (.ireturn, 1) := by decide +kernel
theorem dX11_check_60 : decode cX11_check 60 = .ok (.iconst 5, 1) := by decide +kernel
theorem dX11_check_61 : decode cX11_check 61 = .ok (.iload_n 1, 1) := by decide +kernel
theorem dX11_check_62 : decode cX11_check 62 = .ok (.imul, 1) := by decide +kernel
theorem dX11_check_63 : decode cX11_check 63 = .ok (.aload_n 0, 1) := by decide +kernel
theorem dX11_check_64 : decode cX11_check 64 = .ok (.getfield 66, 3) := by decide +kernel
theorem dX11_check_67 : decode cX11_check 67 = .ok (.iload_n 1, 1) := by decide +kernel
theorem dX11_check_68 : decode cX11_check 68 = .ok (.iaload, 1) := by decide +kernel
theorem dX11_check_69 : decode cX11_check 69 = .ok (.iadd, 1) := by decide +kernel
theorem dX11_check_70 : decode cX11_check 70 = .ok (.istore 6, 2) := by decide +kernel
theorem dX11_check_72 : decode cX11_check 72 = .ok (.aload_n 0, 1) := by decide +kernel
theorem dX11_check_73 : decode cX11_check 73 = .ok (.getfield 69, 3) := by decide +kernel
theorem dX11_check_76 : decode cX11_check 76 = .ok (.iload 6, 2) := by decide +kernel
theorem dX11_check_78 : decode cX11_check 78 = .ok (.iload_n 2, 1) := by decide +kernel
theorem dX11_check_79 : decode cX11_check 79 = .ok (.iastore, 1) := by decide +kernel
theorem dX11_check_80 : decode cX11_check 80 = .ok (.aload_n 0, 1) := by decide +kernel
theorem dX11_check_81 : decode cX11_check 81 = .ok (.getfield 72, 3) := by decide +kernel
theorem dX11_check_84 : decode cX11_check 84 = .ok (.iload 6, 2) := by decide +kernel
theorem dX11_check_86 : decode cX11_check 86 = .ok (.iload_n 3, 1) := by decide +kernel
theorem dX11_check_87 : decode cX11_check 87 = .ok (.iastore, 1) := by decide +kernel
theorem dX11_check_88 : decode cX11_check 88 = .ok (.aload_n 0, 1) := by decide +kernel
theorem dX11_check_89 : decode cX11_check 89 = .ok (.getfield 75, 3) := by decide +kernel
theorem dX11_check_92 : decode cX11_check 92 = .ok (.iload 6, 2) := by decide +kernel
theorem dX11_check_94 : decode cX11_check 94 = .ok (.iload 4, 2) := by decide +kernel
theorem dX11_check_96 : decode cX11_check 96 = .ok (.iastore, 1) := by decide +kernel
theorem dX11_check_97 : decode cX11_check 97 = .ok (.aload_n 0, 1) := by decide +kernel
theorem dX11_check_98 : decode cX11_check 98 = .ok (.getfield 78, 3) := by decide +kernel
theorem dX11_check_101 : decode cX11_check 101 = .ok (.iload 6, 2) := by decide +kernel
theorem dX11_check_103 : decode cX11_check 103 = .ok (.iload 5, 2) := by decide +kernel
theorem dX11_check_105 : decode cX11_check 105 = .ok (.iastore, 1) := by decide +kernel
theorem dX11_check_106 : decode cX11_check 106 = .ok (.aload_n 0, 1) := by decide +kernel
theorem dX11_check_107 : decode cX11_check 107 = .ok (.getfield 66, 3) := by decide +kernel
theorem dX11_check_110 : decode cX11_check 110 = .ok (.iload_n 1, 1) := by decide +kernel
theorem dX11_check_111 : decode cX11_check 111 = .ok (.dup2, 1) := by decide +kernel
theorem dX11_check_112 : decode cX11_check 112 = .ok (.iaload, 1) := by decide +kernel
theorem dX11_check_113 : decode cX11_check 113 = .ok (.iconst 1, 1) := by decide +kernel
theorem dX11_check_114 : decode cX11_check 114 = .ok (.iadd, 1) := by decide +kernel
theorem dX11_check_115 : decode cX11_check 115 = .ok (.iastore, 1) := by decide +kernel
theorem dX11_check_116 : decode cX11_check 116 = .ok (.aload_n 0, 1) := by decide +kernel
theorem dX11_check_117 : decode cX11_check 117 = .ok (.getfield 66, 3) := by decide +kernel
theorem dX11_check_120 : decode cX11_check 120 = .ok (.iload_n 1, 1) := by decide +kernel
theorem dX11_check_121 : decode cX11_check 121 = .ok (.iaload, 1) := by decide +kernel
theorem dX11_check_122 : decode cX11_check 122 = .ok (.iconst 1, 1) := by decide +kernel
theorem dX11_check_123 : decode cX11_check 123 = .ok (.isub, 1) := by decide +kernel
theorem dX11_check_124 : decode cX11_check 124 = .ok (.ireturn, 1) := by decide +kernel
theorem dX11_noCheck_0 : decode cX11_noCheck 0 = .ok (.aload_n 0, 1) := by decide +kernel
theorem dX11_noCheck_1 : decode cX11_noCheck 1 = .ok (.iload_n 1, 1) := by decide +kernel
theorem dX11_noCheck_2 : decode cX11_noCheck 2 = .ok (.invokevirtual 158, 3) := by decide +kernel
theorem dX11_noCheck_5 : decode cX11_noCheck 5 = .ok (.ifCond .ne 21, 3) := by decide +kernel
theorem dX11_noCheck_8 : decode cX11_noCheck 8 = .ok (.iload_n 2, 1) := by decide +kernel
theorem dX11_noCheck_9 : decode cX11_noCheck 9 = .ok (.i2l, 1) := by decide +kernel
theorem dX11_noCheck_10 : decode cX11_noCheck 10 = .ok (.lconst 0, 1) := by decide +kernel
theorem dX11_noCheck_11 : decode cX11_noCheck 11 = .ok (.aload_n 0, 1) := by decide +kernel
theorem dX11_noCheck_12 : decode cX11_noCheck 12 = .ok (.getfield 66, 3) := by decide +kernel
theorem dX11_noCheck_15 : decode cX11_noCheck 15 = .ok (.iload_n 1, 1) := by decide +kernel
theorem dX11_noCheck_16 : decode cX11_noCheck 16 = .ok (.iaload, 1) := by decide +kernel
theorem dX11_noCheck_17 : decode cX11_noCheck 17 = .ok (.iconst 1, 1) := by decide +kernel
theorem dX11_noCheck_18 : decode cX11_noCheck 18 = .ok (.isub, 1) := by decide +kernel
theorem dX11_noCheck_19 : decode cX11_noCheck 19 = .ok (.i2l, 1) := by decide +kernel
theorem dX11_noCheck_20 : decode cX11_noCheck 20 = .ok (.invokestatic 133, 3) := by decide +kernel
theorem dX11_noCheck_23 : decode cX11_noCheck 23 = .ok (.ifCond .ne 7, 3) := by decide +kernel
theorem dX11_noCheck_26 : decode cX11_noCheck 26 = .ok (.iconst 1, 1) := by decide +kernel
theorem dX11_noCheck_27 : decode cX11_noCheck 27 = .ok (.goto 4, 3) := by decide +kernel
theorem dX11_noCheck_30 : decode cX11_noCheck 30 = .ok (.iconst 0, 1) := by decide +kernel
theorem dX11_noCheck_31 : decode cX11_noCheck 31 = .ok (.ireturn, 1) := by decide +kernel
theorem dX11_limit_0 : decode cX11_limit 0 = .ok (.aload_n 0, 1) := by decide +kernel
theorem dX11_limit_1 : decode cX11_limit 1 = .ok (.iload_n 1, 1) := by decide +kernel
theorem dX11_limit_2 : decode cX11_limit 2 = .ok (.iload_n 2, 1) := by decide +kernel
theorem dX11_limit_3 : decode cX11_limit 3 = .ok (.invokevirtual 233, 3) := by decide +kernel
theorem dX11_limit_6 : decode cX11_limit 6 = .ok (.ifCond .eq 7, 3) := by decide +kernel
theorem dX11_limit_9 : decode cX11_limit 9 = .ok (.sipush (-1001), 3) := by decide +kernel
theorem dX11_limit_12 : decode cX11_limit 12 = .ok (.ireturn, 1) := by decide +kernel
theorem dX11_limit_13 : decode cX11_limit 13 = .ok (.iload_n 3, 1) := by decide +kernel
theorem dX11_limit_14 : decode cX11_limit 14 = .ok (.iload 4, 2) := by decide +kernel
theorem dX11_limit_16 : decode cX11_limit 16 = .ok (.invokestatic 229, 3) := by decide +kernel
theorem dX11_limit_19 : decode cX11_limit 19 = .ok (.ifCond .ne 7, 3) := by decide +kernel
theorem dX11_limit_22 : decode cX11_limit 22 = .ok (.sipush (-1002), 3) := by decide +kernel
theorem dX11_limit_25 : decode cX11_limit 25 = .ok (.ireturn, 1) := by decide +kernel
theorem dX11_limit_26 : decode cX11_limit 26 = .ok (.aload_n 0, 1) := by decide +kernel
theorem dX11_limit_27 : decode cX11_limit 27 = .ok (.getfield 75, 3) := by decide +kernel
theorem dX11_limit_30 : decode cX11_limit 30 = .ok (.iconst 5, 1) := by decide +kernel
theorem dX11_limit_31 : decode cX11_limit 31 = .ok (.iload_n 1, 1) := by decide +kernel
theorem dX11_limit_32 : decode cX11_limit 32 = .ok (.imul, 1) := by decide +kernel
theorem dX11_limit_33 : decode cX11_limit 33 = .ok (.iload_n 2, 1) := by decide +kernel
theorem dX11_limit_34 : decode cX11_limit 34 = .ok (.iadd, 1) := by decide +kernel
theorem dX11_limit_35 : decode cX11_limit 35 = .ok (.iload_n 3, 1) := by decide +kernel
theorem dX11_limit_36 : decode cX11_limit 36 = .ok (.iastore, 1) := by decide +kernel
theorem dX11_limit_37 : decode cX11_limit 37 = .ok (.aload_n 0, 1) := by decide +kernel
theorem dX11_limit_38 : decode cX11_limit 38 = .ok (.getfield 78, 3) := by decide +kernel
theorem dX11_limit_41 : decode cX11_limit 41 = .ok (.iconst 5, 1) := by decide +kernel
theorem dX11_limit_42 : decode cX11_limit 42 = .ok (.iload_n 1, 1) := by decide +kernel
theorem dX11_limit_43 : decode cX11_limit 43 = .ok (.imul, 1) := by decide +kernel
theorem dX11_limit_44 : decode cX11_limit 44 = .ok (.iload_n 2, 1) := by decide +kernel
theorem dX11_limit_45 : decode cX11_limit 45 = .ok (.iadd, 1) := by decide +kernel
theorem dX11_limit_46 : decode cX11_limit 46 = .ok (.iload 4, 2) := by decide +kernel
theorem dX11_limit_48 : decode cX11_limit 48 = .ok (.iastore, 1) := by decide +kernel
theorem dX11_limit_49 : decode cX11_limit 49 = .ok (.iconst 1, 1) := by decide +kernel
theorem dX11_limit_50 : decode cX11_limit 50 = .ok (.ireturn, 1) := by decide +kernel
theorem dX11_usual_0 : decode cX11_usual 0 = .ok (.iload_n 1, 1) := by decide +kernel
theorem dX11_usual_1 : decode cX11_usual 1 = .ok (.iconst (-1), 1) := by decide +kernel
theorem dX11_usual_2 : decode cX11_usual 2 = .ok (.if_icmp .eq 15, 3) := by decide +kernel
theorem dX11_usual_5 : decode cX11_usual 5 = .ok (.aload_n 0, 1) := by decide +kernel
theorem dX11_usual_6 : decode cX11_usual 6 = .ok (.iload_n 1, 1) := by decide +kernel
theorem dX11_usual_7 : decode cX11_usual 7 = .ok (.invokevirtual 190, 3) := by decide +kernel
theorem dX11_usual_10 : decode cX11_usual 10 = .ok (.ifCond .eq 7, 3) := by decide +kernel
theorem dX11_usual_13 : decode cX11_usual 13 = .ok (.sipush (-1001), 3) := by decide +kernel
theorem dX11_usual_16 : decode cX11_usual 16 = .ok (.ireturn, 1) := by decide +kernel
theorem dX11_usual_17 : decode cX11_usual 17 = .ok (.aload_n 0, 1) := by decide +kernel
theorem dX11_usual_18 : decode cX11_usual 18 = .ok (.getfield 56, 3) := by decide +kernel
theorem dX11_usual_21 : decode cX11_usual 21 = .ok (.istore_n 2, 1) := by decide +kernel
theorem dX11_usual_22 : decode cX11_usual 22 = .ok (.aload_n 0, 1) := by decide +kernel
theorem dX11_usual_23 : decode cX11_usual 23 = .ok (.iload_n 1, 1) := by decide +kernel
theorem dX11_usual_24 : decode cX11_usual 24 = .ok (.putfield 56, 3) := by decide +kernel
theorem dX11_usual_27 : decode cX11_usual 27 = .ok (.iload_n 2, 1) := by decide +kernel
theorem dX11_usual_28 : decode cX11_usual 28 = .ok (.ireturn, 1) := by decide +kernel
theorem dX11_totalOf_0 : decode cX11_totalOf 0 = .ok (.iconst 5, 1) := by decide +kernel
theorem dX11_totalOf_1 : decode cX11_totalOf 1 = .ok (.iload_n 1, 1) := by decide +kernel
theorem dX11_totalOf_2 : decode cX11_totalOf 2 = .ok (.imul, 1) := by decide +kernel
theorem dX11_totalOf_3 : decode cX11_totalOf 3 = .ok (.iload_n 2, 1) := by decide +kernel
theorem dX11_totalOf_4 : decode cX11_totalOf 4 = .ok (.iadd, 1) := by decide +kernel
theorem dX11_totalOf_5 : decode cX11_totalOf 5 = .ok (.istore 6, 2) := by decide +kernel
theorem dX11_totalOf_7 : decode cX11_totalOf 7 = .ok (.ldc2_w 183, 3) := by decide +kernel
theorem dX11_totalOf_10 : decode cX11_totalOf 10 = .ok (.aload_n 0, 1) := by decide +kernel
theorem dX11_totalOf_11 : decode cX11_totalOf 11 = .ok (.iload_n 1, 1) := by decide +kernel
theorem dX11_totalOf_12 : decode cX11_totalOf 12 = .ok (.aload_n 0, 1) := by decide +kernel
theorem dX11_totalOf_13 : decode cX11_totalOf 13 = .ok (.getfield 69, 3) := by decide +kernel
theorem dX11_totalOf_16 : decode cX11_totalOf 16 = .ok (.iload 6, 2) := by decide +kernel
theorem dX11_totalOf_18 : decode cX11_totalOf 18 = .ok (.iaload, 1) := by decide +kernel
theorem dX11_totalOf_19 : decode cX11_totalOf 19 = .ok (.aload_n 0, 1) := by decide +kernel
theorem dX11_totalOf_20 : decode cX11_totalOf 20 = .ok (.getfield 72, 3) := by decide +kernel
theorem dX11_totalOf_23 : decode cX11_totalOf 23 = .ok (.iload 6, 2) := by decide +kernel
theorem dX11_totalOf_25 : decode cX11_totalOf 25 = .ok (.iaload, 1) := by decide +kernel
theorem dX11_totalOf_26 : decode cX11_totalOf 26 = .ok (.iload_n 3, 1) := by decide +kernel
theorem dX11_totalOf_27 : decode cX11_totalOf 27 = .ok (.iload 5, 2) := by decide +kernel
theorem dX11_totalOf_29 : decode cX11_totalOf 29 = .ok (.invokevirtual 221, 3) := by decide +kernel
theorem dX11_totalOf_32 : decode cX11_totalOf 32 = .ok (.lmul, 1) := by decide +kernel
theorem dX11_totalOf_33 : decode cX11_totalOf 33 = .ok (.lstore 7, 2) := by decide +kernel
theorem dX11_totalOf_35 : decode cX11_totalOf 35 = .ok (.iload 4, 2) := by decide +kernel
theorem dX11_totalOf_37 : decode cX11_totalOf 37 = .ok (.ifCond .ne 85, 3) := by decide +kernel
theorem dX11_totalOf_40 : decode cX11_totalOf 40 = .ok (.aload_n 0, 1) := by decide +kernel
theorem dX11_totalOf_41 : decode cX11_totalOf 41 = .ok (.getfield 56, 3) := by decide +kernel
theorem dX11_totalOf_44 : decode cX11_totalOf 44 = .ok (.ifCond .lt 78, 3) := by decide +kernel
theorem dX11_totalOf_47 : decode cX11_totalOf 47 = .ok (.aload_n 0, 1) := by decide +kernel
theorem dX11_totalOf_48 : decode cX11_totalOf 48 = .ok (.getfield 25, 3) := by decide +kernel
theorem dX11_totalOf_51 : decode cX11_totalOf 51 = .ok (.iload_n 1, 1) := by decide +kernel
theorem dX11_totalOf_52 : decode cX11_totalOf 52 = .ok (.iaload, 1) := by decide +kernel
theorem dX11_totalOf_53 : decode cX11_totalOf 53 = .ok (.iconst 1, 1) := by decide +kernel
theorem dX11_totalOf_54 : decode cX11_totalOf 54 = .ok (.if_icmp .le 68, 3) := by decide +kernel
theorem dX11_totalOf_57 : decode cX11_totalOf 57 = .ok (.aload_n 0, 1) := by decide +kernel
theorem dX11_totalOf_58 : decode cX11_totalOf 58 = .ok (.getfield 63, 3) := by decide +kernel
theorem dX11_totalOf_61 : decode cX11_totalOf 61 = .ok (.istore 9, 2) := by decide +kernel
theorem dX11_totalOf_63 : decode cX11_totalOf 63 = .ok (.aload_n 0, 1) := by decide +kernel
theorem dX11_totalOf_64 : decode cX11_totalOf 64 = .ok (.iconst (-1), 1) := by decide +kernel
theorem dX11_totalOf_65 : decode cX11_totalOf 65 = .ok (.putfield 63, 3) := by decide +kernel
theorem dX11_totalOf_68 : decode cX11_totalOf 68 = .ok (.lload 7, 2) := by decide +kernel
theorem dX11_totalOf_70 : decode cX11_totalOf 70 = .ok (.aload_n 0, 1) := by decide +kernel
theorem dX11_totalOf_71 : decode cX11_totalOf 71 = .ok (.getfield 25, 3) := by decide +kernel
theorem dX11_totalOf_74 : decode cX11_totalOf 74 = .ok (.iload_n 1, 1) := by decide +kernel
theorem dX11_totalOf_75 : decode cX11_totalOf 75 = .ok (.iaload, 1) := by decide +kernel
theorem dX11_totalOf_76 : decode cX11_totalOf 76 = .ok (.iconst 1, 1) := by decide +kernel
theorem dX11_totalOf_77 : decode cX11_totalOf 77 = .ok (.isub, 1) := by decide +kernel
theorem dX11_totalOf_78 : decode cX11_totalOf 78 = .ok (.i2l, 1) := by decide +kernel
theorem dX11_totalOf_79 : decode cX11_totalOf 79 = .ok (.aload_n 0, 1) := by decide +kernel
theorem dX11_totalOf_80 : decode cX11_totalOf 80 = .ok (.getfield 28, 3) := by decide +kernel
theorem dX11_totalOf_83 : decode cX11_totalOf 83 = .ok (.iload_n 1, 1) := by decide +kernel
theorem dX11_totalOf_84 : decode cX11_totalOf 84 = .ok (.iaload, 1) := by decide +kernel
theorem dX11_totalOf_85 : decode cX11_totalOf 85 = .ok (.i2l, 1) := by decide +kernel
theorem dX11_totalOf_86 : decode cX11_totalOf 86 = .ok (.lmul, 1) := by decide +kernel
theorem dX11_totalOf_87 : decode cX11_totalOf 87 = .ok (.aload_n 0, 1) := by decide +kernel
theorem dX11_totalOf_88 : decode cX11_totalOf 88 = .ok (.iload_n 1, 1) := by decide +kernel
theorem dX11_totalOf_89 : decode cX11_totalOf 89 = .ok (.aload_n 0, 1) := by decide +kernel
theorem dX11_totalOf_90 : decode cX11_totalOf 90 = .ok (.getfield 69, 3) := by decide +kernel
theorem dX11_totalOf_93 : decode cX11_totalOf 93 = .ok (.iload 6, 2) := by decide +kernel
theorem dX11_totalOf_95 : decode cX11_totalOf 95 = .ok (.iaload, 1) := by decide +kernel
theorem dX11_totalOf_96 : decode cX11_totalOf 96 = .ok (.aload_n 0, 1) := by decide +kernel
theorem dX11_totalOf_97 : decode cX11_totalOf 97 = .ok (.getfield 72, 3) := by decide +kernel
theorem dX11_totalOf_100 : decode cX11_totalOf 100 = .ok (.iload 6, 2) := by decide +kernel
theorem dX11_totalOf_102 : decode cX11_totalOf 102 = .ok (.iaload, 1) := by decide +kernel
theorem dX11_totalOf_103 : decode cX11_totalOf 103 = .ok (.aload_n 0, 1) := by decide +kernel
theorem dX11_totalOf_104 : decode cX11_totalOf 104 = .ok (.getfield 56, 3) := by decide +kernel
theorem dX11_totalOf_107 : decode cX11_totalOf 107 = .ok (.iload 5, 2) := by decide +kernel
theorem dX11_totalOf_109 : decode cX11_totalOf 109 = .ok (.invokevirtual 221, 3) := by decide +kernel
theorem dX11_totalOf_112 : decode cX11_totalOf 112 = .ok (.lmul, 1) := by decide +kernel
theorem dX11_totalOf_113 : decode cX11_totalOf 113 = .ok (.ladd, 1) := by decide +kernel
theorem dX11_totalOf_114 : decode cX11_totalOf 114 = .ok (.lstore 7, 2) := by decide +kernel
theorem dX11_totalOf_116 : decode cX11_totalOf 116 = .ok (.aload_n 0, 1) := by decide +kernel
theorem dX11_totalOf_117 : decode cX11_totalOf 117 = .ok (.iload 9, 2) := by decide +kernel
theorem dX11_totalOf_119 : decode cX11_totalOf 119 = .ok (.putfield 63, 3) := by decide +kernel
theorem dX11_totalOf_122 : decode cX11_totalOf 122 = .ok (.lload 7, 2) := by decide +kernel
theorem dX11_totalOf_124 : decode cX11_totalOf 124 = .ok (.iload 4, 2) := by decide +kernel
theorem dX11_totalOf_126 : decode cX11_totalOf 126 = .ok (.iconst 2, 1) := by decide +kernel
theorem dX11_totalOf_127 : decode cX11_totalOf 127 = .ok (.if_icmp .ne 8, 3) := by decide +kernel
theorem dX11_totalOf_130 : decode cX11_totalOf 130 = .ok (.bipush 100, 2) := by decide +kernel
theorem dX11_totalOf_132 : decode cX11_totalOf 132 = .ok (.goto 12, 3) := by decide +kernel
theorem dX11_totalOf_135 : decode cX11_totalOf 135 = .ok (.bipush 100, 2) := by decide +kernel
theorem dX11_totalOf_137 : decode cX11_totalOf 137 = .ok (.aload_n 0, 1) := by decide +kernel
theorem dX11_totalOf_138 : decode cX11_totalOf 138 = .ok (.getfield 22, 3) := by decide +kernel
theorem dX11_totalOf_141 : decode cX11_totalOf 141 = .ok (.iload_n 1, 1) := by decide +kernel
theorem dX11_totalOf_142 : decode cX11_totalOf 142 = .ok (.iaload, 1) := by decide +kernel
theorem dX11_totalOf_143 : decode cX11_totalOf 143 = .ok (.iadd, 1) := by decide +kernel
theorem dX11_totalOf_144 : decode cX11_totalOf 144 = .ok (.i2l, 1) := by decide +kernel
theorem dX11_totalOf_145 : decode cX11_totalOf 145 = .ok (.lmul, 1) := by decide +kernel
theorem dX11_totalOf_146 : decode cX11_totalOf 146 = .ok (.lreturn, 1) := by decide +kernel
theorem dX11_isMode_0 : decode cX11_isMode 0 = .ok (.iload_n 0, 1) := by decide +kernel
theorem dX11_isMode_1 : decode cX11_isMode 1 = .ok (.i2l, 1) := by decide +kernel
theorem dX11_isMode_2 : decode cX11_isMode 2 = .ok (.lconst 0, 1) := by decide +kernel
theorem dX11_isMode_3 : decode cX11_isMode 3 = .ok (.ldc2_w 129, 3) := by decide +kernel
theorem dX11_isMode_6 : decode cX11_isMode 6 = .ok (.invokestatic 133, 3) := by decide +kernel
theorem dX11_isMode_9 : decode cX11_isMode 9 = .ok (.ireturn, 1) := by decide +kernel
theorem dX11_total_0 : decode cX11_total 0 = .ok (.aload_n 0, 1) := by decide +kernel
theorem dX11_total_1 : decode cX11_total 1 = .ok (.iload_n 1, 1) := by decide +kernel
theorem dX11_total_2 : decode cX11_total 2 = .ok (.iload_n 2, 1) := by decide +kernel
theorem dX11_total_3 : decode cX11_total 3 = .ok (.invokevirtual 233, 3) := by decide +kernel
theorem dX11_total_6 : decode cX11_total 6 = .ok (.ifCond .ne 11, 3) := by decide +kernel
theorem dX11_total_9 : decode cX11_total 9 = .ok (.aload_n 0, 1) := by decide +kernel
theorem dX11_total_10 : decode cX11_total 10 = .ok (.iload_n 3, 1) := by decide +kernel
theorem dX11_total_11 : decode cX11_total 11 = .ok (.invokevirtual 190, 3) := by decide +kernel
theorem dX11_total_14 : decode cX11_total 14 = .ok (.ifCond .eq 7, 3) := by decide +kernel
theorem dX11_total_17 : decode cX11_total 17 = .ok (.ldc2_w 166, 3) := by decide +kernel
theorem dX11_total_20 : decode cX11_total 20 = .ok (.lreturn, 1) := by decide +kernel
theorem dX11_total_21 : decode cX11_total 21 = .ok (.iload 4, 2) := by decide +kernel
theorem dX11_total_23 : decode cX11_total 23 = .ok (.invokestatic 236, 3) := by decide +kernel
theorem dX11_total_26 : decode cX11_total 26 = .ok (.ifCond .eq 25, 3) := by decide +kernel
theorem dX11_total_29 : decode cX11_total 29 = .ok (.iload 5, 2) := by decide +kernel
theorem dX11_total_31 : decode cX11_total 31 = .ok (.i2l, 1) := by decide +kernel
theorem dX11_total_32 : decode cX11_total 32 = .ok (.lconst 0, 1) := by decide +kernel
theorem dX11_total_33 : decode cX11_total 33 = .ok (.lconst 1, 1) := by decide +kernel
theorem dX11_total_34 : decode cX11_total 34 = .ok (.invokestatic 133, 3) := by decide +kernel
theorem dX11_total_37 : decode cX11_total 37 = .ok (.ifCond .eq 14, 3) := by decide +kernel
theorem dX11_total_40 : decode cX11_total 40 = .ok (.iload 6, 2) := by decide +kernel
theorem dX11_total_42 : decode cX11_total 42 = .ok (.i2l, 1) := by decide +kernel
theorem dX11_total_43 : decode cX11_total 43 = .ok (.lconst 0, 1) := by decide +kernel
theorem dX11_total_44 : decode cX11_total 44 = .ok (.lconst 1, 1) := by decide +kernel
theorem dX11_total_45 : decode cX11_total 45 = .ok (.invokestatic 133, 3) := by decide +kernel
theorem dX11_total_48 : decode cX11_total 48 = .ok (.ifCond .ne 7, 3) := by decide +kernel
theorem dX11_total_51 : decode cX11_total 51 = .ok (.ldc2_w 171, 3) := by decide +kernel
theorem dX11_total_54 : decode cX11_total 54 = .ok (.lreturn, 1) := by decide +kernel
theorem dX11_total_55 : decode cX11_total 55 = .ok (.aload_n 0, 1) := by decide +kernel
theorem dX11_total_56 : decode cX11_total 56 = .ok (.iload_n 1, 1) := by decide +kernel
theorem dX11_total_57 : decode cX11_total 57 = .ok (.iload_n 2, 1) := by decide +kernel
theorem dX11_total_58 : decode cX11_total 58 = .ok (.iload_n 3, 1) := by decide +kernel
theorem dX11_total_59 : decode cX11_total 59 = .ok (.iload 4, 2) := by decide +kernel
theorem dX11_total_61 : decode cX11_total 61 = .ok (.iload 5, 2) := by decide +kernel
theorem dX11_total_63 : decode cX11_total 63 = .ok (.invokevirtual 239, 3) := by decide +kernel
theorem dX11_total_66 : decode cX11_total 66 = .ok (.ldc2_w 242, 3) := by decide +kernel
theorem dX11_total_69 : decode cX11_total 69 = .ok (.aload_n 0, 1) := by decide +kernel
theorem dX11_total_70 : decode cX11_total 70 = .ok (.getfield 35, 3) := by decide +kernel
theorem dX11_total_73 : decode cX11_total 73 = .ok (.iload_n 1, 1) := by decide +kernel
theorem dX11_total_74 : decode cX11_total 74 = .ok (.laload, 1) := by decide +kernel
theorem dX11_total_75 : decode cX11_total 75 = .ok (.lmul, 1) := by decide +kernel
theorem dX11_total_76 : decode cX11_total 76 = .ok (.iload 6, 2) := by decide +kernel
theorem dX11_total_78 : decode cX11_total 78 = .ok (.invokestatic 177, 3) := by decide +kernel
theorem dX11_total_81 : decode cX11_total 81 = .ok (.lreturn, 1) := by decide +kernel
theorem dX11_isMet_0 : decode cX11_isMet 0 = .ok (.ldc2_w 242, 3) := by decide +kernel
theorem dX11_isMet_3 : decode cX11_isMet 3 = .ok (.aload_n 0, 1) := by decide +kernel
theorem dX11_isMet_4 : decode cX11_isMet 4 = .ok (.getfield 35, 3) := by decide +kernel
theorem dX11_isMet_7 : decode cX11_isMet 7 = .ok (.iload_n 1, 1) := by decide +kernel
theorem dX11_isMet_8 : decode cX11_isMet 8 = .ok (.laload, 1) := by decide +kernel
theorem dX11_isMet_9 : decode cX11_isMet 9 = .ok (.lmul, 1) := by decide +kernel
theorem dX11_isMet_10 : decode cX11_isMet 10 = .ok (.lstore 5, 2) := by decide +kernel
theorem dX11_isMet_12 : decode cX11_isMet 12 = .ok (.aload_n 0, 1) := by decide +kernel
theorem dX11_isMet_13 : decode cX11_isMet 13 = .ok (.iload_n 1, 1) := by decide +kernel
theorem dX11_isMet_14 : decode cX11_isMet 14 = .ok (.iload_n 2, 1) := by decide +kernel
theorem dX11_isMet_15 : decode cX11_isMet 15 = .ok (.iload_n 3, 1) := by decide +kernel
theorem dX11_isMet_16 : decode cX11_isMet 16 = .ok (.iload 4, 2) := by decide +kernel
theorem dX11_isMet_18 : decode cX11_isMet 18 = .ok (.iconst 0, 1) := by decide +kernel
theorem dX11_isMet_19 : decode cX11_isMet 19 = .ok (.invokevirtual 239, 3) := by decide +kernel
theorem dX11_isMet_22 : decode cX11_isMet 22 = .ok (.aload_n 0, 1) := by decide +kernel
theorem dX11_isMet_23 : decode cX11_isMet 23 = .ok (.getfield 75, 3) := by decide +kernel
theorem dX11_isMet_26 : decode cX11_isMet 26 = .ok (.iconst 5, 1) := by decide +kernel
theorem dX11_isMet_27 : decode cX11_isMet 27 = .ok (.iload_n 1, 1) := by decide +kernel
theorem dX11_isMet_28 : decode cX11_isMet 28 = .ok (.imul, 1) := by decide +kernel
theorem dX11_isMet_29 : decode cX11_isMet 29 = .ok (.iload_n 2, 1) := by decide +kernel
theorem dX11_isMet_30 : decode cX11_isMet 30 = .ok (.iadd, 1) := by decide +kernel
theorem dX11_isMet_31 : decode cX11_isMet 31 = .ok (.iaload, 1) := by decide +kernel
theorem dX11_isMet_32 : decode cX11_isMet 32 = .ok (.i2l, 1) := by decide +kernel
theorem dX11_isMet_33 : decode cX11_isMet 33 = .ok (.lload 5, 2) := by decide +kernel
theorem dX11_isMet_35 : decode cX11_isMet 35 = .ok (.lmul, 1) := by decide +kernel
theorem dX11_isMet_36 : decode cX11_isMet 36 = .ok (.lcmp, 1) := by decide +kernel
theorem dX11_isMet_37 : decode cX11_isMet 37 = .ok (.ifCond .gt 35, 3) := by decide +kernel
theorem dX11_isMet_40 : decode cX11_isMet 40 = .ok (.aload_n 0, 1) := by decide +kernel
theorem dX11_isMet_41 : decode cX11_isMet 41 = .ok (.iload_n 1, 1) := by decide +kernel
theorem dX11_isMet_42 : decode cX11_isMet 42 = .ok (.iload_n 2, 1) := by decide +kernel
theorem dX11_isMet_43 : decode cX11_isMet 43 = .ok (.iload_n 3, 1) := by decide +kernel
theorem dX11_isMet_44 : decode cX11_isMet 44 = .ok (.iload 4, 2) := by decide +kernel
theorem dX11_isMet_46 : decode cX11_isMet 46 = .ok (.iconst 1, 1) := by decide +kernel
theorem dX11_isMet_47 : decode cX11_isMet 47 = .ok (.invokevirtual 239, 3) := by decide +kernel
theorem dX11_isMet_50 : decode cX11_isMet 50 = .ok (.aload_n 0, 1) := by decide +kernel
theorem dX11_isMet_51 : decode cX11_isMet 51 = .ok (.getfield 78, 3) := by decide +kernel
theorem dX11_isMet_54 : decode cX11_isMet 54 = .ok (.iconst 5, 1) := by decide +kernel
theorem dX11_isMet_55 : decode cX11_isMet 55 = .ok (.iload_n 1, 1) := by decide +kernel
theorem dX11_isMet_56 : decode cX11_isMet 56 = .ok (.imul, 1) := by decide +kernel
theorem dX11_isMet_57 : decode cX11_isMet 57 = .ok (.iload_n 2, 1) := by decide +kernel
theorem dX11_isMet_58 : decode cX11_isMet 58 = .ok (.iadd, 1) := by decide +kernel
theorem dX11_isMet_59 : decode cX11_isMet 59 = .ok (.iaload, 1) := by decide +kernel
theorem dX11_isMet_60 : decode cX11_isMet 60 = .ok (.i2l, 1) := by decide +kernel
theorem dX11_isMet_61 : decode cX11_isMet 61 = .ok (.lload 5, 2) := by decide +kernel
theorem dX11_isMet_63 : decode cX11_isMet 63 = .ok (.lmul, 1) := by decide +kernel
theorem dX11_isMet_64 : decode cX11_isMet 64 = .ok (.lcmp, 1) := by decide +kernel
theorem dX11_isMet_65 : decode cX11_isMet 65 = .ok (.ifCond .lt 7, 3) := by decide +kernel
theorem dX11_isMet_68 : decode cX11_isMet 68 = .ok (.iconst 1, 1) := by decide +kernel
theorem dX11_isMet_69 : decode cX11_isMet 69 = .ok (.goto 4, 3) := by decide +kernel
theorem dX11_isMet_72 : decode cX11_isMet 72 = .ok (.iconst 0, 1) := by decide +kernel
theorem dX11_isMet_73 : decode cX11_isMet 73 = .ok (.ireturn, 1) := by decide +kernel
theorem dX11_failing_0 : decode cX11_failing 0 = .ok (.iconst 0, 1) := by decide +kernel
theorem dX11_failing_1 : decode cX11_failing 1 = .ok (.istore 4, 2) := by decide +kernel
theorem dX11_failing_3 : decode cX11_failing 3 = .ok (.iload 4, 2) := by decide +kernel
theorem dX11_failing_5 : decode cX11_failing 5 = .ok (.aload_n 0, 1) := by decide +kernel
theorem dX11_failing_6 : decode cX11_failing 6 = .ok (.getfield 66, 3) := by decide +kernel
theorem dX11_failing_9 : decode cX11_failing 9 = .ok (.iload_n 1, 1) := by decide +kernel
theorem dX11_failing_10 : decode cX11_failing 10 = .ok (.iaload, 1) := by decide +kernel
theorem dX11_failing_11 : decode cX11_failing 11 = .ok (.if_icmp .ge 24, 3) := by decide +kernel
theorem dX11_failing_14 : decode cX11_failing 14 = .ok (.aload_n 0, 1) := by decide +kernel
theorem dX11_failing_15 : decode cX11_failing 15 = .ok (.iload_n 1, 1) := by decide +kernel
theorem dX11_failing_16 : decode cX11_failing 16 = .ok (.iload 4, 2) := by decide +kernel
theorem dX11_failing_18 : decode cX11_failing 18 = .ok (.iload_n 2, 1) := by decide +kernel
theorem dX11_failing_19 : decode cX11_failing 19 = .ok (.iload_n 3, 1) := by decide +kernel
theorem dX11_failing_20 : decode cX11_failing 20 = .ok (.invokevirtual 244, 3) := by decide +kernel
theorem dX11_failing_23 : decode cX11_failing 23 = .ok (.ifCond .ne 6, 3) := by decide +kernel
theorem dX11_failing_26 : decode cX11_failing 26 = .ok (.iload 4, 2) := by decide +kernel
theorem dX11_failing_28 : decode cX11_failing 28 = .ok (.ireturn, 1) := by decide +kernel
theorem dX11_failing_29 : decode cX11_failing 29 = .ok (.iinc 4 1, 3) := by decide +kernel
theorem dX11_failing_32 : decode cX11_failing 32 = .ok (.goto (-29), 3) := by decide +kernel
theorem dX11_failing_35 : decode cX11_failing 35 = .ok (.iconst (-1), 1) := by decide +kernel
theorem dX11_failing_36 : decode cX11_failing 36 = .ok (.ireturn, 1) := by decide +kernel
theorem dX11_fails_0 : decode cX11_fails 0 = .ok (.aload_n 0, 1) := by decide +kernel
theorem dX11_fails_1 : decode cX11_fails 1 = .ok (.iload_n 1, 1) := by decide +kernel
theorem dX11_fails_2 : decode cX11_fails 2 = .ok (.invokevirtual 158, 3) := by decide +kernel
theorem dX11_fails_5 : decode cX11_fails 5 = .ok (.ifCond .ne 11, 3) := by decide +kernel
theorem dX11_fails_8 : decode cX11_fails 8 = .ok (.aload_n 0, 1) := by decide +kernel
theorem dX11_fails_9 : decode cX11_fails 9 = .ok (.iload_n 2, 1) := by decide +kernel
theorem dX11_fails_10 : decode cX11_fails 10 = .ok (.invokevirtual 190, 3) := by decide +kernel
theorem dX11_fails_13 : decode cX11_fails 13 = .ok (.ifCond .eq 7, 3) := by decide +kernel
theorem dX11_fails_16 : decode cX11_fails 16 = .ok (.sipush (-1001), 3) := by decide +kernel
theorem dX11_fails_19 : decode cX11_fails 19 = .ok (.ireturn, 1) := by decide +kernel
theorem dX11_fails_20 : decode cX11_fails 20 = .ok (.iload_n 3, 1) := by decide +kernel
theorem dX11_fails_21 : decode cX11_fails 21 = .ok (.invokestatic 236, 3) := by decide +kernel
theorem dX11_fails_24 : decode cX11_fails 24 = .ok (.ifCond .eq 13, 3) := by decide +kernel
theorem dX11_fails_27 : decode cX11_fails 27 = .ok (.aload_n 0, 1) := by decide +kernel
theorem dX11_fails_28 : decode cX11_fails 28 = .ok (.iload_n 1, 1) := by decide +kernel
theorem dX11_fails_29 : decode cX11_fails 29 = .ok (.iload_n 2, 1) := by decide +kernel
theorem dX11_fails_30 : decode cX11_fails 30 = .ok (.iload_n 3, 1) := by decide +kernel
theorem dX11_fails_31 : decode cX11_fails 31 = .ok (.invokevirtual 248, 3) := by decide +kernel
theorem dX11_fails_34 : decode cX11_fails 34 = .ok (.goto 6, 3) := by decide +kernel
theorem dX11_fails_37 : decode cX11_fails 37 = .ok (.sipush (-1002), 3) := by decide +kernel
theorem dX11_fails_40 : decode cX11_fails 40 = .ok (.ireturn, 1) := by decide +kernel
theorem dX11_holds_0 : decode cX11_holds 0 = .ok (.aload_n 0, 1) := by decide +kernel
theorem dX11_holds_1 : decode cX11_holds 1 = .ok (.iload_n 2, 1) := by decide +kernel
theorem dX11_holds_2 : decode cX11_holds 2 = .ok (.putfield 63, 3) := by decide +kernel
theorem dX11_holds_5 : decode cX11_holds 5 = .ok (.aload_n 0, 1) := by decide +kernel
theorem dX11_holds_6 : decode cX11_holds 6 = .ok (.iload 4, 2) := by decide +kernel
theorem dX11_holds_8 : decode cX11_holds 8 = .ok (.putfield 60, 3) := by decide +kernel
theorem dX11_holds_11 : decode cX11_holds 11 = .ok (.aload_n 0, 1) := by decide +kernel
theorem dX11_holds_12 : decode cX11_holds 12 = .ok (.iload 5, 2) := by decide +kernel
theorem dX11_holds_14 : decode cX11_holds 14 = .ok (.putfield 195, 3) := by decide +kernel
theorem dX11_holds_17 : decode cX11_holds 17 = .ok (.aload_n 0, 1) := by decide +kernel
theorem dX11_holds_18 : decode cX11_holds 18 = .ok (.iload_n 1, 1) := by decide +kernel
theorem dX11_holds_19 : decode cX11_holds 19 = .ok (.iload_n 2, 1) := by decide +kernel
theorem dX11_holds_20 : decode cX11_holds 20 = .ok (.iload_n 3, 1) := by decide +kernel
theorem dX11_holds_21 : decode cX11_holds 21 = .ok (.invokevirtual 248, 3) := by decide +kernel
theorem dX11_holds_24 : decode cX11_holds 24 = .ok (.ifCond .ge 7, 3) := by decide +kernel
theorem dX11_holds_27 : decode cX11_holds 27 = .ok (.iconst 1, 1) := by decide +kernel
theorem dX11_holds_28 : decode cX11_holds 28 = .ok (.goto 4, 3) := by decide +kernel
theorem dX11_holds_31 : decode cX11_holds 31 = .ok (.iconst 0, 1) := by decide +kernel
theorem dX11_holds_32 : decode cX11_holds 32 = .ok (.istore 6, 2) := by decide +kernel
theorem dX11_holds_34 : decode cX11_holds 34 = .ok (.aload_n 0, 1) := by decide +kernel
theorem dX11_holds_35 : decode cX11_holds 35 = .ok (.iconst (-1), 1) := by decide +kernel
theorem dX11_holds_36 : decode cX11_holds 36 = .ok (.putfield 63, 3) := by decide +kernel
theorem dX11_holds_39 : decode cX11_holds 39 = .ok (.aload_n 0, 1) := by decide +kernel
theorem dX11_holds_40 : decode cX11_holds 40 = .ok (.bipush 100, 2) := by decide +kernel
theorem dX11_holds_42 : decode cX11_holds 42 = .ok (.putfield 60, 3) := by decide +kernel
theorem dX11_holds_45 : decode cX11_holds 45 = .ok (.aload_n 0, 1) := by decide +kernel
theorem dX11_holds_46 : decode cX11_holds 46 = .ok (.iconst 0, 1) := by decide +kernel
theorem dX11_holds_47 : decode cX11_holds 47 = .ok (.putfield 195, 3) := by decide +kernel
theorem dX11_holds_50 : decode cX11_holds 50 = .ok (.iload 6, 2) := by decide +kernel
theorem dX11_holds_52 : decode cX11_holds 52 = .ok (.ireturn, 1) := by decide +kernel
theorem dX11_posted_0 : decode cX11_posted 0 = .ok (.aload_n 0, 1) := by decide +kernel
theorem dX11_posted_1 : decode cX11_posted 1 = .ok (.iload_n 1, 1) := by decide +kernel
theorem dX11_posted_2 : decode cX11_posted 2 = .ok (.invokevirtual 158, 3) := by decide +kernel
theorem dX11_posted_5 : decode cX11_posted 5 = .ok (.ifCond .ne 11, 3) := by decide +kernel
theorem dX11_posted_8 : decode cX11_posted 8 = .ok (.aload_n 0, 1) := by decide +kernel
theorem dX11_posted_9 : decode cX11_posted 9 = .ok (.iload_n 2, 1) := by decide +kernel
theorem dX11_posted_10 : decode cX11_posted 10 = .ok (.invokevirtual 190, 3) := by decide +kernel
theorem dX11_posted_13 : decode cX11_posted 13 = .ok (.ifCond .eq 7, 3) := by decide +kernel
theorem dX11_posted_16 : decode cX11_posted 16 = .ok (.sipush (-1001), 3) := by decide +kernel
theorem dX11_posted_19 : decode cX11_posted 19 = .ok (.ireturn, 1) := by decide +kernel
theorem dX11_posted_20 : decode cX11_posted 20 = .ok (.sipush 300, 3) := by decide +kernel
theorem dX11_posted_23 : decode cX11_posted 23 = .ok (.istore_n 3, 1) := by decide +kernel
theorem dX11_posted_24 : decode cX11_posted 24 = .ok (.iload_n 3, 1) := by decide +kernel
theorem dX11_posted_25 : decode cX11_posted 25 = .ok (.ifCond .lt 21, 3) := by decide +kernel
theorem dX11_posted_28 : decode cX11_posted 28 = .ok (.aload_n 0, 1) := by decide +kernel
theorem dX11_posted_29 : decode cX11_posted 29 = .ok (.iload_n 1, 1) := by decide +kernel
theorem dX11_posted_30 : decode cX11_posted 30 = .ok (.iload_n 2, 1) := by decide +kernel
theorem dX11_posted_31 : decode cX11_posted 31 = .ok (.iconst 0, 1) := by decide +kernel
theorem dX11_posted_32 : decode cX11_posted 32 = .ok (.iload_n 3, 1) := by decide +kernel
theorem dX11_posted_33 : decode cX11_posted 33 = .ok (.iconst 0, 1) := by decide +kernel
theorem dX11_posted_34 : decode cX11_posted 34 = .ok (.invokevirtual 252, 3) := by decide +kernel
theorem dX11_posted_37 : decode cX11_posted 37 = .ok (.ifCond .ne 9, 3) := by decide +kernel
theorem dX11_posted_40 : decode cX11_posted 40 = .ok (.iinc 3 (-1), 3) := by decide +kernel
theorem dX11_posted_43 : decode cX11_posted 43 = .ok (.goto (-19), 3) := by decide +kernel
theorem dX11_posted_46 : decode cX11_posted 46 = .ok (.iload_n 3, 1) := by decide +kernel
theorem dX11_posted_47 : decode cX11_posted 47 = .ok (.ireturn, 1) := by decide +kernel
theorem dX11_spread_0 : decode cX11_spread 0 = .ok (.aload_n 0, 1) := by decide +kernel
theorem dX11_spread_1 : decode cX11_spread 1 = .ok (.iload_n 1, 1) := by decide +kernel
theorem dX11_spread_2 : decode cX11_spread 2 = .ok (.invokevirtual 158, 3) := by decide +kernel
theorem dX11_spread_5 : decode cX11_spread 5 = .ok (.ifCond .ne 11, 3) := by decide +kernel
theorem dX11_spread_8 : decode cX11_spread 8 = .ok (.aload_n 0, 1) := by decide +kernel
theorem dX11_spread_9 : decode cX11_spread 9 = .ok (.iload_n 2, 1) := by decide +kernel
theorem dX11_spread_10 : decode cX11_spread 10 = .ok (.invokevirtual 190, 3) := by decide +kernel
theorem dX11_spread_13 : decode cX11_spread 13 = .ok (.ifCond .eq 7, 3) := by decide +kernel
theorem dX11_spread_16 : decode cX11_spread 16 = .ok (.sipush (-1001), 3) := by decide +kernel
theorem dX11_spread_19 : decode cX11_spread 19 = .ok (.ireturn, 1) := by decide +kernel
theorem dX11_spread_20 : decode cX11_spread 20 = .ok (.iload_n 3, 1) := by decide +kernel
theorem dX11_spread_21 : decode cX11_spread 21 = .ok (.invokestatic 236, 3) := by decide +kernel
theorem dX11_spread_24 : decode cX11_spread 24 = .ok (.ifCond .ne 7, 3) := by decide +kernel
theorem dX11_spread_27 : decode cX11_spread 27 = .ok (.sipush (-1002), 3) := by decide +kernel
theorem dX11_spread_30 : decode cX11_spread 30 = .ok (.ireturn, 1) := by decide +kernel
theorem dX11_spread_31 : decode cX11_spread 31 = .ok (.iconst 0, 1) := by decide +kernel
theorem dX11_spread_32 : decode cX11_spread 32 = .ok (.istore 4, 2) := by decide +kernel
theorem dX11_spread_34 : decode cX11_spread 34 = .ok (.iload 4, 2) := by decide +kernel
theorem dX11_spread_36 : decode cX11_spread 36 = .ok (.bipush 20, 2) := by decide +kernel
theorem dX11_spread_38 : decode cX11_spread 38 = .ok (.if_icmp .gt 23, 3) := by decide +kernel
theorem dX11_spread_41 : decode cX11_spread 41 = .ok (.aload_n 0, 1) := by decide +kernel
theorem dX11_spread_42 : decode cX11_spread 42 = .ok (.iload_n 1, 1) := by decide +kernel
theorem dX11_spread_43 : decode cX11_spread 43 = .ok (.iload_n 2, 1) := by decide +kernel
theorem dX11_spread_44 : decode cX11_spread 44 = .ok (.iload_n 3, 1) := by decide +kernel
theorem dX11_spread_45 : decode cX11_spread 45 = .ok (.bipush 100, 2) := by decide +kernel
theorem dX11_spread_47 : decode cX11_spread 47 = .ok (.iload 4, 2) := by decide +kernel
theorem dX11_spread_49 : decode cX11_spread 49 = .ok (.invokevirtual 252, 3) := by decide +kernel
theorem dX11_spread_52 : decode cX11_spread 52 = .ok (.ifCond .ne 9, 3) := by decide +kernel
theorem dX11_spread_55 : decode cX11_spread 55 = .ok (.iinc 4 1, 3) := by decide +kernel
theorem dX11_spread_58 : decode cX11_spread 58 = .ok (.goto (-24), 3) := by decide +kernel
theorem dX11_spread_61 : decode cX11_spread 61 = .ok (.iload 4, 2) := by decide +kernel
theorem dX11_spread_63 : decode cX11_spread 63 = .ok (.bipush 20, 2) := by decide +kernel
theorem dX11_spread_65 : decode cX11_spread 65 = .ok (.if_icmp .le 7, 3) := by decide +kernel
theorem dX11_spread_68 : decode cX11_spread 68 = .ok (.iconst (-1), 1) := by decide +kernel
theorem dX11_spread_69 : decode cX11_spread 69 = .ok (.goto 5, 3) := by decide +kernel
theorem dX11_spread_72 : decode cX11_spread 72 = .ok (.iload 4, 2) := by decide +kernel
theorem dX11_spread_74 : decode cX11_spread 74 = .ok (.ireturn, 1) := by decide +kernel
theorem dX11_isTown_0 : decode cX11_isTown 0 = .ok (.iload_n 0, 1) := by decide +kernel
theorem dX11_isTown_1 : decode cX11_isTown 1 = .ok (.i2l, 1) := by decide +kernel
theorem dX11_isTown_2 : decode cX11_isTown 2 = .ok (.lconst 0, 1) := by decide +kernel
theorem dX11_isTown_3 : decode cX11_isTown 3 = .ok (.ldc2_w 256, 3) := by decide +kernel
theorem dX11_isTown_6 : decode cX11_isTown 6 = .ok (.invokestatic 133, 3) := by decide +kernel
theorem dX11_isTown_9 : decode cX11_isTown 9 = .ok (.ireturn, 1) := by decide +kernel
theorem dX11_road_0 : decode cX11_road 0 = .ok (.iload_n 1, 1) := by decide +kernel
theorem dX11_road_1 : decode cX11_road 1 = .ok (.invokestatic 258, 3) := by decide +kernel
theorem dX11_road_4 : decode cX11_road 4 = .ok (.ifCond .eq 25, 3) := by decide +kernel
theorem dX11_road_7 : decode cX11_road 7 = .ok (.iload_n 2, 1) := by decide +kernel
theorem dX11_road_8 : decode cX11_road 8 = .ok (.invokestatic 258, 3) := by decide +kernel
theorem dX11_road_11 : decode cX11_road 11 = .ok (.ifCond .eq 18, 3) := by decide +kernel
theorem dX11_road_14 : decode cX11_road 14 = .ok (.iload 4, 2) := by decide +kernel
theorem dX11_road_16 : decode cX11_road 16 = .ok (.iconst (-1), 1) := by decide +kernel
theorem dX11_road_17 : decode cX11_road 17 = .ok (.if_icmp .eq 16, 3) := by decide +kernel
theorem dX11_road_20 : decode cX11_road 20 = .ok (.aload_n 0, 1) := by decide +kernel
theorem dX11_road_21 : decode cX11_road 21 = .ok (.iload 4, 2) := by decide +kernel
theorem dX11_road_23 : decode cX11_road 23 = .ok (.invokevirtual 158, 3) := by decide +kernel
theorem dX11_road_26 : decode cX11_road 26 = .ok (.ifCond .eq 7, 3) := by decide +kernel
theorem dX11_road_29 : decode cX11_road 29 = .ok (.sipush (-1001), 3) := by decide +kernel
theorem dX11_road_32 : decode cX11_road 32 = .ok (.ireturn, 1) := by decide +kernel
theorem dX11_road_33 : decode cX11_road 33 = .ok (.iload_n 3, 1) := by decide +kernel
theorem dX11_road_34 : decode cX11_road 34 = .ok (.i2l, 1) := by decide +kernel
theorem dX11_road_35 : decode cX11_road 35 = .ok (.lconst 1, 1) := by decide +kernel
theorem dX11_road_36 : decode cX11_road 36 = .ok (.ldc2_w 261, 3) := by decide +kernel
theorem dX11_road_39 : decode cX11_road 39 = .ok (.invokestatic 133, 3) := by decide +kernel
theorem dX11_road_42 : decode cX11_road 42 = .ok (.ifCond .eq 8, 3) := by decide +kernel
theorem dX11_road_45 : decode cX11_road 45 = .ok (.iload_n 1, 1) := by decide +kernel
theorem dX11_road_46 : decode cX11_road 46 = .ok (.iload_n 2, 1) := by decide +kernel
theorem dX11_road_47 : decode cX11_road 47 = .ok (.if_icmp .ne 7, 3) := by decide +kernel
theorem dX11_road_50 : decode cX11_road 50 = .ok (.sipush (-1002), 3) := by decide +kernel
theorem dX11_road_53 : decode cX11_road 53 = .ok (.ireturn, 1) := by decide +kernel
theorem dX11_road_54 : decode cX11_road 54 = .ok (.aload_n 0, 1) := by decide +kernel
theorem dX11_road_55 : decode cX11_road 55 = .ok (.getfield 263, 3) := by decide +kernel
theorem dX11_road_58 : decode cX11_road 58 = .ok (.bipush 24, 2) := by decide +kernel
theorem dX11_road_60 : decode cX11_road 60 = .ok (.if_icmp .ne 7, 3) := by decide +kernel
theorem dX11_road_63 : decode cX11_road 63 = .ok (.sipush (-1004), 3) := by decide +kernel
theorem dX11_road_66 : decode cX11_road 66 = .ok (.ireturn, 1) := by decide +kernel
theorem dX11_road_67 : decode cX11_road 67 = .ok (.aload_n 0, 1) := by decide +kernel
theorem dX11_road_68 : decode cX11_road 68 = .ok (.getfield 81, 3) := by decide +kernel
theorem dX11_road_71 : decode cX11_road 71 = .ok (.aload_n 0, 1) := by decide +kernel
theorem dX11_road_72 : decode cX11_road 72 = .ok (.getfield 263, 3) := by decide +kernel
theorem dX11_road_75 : decode cX11_road 75 = .ok (.iload_n 1, 1) := by decide +kernel
theorem dX11_road_76 : decode cX11_road 76 = .ok (.iastore, 1) := by decide +kernel
theorem dX11_road_77 : decode cX11_road 77 = .ok (.aload_n 0, 1) := by decide +kernel
theorem dX11_road_78 : decode cX11_road 78 = .ok (.getfield 84, 3) := by decide +kernel
theorem dX11_road_81 : decode cX11_road 81 = .ok (.aload_n 0, 1) := by decide +kernel
theorem dX11_road_82 : decode cX11_road 82 = .ok (.getfield 263, 3) := by decide +kernel
theorem dX11_road_85 : decode cX11_road 85 = .ok (.iload_n 2, 1) := by decide +kernel
theorem dX11_road_86 : decode cX11_road 86 = .ok (.iastore, 1) := by decide +kernel
theorem dX11_road_87 : decode cX11_road 87 = .ok (.aload_n 0, 1) := by decide +kernel
theorem dX11_road_88 : decode cX11_road 88 = .ok (.getfield 87, 3) := by decide +kernel
theorem dX11_road_91 : decode cX11_road 91 = .ok (.aload_n 0, 1) := by decide +kernel
theorem dX11_road_92 : decode cX11_road 92 = .ok (.getfield 263, 3) := by decide +kernel
theorem dX11_road_95 : decode cX11_road 95 = .ok (.iload_n 3, 1) := by decide +kernel
theorem dX11_road_96 : decode cX11_road 96 = .ok (.iastore, 1) := by decide +kernel
theorem dX11_road_97 : decode cX11_road 97 = .ok (.aload_n 0, 1) := by decide +kernel
theorem dX11_road_98 : decode cX11_road 98 = .ok (.getfield 90, 3) := by decide +kernel
theorem dX11_road_101 : decode cX11_road 101 = .ok (.aload_n 0, 1) := by decide +kernel
theorem dX11_road_102 : decode cX11_road 102 = .ok (.getfield 263, 3) := by decide +kernel
theorem dX11_road_105 : decode cX11_road 105 = .ok (.iload 4, 2) := by decide +kernel
theorem dX11_road_107 : decode cX11_road 107 = .ok (.iastore, 1) := by decide +kernel
theorem dX11_road_108 : decode cX11_road 108 = .ok (.aload_n 0, 1) := by decide +kernel
theorem dX11_road_109 : decode cX11_road 109 = .ok (.dup, 1) := by decide +kernel
theorem dX11_road_110 : decode cX11_road 110 = .ok (.getfield 263, 3) := by decide +kernel
theorem dX11_road_113 : decode cX11_road 113 = .ok (.iconst 1, 1) := by decide +kernel
theorem dX11_road_114 : decode cX11_road 114 = .ok (.iadd, 1) := by decide +kernel
theorem dX11_road_115 : decode cX11_road 115 = .ok (.putfield 263, 3) := by decide +kernel
theorem dX11_road_118 : decode cX11_road 118 = .ok (.aload_n 0, 1) := by decide +kernel
theorem dX11_road_119 : decode cX11_road 119 = .ok (.getfield 263, 3) := by decide +kernel
theorem dX11_road_122 : decode cX11_road 122 = .ok (.iconst 1, 1) := by decide +kernel
theorem dX11_road_123 : decode cX11_road 123 = .ok (.isub, 1) := by decide +kernel
theorem dX11_road_124 : decode cX11_road 124 = .ok (.ireturn, 1) := by decide +kernel
theorem dX11_open_0 : decode cX11_open 0 = .ok (.iconst 0, 1) := by decide +kernel
theorem dX11_open_1 : decode cX11_open 1 = .ok (.istore 4, 2) := by decide +kernel
theorem dX11_open_3 : decode cX11_open 3 = .ok (.iload 4, 2) := by decide +kernel
theorem dX11_open_5 : decode cX11_open 5 = .ok (.aload_n 0, 1) := by decide +kernel
theorem dX11_open_6 : decode cX11_open 6 = .ok (.getfield 263, 3) := by decide +kernel
theorem dX11_open_9 : decode cX11_open 9 = .ok (.if_icmp .ge 51, 3) := by decide +kernel
theorem dX11_open_12 : decode cX11_open 12 = .ok (.aload_n 0, 1) := by decide +kernel
theorem dX11_open_13 : decode cX11_open 13 = .ok (.getfield 93, 3) := by decide +kernel
theorem dX11_open_16 : decode cX11_open 16 = .ok (.iload 4, 2) := by decide +kernel
theorem dX11_open_18 : decode cX11_open 18 = .ok (.iload_n 3, 1) := by decide +kernel
theorem dX11_open_19 : decode cX11_open 19 = .ok (.ifCond .ne 29, 3) := by decide +kernel
theorem dX11_open_22 : decode cX11_open 22 = .ok (.aload_n 0, 1) := by decide +kernel
theorem dX11_open_23 : decode cX11_open 23 = .ok (.getfield 90, 3) := by decide +kernel
theorem dX11_open_26 : decode cX11_open 26 = .ok (.iload 4, 2) := by decide +kernel
theorem dX11_open_28 : decode cX11_open 28 = .ok (.iaload, 1) := by decide +kernel
theorem dX11_open_29 : decode cX11_open 29 = .ok (.ifCond .lt 19, 3) := by decide +kernel
theorem dX11_open_32 : decode cX11_open 32 = .ok (.aload_n 0, 1) := by decide +kernel
theorem dX11_open_33 : decode cX11_open 33 = .ok (.aload_n 0, 1) := by decide +kernel
theorem dX11_open_34 : decode cX11_open 34 = .ok (.getfield 90, 3) := by decide +kernel
theorem dX11_open_37 : decode cX11_open 37 = .ok (.iload 4, 2) := by decide +kernel
theorem dX11_open_39 : decode cX11_open 39 = .ok (.iaload, 1) := by decide +kernel
theorem dX11_open_40 : decode cX11_open 40 = .ok (.iload_n 1, 1) := by decide +kernel
theorem dX11_open_41 : decode cX11_open 41 = .ok (.iload_n 2, 1) := by decide +kernel
theorem dX11_open_42 : decode cX11_open 42 = .ok (.invokevirtual 248, 3) := by decide +kernel
theorem dX11_open_45 : decode cX11_open 45 = .ok (.ifCond .ge 7, 3) := by decide +kernel
theorem dX11_open_48 : decode cX11_open 48 = .ok (.iconst 1, 1) := by decide +kernel
theorem dX11_open_49 : decode cX11_open 49 = .ok (.goto 4, 3) := by decide +kernel
theorem dX11_open_52 : decode cX11_open 52 = .ok (.iconst 0, 1) := by decide +kernel
theorem dX11_open_53 : decode cX11_open 53 = .ok (.bastore, 1) := by decide +kernel
theorem dX11_open_54 : decode cX11_open 54 = .ok (.iinc 4 1, 3) := by decide +kernel
theorem dX11_open_57 : decode cX11_open 57 = .ok (.goto (-54), 3) := by decide +kernel
theorem dX11_open_60 : decode cX11_open 60 = .ok (.return_, 1) := by decide +kernel
theorem dX11_beyond_0 : decode cX11_beyond 0 = .ok (.aload_n 0, 1) := by decide +kernel
theorem dX11_beyond_1 : decode cX11_beyond 1 = .ok (.getfield 81, 3) := by decide +kernel
theorem dX11_beyond_4 : decode cX11_beyond 4 = .ok (.iload_n 1, 1) := by decide +kernel
theorem dX11_beyond_5 : decode cX11_beyond 5 = .ok (.iaload, 1) := by decide +kernel
theorem dX11_beyond_6 : decode cX11_beyond 6 = .ok (.iload_n 2, 1) := by decide +kernel
theorem dX11_beyond_7 : decode cX11_beyond 7 = .ok (.if_icmp .ne 12, 3) := by decide +kernel
theorem dX11_beyond_10 : decode cX11_beyond 10 = .ok (.aload_n 0, 1) := by decide +kernel
theorem dX11_beyond_11 : decode cX11_beyond 11 = .ok (.getfield 84, 3) := by decide +kernel
theorem dX11_beyond_14 : decode cX11_beyond 14 = .ok (.iload_n 1, 1) := by decide +kernel
theorem dX11_beyond_15 : decode cX11_beyond 15 = .ok (.iaload, 1) := by decide +kernel
theorem dX11_beyond_16 : decode cX11_beyond 16 = .ok (.goto 23, 3) := by decide +kernel
theorem dX11_beyond_19 : decode cX11_beyond 19 = .ok (.aload_n 0, 1) := by decide +kernel
theorem dX11_beyond_20 : decode cX11_beyond 20 = .ok (.getfield 84, 3) := by decide +kernel
theorem dX11_beyond_23 : decode cX11_beyond 23 = .ok (.iload_n 1, 1) := by decide +kernel
theorem dX11_beyond_24 : decode cX11_beyond 24 = .ok (.iaload, 1) := by decide +kernel
theorem dX11_beyond_25 : decode cX11_beyond 25 = .ok (.iload_n 2, 1) := by decide +kernel
theorem dX11_beyond_26 : decode cX11_beyond 26 = .ok (.if_icmp .ne 12, 3) := by decide +kernel
theorem dX11_beyond_29 : decode cX11_beyond 29 = .ok (.aload_n 0, 1) := by decide +kernel
theorem dX11_beyond_30 : decode cX11_beyond 30 = .ok (.getfield 81, 3) := by decide +kernel
theorem dX11_beyond_33 : decode cX11_beyond 33 = .ok (.iload_n 1, 1) := by decide +kernel
theorem dX11_beyond_34 : decode cX11_beyond 34 = .ok (.iaload, 1) := by decide +kernel
theorem dX11_beyond_35 : decode cX11_beyond 35 = .ok (.goto 4, 3) := by decide +kernel
theorem dX11_beyond_38 : decode cX11_beyond 38 = .ok (.iconst (-1), 1) := by decide +kernel
theorem dX11_beyond_39 : decode cX11_beyond 39 = .ok (.ireturn, 1) := by decide +kernel
theorem dX11_findFar_0 : decode cX11_findFar 0 = .ok (.iconst 0, 1) := by decide +kernel
theorem dX11_findFar_1 : decode cX11_findFar 1 = .ok (.istore_n 2, 1) := by decide +kernel
theorem dX11_findFar_2 : decode cX11_findFar 2 = .ok (.iload_n 2, 1) := by decide +kernel
theorem dX11_findFar_3 : decode cX11_findFar 3 = .ok (.bipush 10, 2) := by decide +kernel
theorem dX11_findFar_5 : decode cX11_findFar 5 = .ok (.if_icmp .ge 32, 3) := by decide +kernel
theorem dX11_findFar_8 : decode cX11_findFar 8 = .ok (.aload_n 0, 1) := by decide +kernel
theorem dX11_findFar_9 : decode cX11_findFar 9 = .ok (.getfield 97, 3) := by decide +kernel
theorem dX11_findFar_12 : decode cX11_findFar 12 = .ok (.iload_n 2, 1) := by decide +kernel
theorem dX11_findFar_13 : decode cX11_findFar 13 = .ok (.iload_n 2, 1) := by decide +kernel
theorem dX11_findFar_14 : decode cX11_findFar 14 = .ok (.iload_n 1, 1) := by decide +kernel
theorem dX11_findFar_15 : decode cX11_findFar 15 = .ok (.if_icmp .ne 7, 3) := by decide +kernel
theorem dX11_findFar_18 : decode cX11_findFar 18 = .ok (.iconst 0, 1) := by decide +kernel
theorem dX11_findFar_19 : decode cX11_findFar 19 = .ok (.goto 4, 3) := by decide +kernel
theorem dX11_findFar_22 : decode cX11_findFar 22 = .ok (.iconst (-1), 1) := by decide +kernel
theorem dX11_findFar_23 : decode cX11_findFar 23 = .ok (.iastore, 1) := by decide +kernel
theorem dX11_findFar_24 : decode cX11_findFar 24 = .ok (.aload_n 0, 1) := by decide +kernel
theorem dX11_findFar_25 : decode cX11_findFar 25 = .ok (.getfield 100, 3) := by decide +kernel
theorem dX11_findFar_28 : decode cX11_findFar 28 = .ok (.iload_n 2, 1) := by decide +kernel
theorem dX11_findFar_29 : decode cX11_findFar 29 = .ok (.iconst 0, 1) := by decide +kernel
theorem dX11_findFar_30 : decode cX11_findFar 30 = .ok (.iastore, 1) := by decide +kernel
theorem dX11_findFar_31 : decode cX11_findFar 31 = .ok (.iinc 2 1, 3) := by decide +kernel
theorem dX11_findFar_34 : decode cX11_findFar 34 = .ok (.goto (-32), 3) := by decide +kernel
theorem dX11_findFar_37 : decode cX11_findFar 37 = .ok (.iconst 1, 1) := by decide +kernel
theorem dX11_findFar_38 : decode cX11_findFar 38 = .ok (.istore_n 2, 1) := by decide +kernel
theorem dX11_findFar_39 : decode cX11_findFar 39 = .ok (.iload_n 2, 1) := by decide +kernel
theorem dX11_findFar_40 : decode cX11_findFar 40 = .ok (.ifCond .eq 210, 3) := by decide +kernel
theorem dX11_findFar_43 : decode cX11_findFar 43 = .ok (.iconst 0, 1) := by decide +kernel
theorem dX11_findFar_44 : decode cX11_findFar 44 = .ok (.istore_n 2, 1) := by decide +kernel
theorem dX11_findFar_45 : decode cX11_findFar 45 = .ok (.iconst 0, 1) := by decide +kernel
theorem dX11_findFar_46 : decode cX11_findFar 46 = .ok (.istore_n 3, 1) := by decide +kernel
theorem dX11_findFar_47 : decode cX11_findFar 47 = .ok (.iload_n 3, 1) := by decide +kernel
theorem dX11_findFar_48 : decode cX11_findFar 48 = .ok (.aload_n 0, 1) := by decide +kernel
theorem dX11_findFar_49 : decode cX11_findFar 49 = .ok (.getfield 263, 3) := by decide +kernel
theorem dX11_findFar_52 : decode cX11_findFar 52 = .ok (.if_icmp .ge 195, 3) := by decide +kernel
theorem dX11_findFar_55 : decode cX11_findFar 55 = .ok (.iconst 0, 1) := by decide +kernel
theorem dX11_findFar_56 : decode cX11_findFar 56 = .ok (.istore 4, 2) := by decide +kernel
theorem dX11_findFar_58 : decode cX11_findFar 58 = .ok (.iload 4, 2) := by decide +kernel
theorem dX11_findFar_60 : decode cX11_findFar 60 = .ok (.iconst 2, 1) := by decide +kernel
theorem dX11_findFar_61 : decode cX11_findFar 61 = .ok (.if_icmp .ge 180, 3) := by decide +kernel
theorem dX11_findFar_64 : decode cX11_findFar 64 = .ok (.aload_n 0, 1) := by decide +kernel
theorem dX11_findFar_65 : decode cX11_findFar 65 = .ok (.getfield 93, 3) := by decide +kernel
theorem dX11_findFar_68 : decode cX11_findFar 68 = .ok (.iload_n 3, 1) := by decide +kernel
theorem dX11_findFar_69 : decode cX11_findFar 69 = .ok (.baload, 1) := by decide +kernel
theorem dX11_findFar_70 : decode cX11_findFar 70 = .ok (.ifCond .eq 171, 3) := by decide +kernel
theorem dX11_findFar_73 : decode cX11_findFar 73 = .ok (.iload 4, 2) := by decide +kernel
theorem dX11_findFar_75 : decode cX11_findFar 75 = .ok (.ifCond .ne 12, 3) := by decide +kernel
theorem dX11_findFar_78 : decode cX11_findFar 78 = .ok (.aload_n 0, 1) := by decide +kernel
theorem dX11_findFar_79 : decode cX11_findFar 79 = .ok (.getfield 81, 3) := by decide +kernel
theorem dX11_findFar_82 : decode cX11_findFar 82 = .ok (.iload_n 3, 1) := by decide +kernel
theorem dX11_findFar_83 : decode cX11_findFar 83 = .ok (.iaload, 1) := by decide +kernel
theorem dX11_findFar_84 : decode cX11_findFar 84 = .ok (.goto 9, 3) := by decide +kernel
theorem dX11_findFar_87 : decode cX11_findFar 87 = .ok (.aload_n 0, 1) := by decide +kernel
theorem dX11_findFar_88 : decode cX11_findFar 88 = .ok (.getfield 84, 3) := by decide +kernel
theorem dX11_findFar_91 : decode cX11_findFar 91 = .ok (.iload_n 3, 1) := by decide +kernel
theorem dX11_findFar_92 : decode cX11_findFar 92 = .ok (.iaload, 1) := by decide +kernel
theorem dX11_findFar_93 : decode cX11_findFar 93 = .ok (.istore 5, 2) := by decide +kernel
theorem dX11_findFar_95 : decode cX11_findFar 95 = .ok (.iload 4, 2) := by decide +kernel
theorem dX11_findFar_97 : decode cX11_findFar 97 = .ok (.ifCond .ne 12, 3) := by decide +kernel
theorem dX11_findFar_100 : decode cX11_findFar 100 = .ok (.aload_n 0, 1) := by decide +kernel
theorem dX11_findFar_101 : decode cX11_findFar 101 = .ok (.getfield 84, 3) := by decide +kernel
theorem dX11_findFar_104 : decode cX11_findFar 104 = .ok (.iload_n 3, 1) := by decide +kernel
theorem dX11_findFar_105 : decode cX11_findFar 105 = .ok (.iaload, 1) := by decide +kernel
theorem dX11_findFar_106 : decode cX11_findFar 106 = .ok (.goto 9, 3) := by decide +kernel
theorem dX11_findFar_109 : decode cX11_findFar 109 = .ok (.aload_n 0, 1) := by decide +kernel
theorem dX11_findFar_110 : decode cX11_findFar 110 = .ok (.getfield 81, 3) := by decide +kernel
theorem dX11_findFar_113 : decode cX11_findFar 113 = .ok (.iload_n 3, 1) := by decide +kernel
theorem dX11_findFar_114 : decode cX11_findFar 114 = .ok (.iaload, 1) := by decide +kernel
theorem dX11_findFar_115 : decode cX11_findFar 115 = .ok (.istore 6, 2) := by decide +kernel
theorem dX11_findFar_117 : decode cX11_findFar 117 = .ok (.aload_n 0, 1) := by decide +kernel
theorem dX11_findFar_118 : decode cX11_findFar 118 = .ok (.getfield 97, 3) := by decide +kernel
theorem dX11_findFar_121 : decode cX11_findFar 121 = .ok (.iload 5, 2) := by decide +kernel
theorem dX11_findFar_123 : decode cX11_findFar 123 = .ok (.iaload, 1) := by decide +kernel
theorem dX11_findFar_124 : decode cX11_findFar 124 = .ok (.aload_n 0, 1) := by decide +kernel
theorem dX11_findFar_125 : decode cX11_findFar 125 = .ok (.getfield 87, 3) := by decide +kernel
theorem dX11_findFar_128 : decode cX11_findFar 128 = .ok (.iload_n 3, 1) := by decide +kernel
theorem dX11_findFar_129 : decode cX11_findFar 129 = .ok (.iaload, 1) := by decide +kernel
theorem dX11_findFar_130 : decode cX11_findFar 130 = .ok (.iadd, 1) := by decide +kernel
theorem dX11_findFar_131 : decode cX11_findFar 131 = .ok (.istore 7, 2) := by decide +kernel
theorem dX11_findFar_133 : decode cX11_findFar 133 = .ok (.aload_n 0, 1) := by decide +kernel
theorem dX11_findFar_134 : decode cX11_findFar 134 = .ok (.getfield 97, 3) := by decide +kernel
theorem dX11_findFar_137 : decode cX11_findFar 137 = .ok (.iload 5, 2) := by decide +kernel
theorem dX11_findFar_139 : decode cX11_findFar 139 = .ok (.iaload, 1) := by decide +kernel
theorem dX11_findFar_140 : decode cX11_findFar 140 = .ok (.ifCond .lt 60, 3) := by decide +kernel
theorem dX11_findFar_143 : decode cX11_findFar 143 = .ok (.aload_n 0, 1) := by decide +kernel
theorem dX11_findFar_144 : decode cX11_findFar 144 = .ok (.getfield 97, 3) := by decide +kernel
theorem dX11_findFar_147 : decode cX11_findFar 147 = .ok (.iload 6, 2) := by decide +kernel
theorem dX11_findFar_149 : decode cX11_findFar 149 = .ok (.iaload, 1) := by decide +kernel
theorem dX11_findFar_150 : decode cX11_findFar 150 = .ok (.ifCond .lt 46, 3) := by decide +kernel
theorem dX11_findFar_153 : decode cX11_findFar 153 = .ok (.iload 7, 2) := by decide +kernel
theorem dX11_findFar_155 : decode cX11_findFar 155 = .ok (.aload_n 0, 1) := by decide +kernel
theorem dX11_findFar_156 : decode cX11_findFar 156 = .ok (.getfield 97, 3) := by decide +kernel
theorem dX11_findFar_159 : decode cX11_findFar 159 = .ok (.iload 6, 2) := by decide +kernel
theorem dX11_findFar_161 : decode cX11_findFar 161 = .ok (.iaload, 1) := by decide +kernel
theorem dX11_findFar_162 : decode cX11_findFar 162 = .ok (.if_icmp .lt 34, 3) := by decide +kernel
theorem dX11_findFar_165 : decode cX11_findFar 165 = .ok (.iload 7, 2) := by decide +kernel
theorem dX11_findFar_167 : decode cX11_findFar 167 = .ok (.aload_n 0, 1) := by decide +kernel
theorem dX11_findFar_168 : decode cX11_findFar 168 = .ok (.getfield 97, 3) := by decide +kernel
theorem dX11_findFar_171 : decode cX11_findFar 171 = .ok (.iload 6, 2) := by decide +kernel
theorem dX11_findFar_173 : decode cX11_findFar 173 = .ok (.iaload, 1) := by decide +kernel
theorem dX11_findFar_174 : decode cX11_findFar 174 = .ok (.if_icmp .ne 26, 3) := by decide +kernel
theorem dX11_findFar_177 : decode cX11_findFar 177 = .ok (.aload_n 0, 1) := by decide +kernel
theorem dX11_findFar_178 : decode cX11_findFar 178 = .ok (.getfield 100, 3) := by decide +kernel
theorem dX11_findFar_181 : decode cX11_findFar 181 = .ok (.iload 5, 2) := by decide +kernel
theorem dX11_findFar_183 : decode cX11_findFar 183 = .ok (.iaload, 1) := by decide +kernel
theorem dX11_findFar_184 : decode cX11_findFar 184 = .ok (.iconst 1, 1) := by decide +kernel
theorem dX11_findFar_185 : decode cX11_findFar 185 = .ok (.iadd, 1) := by decide +kernel
theorem dX11_findFar_186 : decode cX11_findFar 186 = .ok (.aload_n 0, 1) := by decide +kernel
theorem dX11_findFar_187 : decode cX11_findFar 187 = .ok (.getfield 100, 3) := by decide +kernel
theorem dX11_findFar_190 : decode cX11_findFar 190 = .ok (.iload 6, 2) := by decide +kernel
theorem dX11_findFar_192 : decode cX11_findFar 192 = .ok (.iaload, 1) := by decide +kernel
theorem dX11_findFar_193 : decode cX11_findFar 193 = .ok (.if_icmp .ge 7, 3) := by decide +kernel
theorem dX11_findFar_196 : decode cX11_findFar 196 = .ok (.iconst 1, 1) := by decide +kernel
theorem dX11_findFar_197 : decode cX11_findFar 197 = .ok (.goto 4, 3) := by decide +kernel
theorem dX11_findFar_200 : decode cX11_findFar 200 = .ok (.iconst 0, 1) := by decide +kernel
theorem dX11_findFar_201 : decode cX11_findFar 201 = .ok (.istore 8, 2) := by decide +kernel
theorem dX11_findFar_203 : decode cX11_findFar 203 = .ok (.iload 8, 2) := by decide +kernel
theorem dX11_findFar_205 : decode cX11_findFar 205 = .ok (.ifCond .eq 30, 3) := by decide +kernel
theorem dX11_findFar_208 : decode cX11_findFar 208 = .ok (.aload_n 0, 1) := by decide +kernel
theorem dX11_findFar_209 : decode cX11_findFar 209 = .ok (.getfield 97, 3) := by decide +kernel
theorem dX11_findFar_212 : decode cX11_findFar 212 = .ok (.iload 6, 2) := by decide +kernel
theorem dX11_findFar_214 : decode cX11_findFar 214 = .ok (.iload 7, 2) := by decide +kernel
theorem dX11_findFar_216 : decode cX11_findFar 216 = .ok (.iastore, 1) := by decide +kernel
theorem dX11_findFar_217 : decode cX11_findFar 217 = .ok (.aload_n 0, 1) := by decide +kernel
theorem dX11_findFar_218 : decode cX11_findFar 218 = .ok (.getfield 100, 3) := by decide +kernel
theorem dX11_findFar_221 : decode cX11_findFar 221 = .ok (.iload 6, 2) := by decide +kernel
theorem dX11_findFar_223 : decode cX11_findFar 223 = .ok (.aload_n 0, 1) := by decide +kernel
theorem dX11_findFar_224 : decode cX11_findFar 224 = .ok (.getfield 100, 3) := by decide +kernel
theorem dX11_findFar_227 : decode cX11_findFar 227 = .ok (.iload 5, 2) := by decide +kernel
theorem dX11_findFar_229 : decode cX11_findFar 229 = .ok (.iaload, 1) := by decide +kernel
theorem dX11_findFar_230 : decode cX11_findFar 230 = .ok (.iconst 1, 1) := by decide +kernel
theorem dX11_findFar_231 : decode cX11_findFar 231 = .ok (.iadd, 1) := by decide +kernel
theorem dX11_findFar_232 : decode cX11_findFar 232 = .ok (.iastore, 1) := by decide +kernel
theorem dX11_findFar_233 : decode cX11_findFar 233 = .ok (.iconst 1, 1) := by decide +kernel
theorem dX11_findFar_234 : decode cX11_findFar 234 = .ok (.istore_n 2, 1) := by decide +kernel
theorem dX11_findFar_235 : decode cX11_findFar 235 = .ok (.iinc 4 1, 3) := by decide +kernel
theorem dX11_findFar_238 : decode cX11_findFar 238 = .ok (.goto (-180), 3) := by decide +kernel
theorem dX11_findFar_241 : decode cX11_findFar 241 = .ok (.iinc 3 1, 3) := by decide +kernel
theorem dX11_findFar_244 : decode cX11_findFar 244 = .ok (.goto (-197), 3) := by decide +kernel
theorem dX11_findFar_247 : decode cX11_findFar 247 = .ok (.goto (-208), 3) := by decide +kernel
theorem dX11_findFar_250 : decode cX11_findFar 250 = .ok (.return_, 1) := by decide +kernel
theorem dX11_layRoute_0 : decode cX11_layRoute 0 = .ok (.aload_n 0, 1) := by decide +kernel
theorem dX11_layRoute_1 : decode cX11_layRoute 1 = .ok (.iload_n 2, 1) := by decide +kernel
theorem dX11_layRoute_2 : decode cX11_layRoute 2 = .ok (.invokevirtual 266, 3) := by decide +kernel
theorem dX11_layRoute_5 : decode cX11_layRoute 5 = .ok (.aload_n 0, 1) := by decide +kernel
theorem dX11_layRoute_6 : decode cX11_layRoute 6 = .ok (.getfield 97, 3) := by decide +kernel
theorem dX11_layRoute_9 : decode cX11_layRoute 9 = .ok (.iload_n 1, 1) := by decide +kernel
theorem dX11_layRoute_10 : decode cX11_layRoute 10 = .ok (.iaload, 1) := by decide +kernel
theorem dX11_layRoute_11 : decode cX11_layRoute 11 = .ok (.ifCond .ge 5, 3) := by decide +kernel
theorem dX11_layRoute_14 : decode cX11_layRoute 14 = .ok (.iconst (-1), 1) := by decide +kernel
theorem dX11_layRoute_15 : decode cX11_layRoute 15 = .ok (.ireturn, 1) := by decide +kernel
theorem dX11_layRoute_16 : decode cX11_layRoute 16 = .ok (.iload_n 1, 1) := by decide +kernel
theorem dX11_layRoute_17 : decode cX11_layRoute 17 = .ok (.istore_n 3, 1) := by decide +kernel
theorem dX11_layRoute_18 : decode cX11_layRoute 18 = .ok (.iconst 0, 1) := by decide +kernel
theorem dX11_layRoute_19 : decode cX11_layRoute 19 = .ok (.istore 4, 2) := by decide +kernel
theorem dX11_layRoute_21 : decode cX11_layRoute 21 = .ok (.iload_n 3, 1) := by decide +kernel
theorem dX11_layRoute_22 : decode cX11_layRoute 22 = .ok (.iload_n 2, 1) := by decide +kernel
theorem dX11_layRoute_23 : decode cX11_layRoute 23 = .ok (.if_icmp .eq 142, 3) := by decide +kernel
theorem dX11_layRoute_26 : decode cX11_layRoute 26 = .ok (.iconst 0, 1) := by decide +kernel
theorem dX11_layRoute_27 : decode cX11_layRoute 27 = .ok (.istore 5, 2) := by decide +kernel
theorem dX11_layRoute_29 : decode cX11_layRoute 29 = .ok (.iconst 0, 1) := by decide +kernel
theorem dX11_layRoute_30 : decode cX11_layRoute 30 = .ok (.istore 6, 2) := by decide +kernel
theorem dX11_layRoute_32 : decode cX11_layRoute 32 = .ok (.iload 6, 2) := by decide +kernel
theorem dX11_layRoute_34 : decode cX11_layRoute 34 = .ok (.ifCond .ne 108, 3) := by decide +kernel
theorem dX11_layRoute_37 : decode cX11_layRoute 37 = .ok (.aload_n 0, 1) := by decide +kernel
theorem dX11_layRoute_38 : decode cX11_layRoute 38 = .ok (.getfield 93, 3) := by decide +kernel
theorem dX11_layRoute_41 : decode cX11_layRoute 41 = .ok (.iload 5, 2) := by decide +kernel
theorem dX11_layRoute_43 : decode cX11_layRoute 43 = .ok (.baload, 1) := by decide +kernel
theorem dX11_layRoute_44 : decode cX11_layRoute 44 = .ok (.ifCond .eq 13, 3) := by decide +kernel
theorem dX11_layRoute_47 : decode cX11_layRoute 47 = .ok (.aload_n 0, 1) := by decide +kernel
theorem dX11_layRoute_48 : decode cX11_layRoute 48 = .ok (.iload 5, 2) := by decide +kernel
theorem dX11_layRoute_50 : decode cX11_layRoute 50 = .ok (.iload_n 3, 1) := by decide +kernel
theorem dX11_layRoute_51 : decode cX11_layRoute 51 = .ok (.invokevirtual 270, 3) := by decide +kernel
theorem dX11_layRoute_54 : decode cX11_layRoute 54 = .ok (.goto 4, 3) := by decide +kernel
theorem dX11_layRoute_57 : decode cX11_layRoute 57 = .ok (.iconst (-1), 1) := by decide +kernel
theorem dX11_layRoute_58 : decode cX11_layRoute 58 = .ok (.istore 7, 2) := by decide +kernel
theorem dX11_layRoute_60 : decode cX11_layRoute 60 = .ok (.iload 7, 2) := by decide +kernel
theorem dX11_layRoute_62 : decode cX11_layRoute 62 = .ok (.ifCond .lt 59, 3) := by decide +kernel
theorem dX11_layRoute_65 : decode cX11_layRoute 65 = .ok (.aload_n 0, 1) := by decide +kernel
theorem dX11_layRoute_66 : decode cX11_layRoute 66 = .ok (.getfield 97, 3) := by decide +kernel
theorem dX11_layRoute_69 : decode cX11_layRoute 69 = .ok (.iload 7, 2) := by decide +kernel
theorem dX11_layRoute_71 : decode cX11_layRoute 71 = .ok (.iaload, 1) := by decide +kernel
theorem dX11_layRoute_72 : decode cX11_layRoute 72 = .ok (.ifCond .lt 49, 3) := by decide +kernel
theorem dX11_layRoute_75 : decode cX11_layRoute 75 = .ok (.aload_n 0, 1) := by decide +kernel
theorem dX11_layRoute_76 : decode cX11_layRoute 76 = .ok (.getfield 97, 3) := by decide +kernel
theorem dX11_layRoute_79 : decode cX11_layRoute 79 = .ok (.iload 7, 2) := by decide +kernel
theorem dX11_layRoute_81 : decode cX11_layRoute 81 = .ok (.iaload, 1) := by decide +kernel
theorem dX11_layRoute_82 : decode cX11_layRoute 82 = .ok (.aload_n 0, 1) := by decide +kernel
theorem dX11_layRoute_83 : decode cX11_layRoute 83 = .ok (.getfield 87, 3) := by decide +kernel
theorem dX11_layRoute_86 : decode cX11_layRoute 86 = .ok (.iload 5, 2) := by decide +kernel
theorem dX11_layRoute_88 : decode cX11_layRoute 88 = .ok (.iaload, 1) := by decide +kernel
theorem dX11_layRoute_89 : decode cX11_layRoute 89 = .ok (.iadd, 1) := by decide +kernel
theorem dX11_layRoute_90 : decode cX11_layRoute 90 = .ok (.aload_n 0, 1) := by decide +kernel
theorem dX11_layRoute_91 : decode cX11_layRoute 91 = .ok (.getfield 97, 3) := by decide +kernel
theorem dX11_layRoute_94 : decode cX11_layRoute 94 = .ok (.iload_n 3, 1) := by decide +kernel
theorem dX11_layRoute_95 : decode cX11_layRoute 95 = .ok (.iaload, 1) := by decide +kernel
theorem dX11_layRoute_96 : decode cX11_layRoute 96 = .ok (.if_icmp .ne 25, 3) := by decide +kernel
theorem dX11_layRoute_99 : decode cX11_layRoute 99 = .ok (.aload_n 0, 1) := by decide +kernel
theorem dX11_layRoute_100 : decode cX11_layRoute 100 = .ok (.getfield 100, 3) := by decide +kernel
theorem dX11_layRoute_103 : decode cX11_layRoute 103 = .ok (.iload 7, 2) := by decide +kernel
theorem dX11_layRoute_105 : decode cX11_layRoute 105 = .ok (.iaload, 1) := by decide +kernel
theorem dX11_layRoute_106 : decode cX11_layRoute 106 = .ok (.iconst 1, 1) := by decide +kernel
theorem dX11_layRoute_107 : decode cX11_layRoute 107 = .ok (.iadd, 1) := by decide +kernel
theorem dX11_layRoute_108 : decode cX11_layRoute 108 = .ok (.aload_n 0, 1) := by decide +kernel
theorem dX11_layRoute_109 : decode cX11_layRoute 109 = .ok (.getfield 100, 3) := by decide +kernel
theorem dX11_layRoute_112 : decode cX11_layRoute 112 = .ok (.iload_n 3, 1) := by decide +kernel
theorem dX11_layRoute_113 : decode cX11_layRoute 113 = .ok (.iaload, 1) := by decide +kernel
theorem dX11_layRoute_114 : decode cX11_layRoute 114 = .ok (.if_icmp .ne 7, 3) := by decide +kernel
theorem dX11_layRoute_117 : decode cX11_layRoute 117 = .ok (.iconst 1, 1) := by decide +kernel
theorem dX11_layRoute_118 : decode cX11_layRoute 118 = .ok (.goto 4, 3) := by decide +kernel
theorem dX11_layRoute_121 : decode cX11_layRoute 121 = .ok (.iconst 0, 1) := by decide +kernel
theorem dX11_layRoute_122 : decode cX11_layRoute 122 = .ok (.istore 6, 2) := by decide +kernel
theorem dX11_layRoute_124 : decode cX11_layRoute 124 = .ok (.iload 5, 2) := by decide +kernel
theorem dX11_layRoute_126 : decode cX11_layRoute 126 = .ok (.iload 6, 2) := by decide +kernel
theorem dX11_layRoute_128 : decode cX11_layRoute 128 = .ok (.ifCond .eq 7, 3) := by decide +kernel
theorem dX11_layRoute_131 : decode cX11_layRoute 131 = .ok (.iconst 0, 1) := by decide +kernel
theorem dX11_layRoute_132 : decode cX11_layRoute 132 = .ok (.goto 4, 3) := by decide +kernel
theorem dX11_layRoute_135 : decode cX11_layRoute 135 = .ok (.iconst 1, 1) := by decide +kernel
theorem dX11_layRoute_136 : decode cX11_layRoute 136 = .ok (.iadd, 1) := by decide +kernel
theorem dX11_layRoute_137 : decode cX11_layRoute 137 = .ok (.istore 5, 2) := by decide +kernel
theorem dX11_layRoute_139 : decode cX11_layRoute 139 = .ok (.goto (-107), 3) := by decide +kernel
theorem dX11_layRoute_142 : decode cX11_layRoute 142 = .ok (.aload_n 0, 1) := by decide +kernel
theorem dX11_layRoute_143 : decode cX11_layRoute 143 = .ok (.getfield 103, 3) := by decide +kernel
theorem dX11_layRoute_146 : decode cX11_layRoute 146 = .ok (.iload 4, 2) := by decide +kernel
theorem dX11_layRoute_148 : decode cX11_layRoute 148 = .ok (.iload 5, 2) := by decide +kernel
theorem dX11_layRoute_150 : decode cX11_layRoute 150 = .ok (.iastore, 1) := by decide +kernel
theorem dX11_layRoute_151 : decode cX11_layRoute 151 = .ok (.iinc 4 1, 3) := by decide +kernel
theorem dX11_layRoute_154 : decode cX11_layRoute 154 = .ok (.aload_n 0, 1) := by decide +kernel
theorem dX11_layRoute_155 : decode cX11_layRoute 155 = .ok (.iload 5, 2) := by decide +kernel
theorem dX11_layRoute_157 : decode cX11_layRoute 157 = .ok (.iload_n 3, 1) := by decide +kernel
theorem dX11_layRoute_158 : decode cX11_layRoute 158 = .ok (.invokevirtual 270, 3) := by decide +kernel
theorem dX11_layRoute_161 : decode cX11_layRoute 161 = .ok (.istore_n 3, 1) := by decide +kernel
theorem dX11_layRoute_162 : decode cX11_layRoute 162 = .ok (.goto (-141), 3) := by decide +kernel
theorem dX11_layRoute_165 : decode cX11_layRoute 165 = .ok (.iload 4, 2) := by decide +kernel
theorem dX11_layRoute_167 : decode cX11_layRoute 167 = .ok (.ireturn, 1) := by decide +kernel
theorem dX11_route_0 : decode cX11_route 0 = .ok (.aload_n 0, 1) := by decide +kernel
theorem dX11_route_1 : decode cX11_route 1 = .ok (.iload_n 1, 1) := by decide +kernel
theorem dX11_route_2 : decode cX11_route 2 = .ok (.invokevirtual 190, 3) := by decide +kernel
theorem dX11_route_5 : decode cX11_route 5 = .ok (.ifCond .ne 18, 3) := by decide +kernel
theorem dX11_route_8 : decode cX11_route 8 = .ok (.iload_n 3, 1) := by decide +kernel
theorem dX11_route_9 : decode cX11_route 9 = .ok (.invokestatic 258, 3) := by decide +kernel
theorem dX11_route_12 : decode cX11_route 12 = .ok (.ifCond .eq 11, 3) := by decide +kernel
theorem dX11_route_15 : decode cX11_route 15 = .ok (.iload 4, 2) := by decide +kernel
theorem dX11_route_17 : decode cX11_route 17 = .ok (.invokestatic 258, 3) := by decide +kernel
theorem dX11_route_20 : decode cX11_route 20 = .ok (.ifCond .ne 7, 3) := by decide +kernel
theorem dX11_route_23 : decode cX11_route 23 = .ok (.sipush (-1001), 3) := by decide +kernel
theorem dX11_route_26 : decode cX11_route 26 = .ok (.ireturn, 1) := by decide +kernel
theorem dX11_route_27 : decode cX11_route 27 = .ok (.iload_n 2, 1) := by decide +kernel
theorem dX11_route_28 : decode cX11_route 28 = .ok (.invokestatic 236, 3) := by decide +kernel
theorem dX11_route_31 : decode cX11_route 31 = .ok (.ifCond .eq 22, 3) := by decide +kernel
theorem dX11_route_34 : decode cX11_route 34 = .ok (.iload 5, 2) := by decide +kernel
theorem dX11_route_36 : decode cX11_route 36 = .ok (.i2l, 1) := by decide +kernel
theorem dX11_route_37 : decode cX11_route 37 = .ok (.lconst 0, 1) := by decide +kernel
theorem dX11_route_38 : decode cX11_route 38 = .ok (.ldc2_w 273, 3) := by decide +kernel
theorem dX11_route_41 : decode cX11_route 41 = .ok (.invokestatic 133, 3) := by decide +kernel
theorem dX11_route_44 : decode cX11_route 44 = .ok (.ifCond .eq 9, 3) := by decide +kernel
theorem dX11_route_47 : decode cX11_route 47 = .ok (.iload_n 3, 1) := by decide +kernel
theorem dX11_route_48 : decode cX11_route 48 = .ok (.iload 4, 2) := by decide +kernel
theorem dX11_route_50 : decode cX11_route 50 = .ok (.if_icmp .ne 7, 3) := by decide +kernel
theorem dX11_route_53 : decode cX11_route 53 = .ok (.sipush (-1002), 3) := by decide +kernel
theorem dX11_route_56 : decode cX11_route 56 = .ok (.ireturn, 1) := by decide +kernel
theorem dX11_route_57 : decode cX11_route 57 = .ok (.aload_n 0, 1) := by decide +kernel
theorem dX11_route_58 : decode cX11_route 58 = .ok (.iload_n 1, 1) := by decide +kernel
theorem dX11_route_59 : decode cX11_route 59 = .ok (.iload_n 2, 1) := by decide +kernel
theorem dX11_route_60 : decode cX11_route 60 = .ok (.iconst 0, 1) := by decide +kernel
theorem dX11_route_61 : decode cX11_route 61 = .ok (.invokevirtual 275, 3) := by decide +kernel
theorem dX11_route_64 : decode cX11_route 64 = .ok (.aload_n 0, 1) := by decide +kernel
theorem dX11_route_65 : decode cX11_route 65 = .ok (.iload_n 3, 1) := by decide +kernel
theorem dX11_route_66 : decode cX11_route 66 = .ok (.iload 4, 2) := by decide +kernel
theorem dX11_route_68 : decode cX11_route 68 = .ok (.invokevirtual 279, 3) := by decide +kernel
theorem dX11_route_71 : decode cX11_route 71 = .ok (.istore 6, 2) := by decide +kernel
theorem dX11_route_73 : decode cX11_route 73 = .ok (.iload 6, 2) := by decide +kernel
theorem dX11_route_75 : decode cX11_route 75 = .ok (.ifCond .ge 5, 3) := by decide +kernel
theorem dX11_route_78 : decode cX11_route 78 = .ok (.iconst (-1), 1) := by decide +kernel
theorem dX11_route_79 : decode cX11_route 79 = .ok (.ireturn, 1) := by decide +kernel
theorem dX11_route_80 : decode cX11_route 80 = .ok (.iload 5, 2) := by decide +kernel
theorem dX11_route_82 : decode cX11_route 82 = .ok (.ifCond .ne 12, 3) := by decide +kernel
theorem dX11_route_85 : decode cX11_route 85 = .ok (.aload_n 0, 1) := by decide +kernel
theorem dX11_route_86 : decode cX11_route 86 = .ok (.getfield 97, 3) := by decide +kernel
theorem dX11_route_89 : decode cX11_route 89 = .ok (.iload_n 3, 1) := by decide +kernel
theorem dX11_route_90 : decode cX11_route 90 = .ok (.iaload, 1) := by decide +kernel
theorem dX11_route_91 : decode cX11_route 91 = .ok (.goto 36, 3) := by decide +kernel
theorem dX11_route_94 : decode cX11_route 94 = .ok (.iload 5, 2) := by decide +kernel
theorem dX11_route_96 : decode cX11_route 96 = .ok (.iconst 1, 1) := by decide +kernel
theorem dX11_route_97 : decode cX11_route 97 = .ok (.if_icmp .ne 8, 3) := by decide +kernel
theorem dX11_route_100 : decode cX11_route 100 = .ok (.iload 6, 2) := by decide +kernel
theorem dX11_route_102 : decode cX11_route 102 = .ok (.goto 25, 3) := by decide +kernel
theorem dX11_route_105 : decode cX11_route 105 = .ok (.iload 5, 2) := by decide +kernel
theorem dX11_route_107 : decode cX11_route 107 = .ok (.iconst 2, 1) := by decide +kernel
theorem dX11_route_108 : decode cX11_route 108 = .ok (.isub, 1) := by decide +kernel
theorem dX11_route_109 : decode cX11_route 109 = .ok (.iload 6, 2) := by decide +kernel
theorem dX11_route_111 : decode cX11_route 111 = .ok (.if_icmp .ge 15, 3) := by decide +kernel
theorem dX11_route_114 : decode cX11_route 114 = .ok (.aload_n 0, 1) := by decide +kernel
theorem dX11_route_115 : decode cX11_route 115 = .ok (.getfield 103, 3) := by decide +kernel
theorem dX11_route_118 : decode cX11_route 118 = .ok (.iload 5, 2) := by decide +kernel
theorem dX11_route_120 : decode cX11_route 120 = .ok (.iconst 2, 1) := by decide +kernel
theorem dX11_route_121 : decode cX11_route 121 = .ok (.isub, 1) := by decide +kernel
theorem dX11_route_122 : decode cX11_route 122 = .ok (.iaload, 1) := by decide +kernel
theorem dX11_route_123 : decode cX11_route 123 = .ok (.goto 4, 3) := by decide +kernel
theorem dX11_route_126 : decode cX11_route 126 = .ok (.iconst (-1), 1) := by decide +kernel
theorem dX11_route_127 : decode cX11_route 127 = .ok (.ireturn, 1) := by decide +kernel
theorem dX11_why_0 : decode cX11_why 0 = .ok (.aload_n 0, 1) := by decide +kernel
theorem dX11_why_1 : decode cX11_why 1 = .ok (.iload_n 1, 1) := by decide +kernel
theorem dX11_why_2 : decode cX11_why 2 = .ok (.invokevirtual 190, 3) := by decide +kernel
theorem dX11_why_5 : decode cX11_why 5 = .ok (.ifCond .ne 18, 3) := by decide +kernel
theorem dX11_why_8 : decode cX11_why 8 = .ok (.iload_n 3, 1) := by decide +kernel
theorem dX11_why_9 : decode cX11_why 9 = .ok (.invokestatic 258, 3) := by decide +kernel
theorem dX11_why_12 : decode cX11_why 12 = .ok (.ifCond .eq 11, 3) := by decide +kernel
theorem dX11_why_15 : decode cX11_why 15 = .ok (.iload 4, 2) := by decide +kernel
theorem dX11_why_17 : decode cX11_why 17 = .ok (.invokestatic 258, 3) := by decide +kernel
theorem dX11_why_20 : decode cX11_why 20 = .ok (.ifCond .ne 7, 3) := by decide +kernel
theorem dX11_why_23 : decode cX11_why 23 = .ok (.sipush (-1001), 3) := by decide +kernel
theorem dX11_why_26 : decode cX11_why 26 = .ok (.ireturn, 1) := by decide +kernel
theorem dX11_why_27 : decode cX11_why 27 = .ok (.iload_n 2, 1) := by decide +kernel
theorem dX11_why_28 : decode cX11_why 28 = .ok (.invokestatic 236, 3) := by decide +kernel
theorem dX11_why_31 : decode cX11_why 31 = .ok (.ifCond .eq 9, 3) := by decide +kernel
theorem dX11_why_34 : decode cX11_why 34 = .ok (.iload_n 3, 1) := by decide +kernel
theorem dX11_why_35 : decode cX11_why 35 = .ok (.iload 4, 2) := by decide +kernel
theorem dX11_why_37 : decode cX11_why 37 = .ok (.if_icmp .ne 7, 3) := by decide +kernel
theorem dX11_why_40 : decode cX11_why 40 = .ok (.sipush (-1002), 3) := by decide +kernel
theorem dX11_why_43 : decode cX11_why 43 = .ok (.ireturn, 1) := by decide +kernel
theorem dX11_why_44 : decode cX11_why 44 = .ok (.aload_n 0, 1) := by decide +kernel
theorem dX11_why_45 : decode cX11_why 45 = .ok (.iload_n 1, 1) := by decide +kernel
theorem dX11_why_46 : decode cX11_why 46 = .ok (.iload_n 2, 1) := by decide +kernel
theorem dX11_why_47 : decode cX11_why 47 = .ok (.iconst 0, 1) := by decide +kernel
theorem dX11_why_48 : decode cX11_why 48 = .ok (.invokevirtual 275, 3) := by decide +kernel
theorem dX11_why_51 : decode cX11_why 51 = .ok (.aload_n 0, 1) := by decide +kernel
theorem dX11_why_52 : decode cX11_why 52 = .ok (.iload_n 3, 1) := by decide +kernel
theorem dX11_why_53 : decode cX11_why 53 = .ok (.iload 4, 2) := by decide +kernel
theorem dX11_why_55 : decode cX11_why 55 = .ok (.invokevirtual 279, 3) := by decide +kernel
theorem dX11_why_58 : decode cX11_why 58 = .ok (.ifCond .lt 5, 3) := by decide +kernel
theorem dX11_why_61 : decode cX11_why 61 = .ok (.iconst (-1), 1) := by decide +kernel
theorem dX11_why_62 : decode cX11_why 62 = .ok (.ireturn, 1) := by decide +kernel
theorem dX11_why_63 : decode cX11_why 63 = .ok (.aload_n 0, 1) := by decide +kernel
theorem dX11_why_64 : decode cX11_why 64 = .ok (.iload_n 1, 1) := by decide +kernel
theorem dX11_why_65 : decode cX11_why 65 = .ok (.iload_n 2, 1) := by decide +kernel
theorem dX11_why_66 : decode cX11_why 66 = .ok (.iconst 1, 1) := by decide +kernel
theorem dX11_why_67 : decode cX11_why 67 = .ok (.invokevirtual 275, 3) := by decide +kernel
theorem dX11_why_70 : decode cX11_why 70 = .ok (.aload_n 0, 1) := by decide +kernel
theorem dX11_why_71 : decode cX11_why 71 = .ok (.iload_n 3, 1) := by decide +kernel
theorem dX11_why_72 : decode cX11_why 72 = .ok (.iload 4, 2) := by decide +kernel
theorem dX11_why_74 : decode cX11_why 74 = .ok (.invokevirtual 279, 3) := by decide +kernel
theorem dX11_why_77 : decode cX11_why 77 = .ok (.istore 5, 2) := by decide +kernel
theorem dX11_why_79 : decode cX11_why 79 = .ok (.iconst 0, 1) := by decide +kernel
theorem dX11_why_80 : decode cX11_why 80 = .ok (.istore 6, 2) := by decide +kernel
theorem dX11_why_82 : decode cX11_why 82 = .ok (.iload 6, 2) := by decide +kernel
theorem dX11_why_84 : decode cX11_why 84 = .ok (.iload 5, 2) := by decide +kernel
theorem dX11_why_86 : decode cX11_why 86 = .ok (.if_icmp .ge 56, 3) := by decide +kernel
theorem dX11_why_89 : decode cX11_why 89 = .ok (.aload_n 0, 1) := by decide +kernel
theorem dX11_why_90 : decode cX11_why 90 = .ok (.getfield 90, 3) := by decide +kernel
theorem dX11_why_93 : decode cX11_why 93 = .ok (.aload_n 0, 1) := by decide +kernel
theorem dX11_why_94 : decode cX11_why 94 = .ok (.getfield 103, 3) := by decide +kernel
theorem dX11_why_97 : decode cX11_why 97 = .ok (.iload 6, 2) := by decide +kernel
theorem dX11_why_99 : decode cX11_why 99 = .ok (.iaload, 1) := by decide +kernel
theorem dX11_why_100 : decode cX11_why 100 = .ok (.iaload, 1) := by decide +kernel
theorem dX11_why_101 : decode cX11_why 101 = .ok (.istore 7, 2) := by decide +kernel
theorem dX11_why_103 : decode cX11_why 103 = .ok (.iload 7, 2) := by decide +kernel
theorem dX11_why_105 : decode cX11_why 105 = .ok (.ifCond .ge 7, 3) := by decide +kernel
theorem dX11_why_108 : decode cX11_why 108 = .ok (.iconst (-1), 1) := by decide +kernel
theorem dX11_why_109 : decode cX11_why 109 = .ok (.goto 11, 3) := by decide +kernel
theorem dX11_why_112 : decode cX11_why 112 = .ok (.aload_n 0, 1) := by decide +kernel
theorem dX11_why_113 : decode cX11_why 113 = .ok (.iload 7, 2) := by decide +kernel
theorem dX11_why_115 : decode cX11_why 115 = .ok (.iload_n 1, 1) := by decide +kernel
theorem dX11_why_116 : decode cX11_why 116 = .ok (.iload_n 2, 1) := by decide +kernel
theorem dX11_why_117 : decode cX11_why 117 = .ok (.invokevirtual 248, 3) := by decide +kernel
theorem dX11_why_120 : decode cX11_why 120 = .ok (.istore 8, 2) := by decide +kernel
theorem dX11_why_122 : decode cX11_why 122 = .ok (.iload 8, 2) := by decide +kernel
theorem dX11_why_124 : decode cX11_why 124 = .ok (.ifCond .lt 12, 3) := by decide +kernel
theorem dX11_why_127 : decode cX11_why 127 = .ok (.bipush 10, 2) := by decide +kernel
theorem dX11_why_129 : decode cX11_why 129 = .ok (.iload 7, 2) := by decide +kernel
theorem dX11_why_131 : decode cX11_why 131 = .ok (.imul, 1) := by decide +kernel
theorem dX11_why_132 : decode cX11_why 132 = .ok (.iload 8, 2) := by decide +kernel
theorem dX11_why_134 : decode cX11_why 134 = .ok (.iadd, 1) := by decide +kernel
theorem dX11_why_135 : decode cX11_why 135 = .ok (.ireturn, 1) := by decide +kernel
theorem dX11_why_136 : decode cX11_why 136 = .ok (.iinc 6 1, 3) := by decide +kernel
theorem dX11_why_139 : decode cX11_why 139 = .ok (.goto (-57), 3) := by decide +kernel
theorem dX11_why_142 : decode cX11_why 142 = .ok (.iconst (-1), 1) := by decide +kernel
theorem dX11_why_143 : decode cX11_why 143 = .ok (.ireturn, 1) := by decide +kernel
theorem dX11_out_0 : decode cX11_out 0 = .ok (.iload_n 1, 1) := by decide +kernel
theorem dX11_out_1 : decode cX11_out 1 = .ok (.istore_n 3, 1) := by decide +kernel
theorem dX11_out_2 : decode cX11_out 2 = .ok (.iload_n 3, 1) := by decide +kernel
theorem dX11_out_3 : decode cX11_out 3 = .ok (.iload_n 2, 1) := by decide +kernel
theorem dX11_out_4 : decode cX11_out 4 = .ok (.iadd, 1) := by decide +kernel
theorem dX11_out_5 : decode cX11_out 5 = .ok (.aload_n 0, 1) := by decide +kernel
theorem dX11_out_6 : decode cX11_out 6 = .ok (.getfield 282, 3) := by decide +kernel
theorem dX11_out_9 : decode cX11_out 9 = .ok (.if_icmp .ge 23, 3) := by decide +kernel
theorem dX11_out_12 : decode cX11_out 12 = .ok (.aload_n 0, 1) := by decide +kernel
theorem dX11_out_13 : decode cX11_out 13 = .ok (.getfield 106, 3) := by decide +kernel
theorem dX11_out_16 : decode cX11_out 16 = .ok (.iload_n 3, 1) := by decide +kernel
theorem dX11_out_17 : decode cX11_out 17 = .ok (.aload_n 0, 1) := by decide +kernel
theorem dX11_out_18 : decode cX11_out 18 = .ok (.getfield 106, 3) := by decide +kernel
theorem dX11_out_21 : decode cX11_out 21 = .ok (.iload_n 3, 1) := by decide +kernel
theorem dX11_out_22 : decode cX11_out 22 = .ok (.iload_n 2, 1) := by decide +kernel
theorem dX11_out_23 : decode cX11_out 23 = .ok (.iadd, 1) := by decide +kernel
theorem dX11_out_24 : decode cX11_out 24 = .ok (.laload, 1) := by decide +kernel
theorem dX11_out_25 : decode cX11_out 25 = .ok (.lastore, 1) := by decide +kernel
theorem dX11_out_26 : decode cX11_out 26 = .ok (.iinc 3 1, 3) := by decide +kernel
theorem dX11_out_29 : decode cX11_out 29 = .ok (.goto (-27), 3) := by decide +kernel
theorem dX11_out_32 : decode cX11_out 32 = .ok (.aload_n 0, 1) := by decide +kernel
theorem dX11_out_33 : decode cX11_out 33 = .ok (.dup, 1) := by decide +kernel
theorem dX11_out_34 : decode cX11_out 34 = .ok (.getfield 282, 3) := by decide +kernel
theorem dX11_out_37 : decode cX11_out 37 = .ok (.iload_n 2, 1) := by decide +kernel
theorem dX11_out_38 : decode cX11_out 38 = .ok (.isub, 1) := by decide +kernel
theorem dX11_out_39 : decode cX11_out 39 = .ok (.putfield 282, 3) := by decide +kernel
theorem dX11_out_42 : decode cX11_out 42 = .ok (.return_, 1) := by decide +kernel
theorem dX11_stepAt_0 : decode cX11_stepAt 0 = .ok (.aload_n 0, 1) := by decide +kernel
theorem dX11_stepAt_1 : decode cX11_stepAt 1 = .ok (.getfield 106, 3) := by decide +kernel
theorem dX11_stepAt_4 : decode cX11_stepAt 4 = .ok (.iload_n 1, 1) := by decide +kernel
theorem dX11_stepAt_5 : decode cX11_stepAt 5 = .ok (.iconst 1, 1) := by decide +kernel
theorem dX11_stepAt_6 : decode cX11_stepAt 6 = .ok (.iadd, 1) := by decide +kernel
theorem dX11_stepAt_7 : decode cX11_stepAt 7 = .ok (.laload, 1) := by decide +kernel
theorem dX11_stepAt_8 : decode cX11_stepAt 8 = .ok (.aload_n 0, 1) := by decide +kernel
theorem dX11_stepAt_9 : decode cX11_stepAt 9 = .ok (.getfield 106, 3) := by decide +kernel
theorem dX11_stepAt_12 : decode cX11_stepAt 12 = .ok (.iload_n 1, 1) := by decide +kernel
theorem dX11_stepAt_13 : decode cX11_stepAt 13 = .ok (.laload, 1) := by decide +kernel
theorem dX11_stepAt_14 : decode cX11_stepAt 14 = .ok (.lsub, 1) := by decide +kernel
theorem dX11_stepAt_15 : decode cX11_stepAt 15 = .ok (.invokestatic 109, 3) := by decide +kernel
theorem dX11_stepAt_18 : decode cX11_stepAt 18 = .ok (.lreturn, 1) := by decide +kernel
theorem dX11_isIdle_0 : decode cX11_isIdle 0 = .ok (.aload_n 0, 1) := by decide +kernel
theorem dX11_isIdle_1 : decode cX11_isIdle 1 = .ok (.getfield 106, 3) := by decide +kernel
theorem dX11_isIdle_4 : decode cX11_isIdle 4 = .ok (.iload_n 1, 1) := by decide +kernel
theorem dX11_isIdle_5 : decode cX11_isIdle 5 = .ok (.laload, 1) := by decide +kernel
theorem dX11_isIdle_6 : decode cX11_isIdle 6 = .ok (.aload_n 0, 1) := by decide +kernel
theorem dX11_isIdle_7 : decode cX11_isIdle 7 = .ok (.getfield 106, 3) := by decide +kernel
theorem dX11_isIdle_10 : decode cX11_isIdle 10 = .ok (.iload_n 1, 1) := by decide +kernel
theorem dX11_isIdle_11 : decode cX11_isIdle 11 = .ok (.iconst 1, 1) := by decide +kernel
theorem dX11_isIdle_12 : decode cX11_isIdle 12 = .ok (.isub, 1) := by decide +kernel
theorem dX11_isIdle_13 : decode cX11_isIdle 13 = .ok (.laload, 1) := by decide +kernel
theorem dX11_isIdle_14 : decode cX11_isIdle 14 = .ok (.lsub, 1) := by decide +kernel
theorem dX11_isIdle_15 : decode cX11_isIdle 15 = .ok (.lstore_n 2, 1) := by decide +kernel
theorem dX11_isIdle_16 : decode cX11_isIdle 16 = .ok (.aload_n 0, 1) := by decide +kernel
theorem dX11_isIdle_17 : decode cX11_isIdle 17 = .ok (.getfield 106, 3) := by decide +kernel
theorem dX11_isIdle_20 : decode cX11_isIdle 20 = .ok (.iload_n 1, 1) := by decide +kernel
theorem dX11_isIdle_21 : decode cX11_isIdle 21 = .ok (.iconst 1, 1) := by decide +kernel
theorem dX11_isIdle_22 : decode cX11_isIdle 22 = .ok (.iadd, 1) := by decide +kernel
theorem dX11_isIdle_23 : decode cX11_isIdle 23 = .ok (.laload, 1) := by decide +kernel
theorem dX11_isIdle_24 : decode cX11_isIdle 24 = .ok (.aload_n 0, 1) := by decide +kernel
theorem dX11_isIdle_25 : decode cX11_isIdle 25 = .ok (.getfield 106, 3) := by decide +kernel
theorem dX11_isIdle_28 : decode cX11_isIdle 28 = .ok (.iload_n 1, 1) := by decide +kernel
theorem dX11_isIdle_29 : decode cX11_isIdle 29 = .ok (.laload, 1) := by decide +kernel
theorem dX11_isIdle_30 : decode cX11_isIdle 30 = .ok (.lsub, 1) := by decide +kernel
theorem dX11_isIdle_31 : decode cX11_isIdle 31 = .ok (.lstore 4, 2) := by decide +kernel
theorem dX11_isIdle_33 : decode cX11_isIdle 33 = .ok (.lload_n 2, 1) := by decide +kernel
theorem dX11_isIdle_34 : decode cX11_isIdle 34 = .ok (.lconst 0, 1) := by decide +kernel
theorem dX11_isIdle_35 : decode cX11_isIdle 35 = .ok (.lcmp, 1) := by decide +kernel
theorem dX11_isIdle_36 : decode cX11_isIdle 36 = .ok (.ifCond .eq 36, 3) := by decide +kernel
theorem dX11_isIdle_39 : decode cX11_isIdle 39 = .ok (.lload 4, 2) := by decide +kernel
theorem dX11_isIdle_41 : decode cX11_isIdle 41 = .ok (.lconst 0, 1) := by decide +kernel
theorem dX11_isIdle_42 : decode cX11_isIdle 42 = .ok (.lcmp, 1) := by decide +kernel
theorem dX11_isIdle_43 : decode cX11_isIdle 43 = .ok (.ifCond .eq 29, 3) := by decide +kernel
theorem dX11_isIdle_46 : decode cX11_isIdle 46 = .ok (.lload_n 2, 1) := by decide +kernel
theorem dX11_isIdle_47 : decode cX11_isIdle 47 = .ok (.lconst 0, 1) := by decide +kernel
theorem dX11_isIdle_48 : decode cX11_isIdle 48 = .ok (.lcmp, 1) := by decide +kernel
theorem dX11_isIdle_49 : decode cX11_isIdle 49 = .ok (.ifCond .le 7, 3) := by decide +kernel
theorem dX11_isIdle_52 : decode cX11_isIdle 52 = .ok (.iconst 1, 1) := by decide +kernel
theorem dX11_isIdle_53 : decode cX11_isIdle 53 = .ok (.goto 4, 3) := by decide +kernel
theorem dX11_isIdle_56 : decode cX11_isIdle 56 = .ok (.iconst 0, 1) := by decide +kernel
theorem dX11_isIdle_57 : decode cX11_isIdle 57 = .ok (.lload 4, 2) := by decide +kernel
theorem dX11_isIdle_59 : decode cX11_isIdle 59 = .ok (.lconst 0, 1) := by decide +kernel
theorem dX11_isIdle_60 : decode cX11_isIdle 60 = .ok (.lcmp, 1) := by decide +kernel
theorem dX11_isIdle_61 : decode cX11_isIdle 61 = .ok (.ifCond .le 7, 3) := by decide +kernel
theorem dX11_isIdle_64 : decode cX11_isIdle 64 = .ok (.iconst 1, 1) := by decide +kernel
theorem dX11_isIdle_65 : decode cX11_isIdle 65 = .ok (.goto 4, 3) := by decide +kernel
theorem dX11_isIdle_68 : decode cX11_isIdle 68 = .ok (.iconst 0, 1) := by decide +kernel
theorem dX11_isIdle_69 : decode cX11_isIdle 69 = .ok (.if_icmp .ne 7, 3) := by decide +kernel
theorem dX11_isIdle_72 : decode cX11_isIdle 72 = .ok (.iconst 1, 1) := by decide +kernel
theorem dX11_isIdle_73 : decode cX11_isIdle 73 = .ok (.goto 4, 3) := by decide +kernel
theorem dX11_isIdle_76 : decode cX11_isIdle 76 = .ok (.iconst 0, 1) := by decide +kernel
theorem dX11_isIdle_77 : decode cX11_isIdle 77 = .ok (.ireturn, 1) := by decide +kernel
theorem dX11_cube_0 : decode cX11_cube 0 = .ok (.lload_n 0, 1) := by decide +kernel
theorem dX11_cube_1 : decode cX11_cube 1 = .ok (.lload_n 0, 1) := by decide +kernel
theorem dX11_cube_2 : decode cX11_cube 2 = .ok (.lmul, 1) := by decide +kernel
theorem dX11_cube_3 : decode cX11_cube 3 = .ok (.lload_n 0, 1) := by decide +kernel
theorem dX11_cube_4 : decode cX11_cube 4 = .ok (.lmul, 1) := by decide +kernel
theorem dX11_cube_5 : decode cX11_cube 5 = .ok (.lreturn, 1) := by decide +kernel
theorem dX11_wearOf_0 : decode cX11_wearOf 0 = .ok (.aload_n 0, 1) := by decide +kernel
theorem dX11_wearOf_1 : decode cX11_wearOf 1 = .ok (.iconst 1, 1) := by decide +kernel
theorem dX11_wearOf_2 : decode cX11_wearOf 2 = .ok (.putfield 282, 3) := by decide +kernel
theorem dX11_wearOf_5 : decode cX11_wearOf 5 = .ok (.aload_n 0, 1) := by decide +kernel
theorem dX11_wearOf_6 : decode cX11_wearOf 6 = .ok (.getfield 106, 3) := by decide +kernel
theorem dX11_wearOf_9 : decode cX11_wearOf 9 = .ok (.iconst 0, 1) := by decide +kernel
theorem dX11_wearOf_10 : decode cX11_wearOf 10 = .ok (.lconst 0, 1) := by decide +kernel
theorem dX11_wearOf_11 : decode cX11_wearOf 11 = .ok (.lastore, 1) := by decide +kernel
theorem dX11_wearOf_12 : decode cX11_wearOf 12 = .ok (.iconst 0, 1) := by decide +kernel
theorem dX11_wearOf_13 : decode cX11_wearOf 13 = .ok (.istore 5, 2) := by decide +kernel
theorem dX11_wearOf_15 : decode cX11_wearOf 15 = .ok (.iload 5, 2) := by decide +kernel
theorem dX11_wearOf_17 : decode cX11_wearOf 17 = .ok (.aload_n 0, 1) := by decide +kernel
theorem dX11_wearOf_18 : decode cX11_wearOf 18 = .ok (.getfield 7, 3) := by decide +kernel
theorem dX11_wearOf_21 : decode cX11_wearOf 21 = .ok (.iload_n 1, 1) := by decide +kernel
theorem dX11_wearOf_22 : decode cX11_wearOf 22 = .ok (.iaload, 1) := by decide +kernel
theorem dX11_wearOf_23 : decode cX11_wearOf 23 = .ok (.aload_n 0, 1) := by decide +kernel
theorem dX11_wearOf_24 : decode cX11_wearOf 24 = .ok (.iload 4, 2) := by decide +kernel
theorem dX11_wearOf_26 : decode cX11_wearOf 26 = .ok (.invokevirtual 202, 3) := by decide +kernel
theorem dX11_wearOf_29 : decode cX11_wearOf 29 = .ok (.iadd, 1) := by decide +kernel
theorem dX11_wearOf_30 : decode cX11_wearOf 30 = .ok (.if_icmp .gt 40, 3) := by decide +kernel
theorem dX11_wearOf_33 : decode cX11_wearOf 33 = .ok (.aload_n 0, 1) := by decide +kernel
theorem dX11_wearOf_34 : decode cX11_wearOf 34 = .ok (.getfield 106, 3) := by decide +kernel
theorem dX11_wearOf_37 : decode cX11_wearOf 37 = .ok (.aload_n 0, 1) := by decide +kernel
theorem dX11_wearOf_38 : decode cX11_wearOf 38 = .ok (.getfield 282, 3) := by decide +kernel
theorem dX11_wearOf_41 : decode cX11_wearOf 41 = .ok (.aload_n 0, 1) := by decide +kernel
theorem dX11_wearOf_42 : decode cX11_wearOf 42 = .ok (.iload_n 1, 1) := by decide +kernel
theorem dX11_wearOf_43 : decode cX11_wearOf 43 = .ok (.iload_n 2, 1) := by decide +kernel
theorem dX11_wearOf_44 : decode cX11_wearOf 44 = .ok (.iload_n 3, 1) := by decide +kernel
theorem dX11_wearOf_45 : decode cX11_wearOf 45 = .ok (.iload 4, 2) := by decide +kernel
theorem dX11_wearOf_47 : decode cX11_wearOf 47 = .ok (.iconst 0, 1) := by decide +kernel
theorem dX11_wearOf_48 : decode cX11_wearOf 48 = .ok (.iload 5, 2) := by decide +kernel
theorem dX11_wearOf_50 : decode cX11_wearOf 50 = .ok (.invokevirtual 209, 3) := by decide +kernel
theorem dX11_wearOf_53 : decode cX11_wearOf 53 = .ok (.lastore, 1) := by decide +kernel
theorem dX11_wearOf_54 : decode cX11_wearOf 54 = .ok (.aload_n 0, 1) := by decide +kernel
theorem dX11_wearOf_55 : decode cX11_wearOf 55 = .ok (.dup, 1) := by decide +kernel
theorem dX11_wearOf_56 : decode cX11_wearOf 56 = .ok (.getfield 282, 3) := by decide +kernel
theorem dX11_wearOf_59 : decode cX11_wearOf 59 = .ok (.iconst 1, 1) := by decide +kernel
theorem dX11_wearOf_60 : decode cX11_wearOf 60 = .ok (.iadd, 1) := by decide +kernel
theorem dX11_wearOf_61 : decode cX11_wearOf 61 = .ok (.putfield 282, 3) := by decide +kernel
theorem dX11_wearOf_64 : decode cX11_wearOf 64 = .ok (.iinc 5 1, 3) := by decide +kernel
theorem dX11_wearOf_67 : decode cX11_wearOf 67 = .ok (.goto (-52), 3) := by decide +kernel
theorem dX11_wearOf_70 : decode cX11_wearOf 70 = .ok (.aload_n 0, 1) := by decide +kernel
theorem dX11_wearOf_71 : decode cX11_wearOf 71 = .ok (.getfield 106, 3) := by decide +kernel
theorem dX11_wearOf_74 : decode cX11_wearOf 74 = .ok (.aload_n 0, 1) := by decide +kernel
theorem dX11_wearOf_75 : decode cX11_wearOf 75 = .ok (.getfield 282, 3) := by decide +kernel
theorem dX11_wearOf_78 : decode cX11_wearOf 78 = .ok (.lconst 0, 1) := by decide +kernel
theorem dX11_wearOf_79 : decode cX11_wearOf 79 = .ok (.lastore, 1) := by decide +kernel
theorem dX11_wearOf_80 : decode cX11_wearOf 80 = .ok (.aload_n 0, 1) := by decide +kernel
theorem dX11_wearOf_81 : decode cX11_wearOf 81 = .ok (.dup, 1) := by decide +kernel
theorem dX11_wearOf_82 : decode cX11_wearOf 82 = .ok (.getfield 282, 3) := by decide +kernel
theorem dX11_wearOf_85 : decode cX11_wearOf 85 = .ok (.iconst 1, 1) := by decide +kernel
theorem dX11_wearOf_86 : decode cX11_wearOf 86 = .ok (.iadd, 1) := by decide +kernel
theorem dX11_wearOf_87 : decode cX11_wearOf 87 = .ok (.putfield 282, 3) := by decide +kernel
theorem dX11_wearOf_90 : decode cX11_wearOf 90 = .ok (.iconst 1, 1) := by decide +kernel
theorem dX11_wearOf_91 : decode cX11_wearOf 91 = .ok (.istore 5, 2) := by decide +kernel
theorem dX11_wearOf_93 : decode cX11_wearOf 93 = .ok (.iload 5, 2) := by decide +kernel
theorem dX11_wearOf_95 : decode cX11_wearOf 95 = .ok (.iconst 1, 1) := by decide +kernel
theorem dX11_wearOf_96 : decode cX11_wearOf 96 = .ok (.iadd, 1) := by decide +kernel
theorem dX11_wearOf_97 : decode cX11_wearOf 97 = .ok (.aload_n 0, 1) := by decide +kernel
theorem dX11_wearOf_98 : decode cX11_wearOf 98 = .ok (.getfield 282, 3) := by decide +kernel
theorem dX11_wearOf_101 : decode cX11_wearOf 101 = .ok (.if_icmp .ge 31, 3) := by decide +kernel
theorem dX11_wearOf_104 : decode cX11_wearOf 104 = .ok (.aload_n 0, 1) := by decide +kernel
theorem dX11_wearOf_105 : decode cX11_wearOf 105 = .ok (.iload 5, 2) := by decide +kernel
theorem dX11_wearOf_107 : decode cX11_wearOf 107 = .ok (.invokevirtual 285, 3) := by decide +kernel
theorem dX11_wearOf_110 : decode cX11_wearOf 110 = .ok (.ifCond .eq 16, 3) := by decide +kernel
theorem dX11_wearOf_113 : decode cX11_wearOf 113 = .ok (.aload_n 0, 1) := by decide +kernel
theorem dX11_wearOf_114 : decode cX11_wearOf 114 = .ok (.iload 5, 2) := by decide +kernel
theorem dX11_wearOf_116 : decode cX11_wearOf 116 = .ok (.iconst 1, 1) := by decide +kernel
theorem dX11_wearOf_117 : decode cX11_wearOf 117 = .ok (.invokevirtual 288, 3) := by decide +kernel
theorem dX11_wearOf_120 : decode cX11_wearOf 120 = .ok (.iconst 1, 1) := by decide +kernel
theorem dX11_wearOf_121 : decode cX11_wearOf 121 = .ok (.istore 5, 2) := by decide +kernel
theorem dX11_wearOf_123 : decode cX11_wearOf 123 = .ok (.goto (-30), 3) := by decide +kernel
theorem dX11_wearOf_126 : decode cX11_wearOf 126 = .ok (.iinc 5 1, 3) := by decide +kernel
theorem dX11_wearOf_129 : decode cX11_wearOf 129 = .ok (.goto (-36), 3) := by decide +kernel
theorem dX11_wearOf_132 : decode cX11_wearOf 132 = .ok (.lconst 0, 1) := by decide +kernel
theorem dX11_wearOf_133 : decode cX11_wearOf 133 = .ok (.lstore 6, 2) := by decide +kernel
theorem dX11_wearOf_135 : decode cX11_wearOf 135 = .ok (.aload_n 0, 1) := by decide +kernel
theorem dX11_wearOf_136 : decode cX11_wearOf 136 = .ok (.iconst 0, 1) := by decide +kernel
theorem dX11_wearOf_137 : decode cX11_wearOf 137 = .ok (.putfield 291, 3) := by decide +kernel
theorem dX11_wearOf_140 : decode cX11_wearOf 140 = .ok (.iconst 0, 1) := by decide +kernel
theorem dX11_wearOf_141 : decode cX11_wearOf 141 = .ok (.istore 5, 2) := by decide +kernel
theorem dX11_wearOf_143 : decode cX11_wearOf 143 = .ok (.iload 5, 2) := by decide +kernel
theorem dX11_wearOf_145 : decode cX11_wearOf 145 = .ok (.iconst 3, 1) := by decide +kernel
theorem dX11_wearOf_146 : decode cX11_wearOf 146 = .ok (.iadd, 1) := by decide +kernel
theorem dX11_wearOf_147 : decode cX11_wearOf 147 = .ok (.aload_n 0, 1) := by decide +kernel
theorem dX11_wearOf_148 : decode cX11_wearOf 148 = .ok (.getfield 282, 3) := by decide +kernel
theorem dX11_wearOf_151 : decode cX11_wearOf 151 = .ok (.if_icmp .ge 91, 3) := by decide +kernel
theorem dX11_wearOf_154 : decode cX11_wearOf 154 = .ok (.aload_n 0, 1) := by decide +kernel
theorem dX11_wearOf_155 : decode cX11_wearOf 155 = .ok (.iload 5, 2) := by decide +kernel
theorem dX11_wearOf_157 : decode cX11_wearOf 157 = .ok (.iconst 1, 1) := by decide +kernel
theorem dX11_wearOf_158 : decode cX11_wearOf 158 = .ok (.iadd, 1) := by decide +kernel
theorem dX11_wearOf_159 : decode cX11_wearOf 159 = .ok (.invokevirtual 294, 3) := by decide +kernel
theorem dX11_wearOf_162 : decode cX11_wearOf 162 = .ok (.lstore 8, 2) := by decide +kernel
theorem dX11_wearOf_164 : decode cX11_wearOf 164 = .ok (.lload 8, 2) := by decide +kernel
theorem dX11_wearOf_166 : decode cX11_wearOf 166 = .ok (.aload_n 0, 1) := by decide +kernel
theorem dX11_wearOf_167 : decode cX11_wearOf 167 = .ok (.iload 5, 2) := by decide +kernel
theorem dX11_wearOf_169 : decode cX11_wearOf 169 = .ok (.invokevirtual 294, 3) := by decide +kernel
theorem dX11_wearOf_172 : decode cX11_wearOf 172 = .ok (.lcmp, 1) := by decide +kernel
theorem dX11_wearOf_173 : decode cX11_wearOf 173 = .ok (.ifCond .gt 63, 3) := by decide +kernel
theorem dX11_wearOf_176 : decode cX11_wearOf 176 = .ok (.lload 8, 2) := by decide +kernel
theorem dX11_wearOf_178 : decode cX11_wearOf 178 = .ok (.aload_n 0, 1) := by decide +kernel
theorem dX11_wearOf_179 : decode cX11_wearOf 179 = .ok (.iload 5, 2) := by decide +kernel
theorem dX11_wearOf_181 : decode cX11_wearOf 181 = .ok (.iconst 2, 1) := by decide +kernel
theorem dX11_wearOf_182 : decode cX11_wearOf 182 = .ok (.iadd, 1) := by decide +kernel
theorem dX11_wearOf_183 : decode cX11_wearOf 183 = .ok (.invokevirtual 294, 3) := by decide +kernel
theorem dX11_wearOf_186 : decode cX11_wearOf 186 = .ok (.lcmp, 1) := by decide +kernel
theorem dX11_wearOf_187 : decode cX11_wearOf 187 = .ok (.ifCond .gt 49, 3) := by decide +kernel
theorem dX11_wearOf_190 : decode cX11_wearOf 190 = .ok (.lload 6, 2) := by decide +kernel
theorem dX11_wearOf_192 : decode cX11_wearOf 192 = .ok (.ldc2_w 129, 3) := by decide +kernel
theorem dX11_wearOf_195 : decode cX11_wearOf 195 = .ok (.lload 8, 2) := by decide +kernel
theorem dX11_wearOf_197 : decode cX11_wearOf 197 = .ok (.aload_n 0, 1) := by decide +kernel
theorem dX11_wearOf_198 : decode cX11_wearOf 198 = .ok (.getfield 35, 3) := by decide +kernel
theorem dX11_wearOf_201 : decode cX11_wearOf 201 = .ok (.iload_n 1, 1) := by decide +kernel
theorem dX11_wearOf_202 : decode cX11_wearOf 202 = .ok (.laload, 1) := by decide +kernel
theorem dX11_wearOf_203 : decode cX11_wearOf 203 = .ok (.ldiv, 1) := by decide +kernel
theorem dX11_wearOf_204 : decode cX11_wearOf 204 = .ok (.invokestatic 297, 3) := by decide +kernel
theorem dX11_wearOf_207 : decode cX11_wearOf 207 = .ok (.lmul, 1) := by decide +kernel
theorem dX11_wearOf_208 : decode cX11_wearOf 208 = .ok (.ladd, 1) := by decide +kernel
theorem dX11_wearOf_209 : decode cX11_wearOf 209 = .ok (.lstore 6, 2) := by decide +kernel
theorem dX11_wearOf_211 : decode cX11_wearOf 211 = .ok (.aload_n 0, 1) := by decide +kernel
theorem dX11_wearOf_212 : decode cX11_wearOf 212 = .ok (.dup, 1) := by decide +kernel
theorem dX11_wearOf_213 : decode cX11_wearOf 213 = .ok (.getfield 291, 3) := by decide +kernel
theorem dX11_wearOf_216 : decode cX11_wearOf 216 = .ok (.iconst 1, 1) := by decide +kernel
theorem dX11_wearOf_217 : decode cX11_wearOf 217 = .ok (.iadd, 1) := by decide +kernel
theorem dX11_wearOf_218 : decode cX11_wearOf 218 = .ok (.putfield 291, 3) := by decide +kernel
theorem dX11_wearOf_221 : decode cX11_wearOf 221 = .ok (.aload_n 0, 1) := by decide +kernel
theorem dX11_wearOf_222 : decode cX11_wearOf 222 = .ok (.iload 5, 2) := by decide +kernel
theorem dX11_wearOf_224 : decode cX11_wearOf 224 = .ok (.iconst 1, 1) := by decide +kernel
theorem dX11_wearOf_225 : decode cX11_wearOf 225 = .ok (.iadd, 1) := by decide +kernel
theorem dX11_wearOf_226 : decode cX11_wearOf 226 = .ok (.iconst 2, 1) := by decide +kernel
theorem dX11_wearOf_227 : decode cX11_wearOf 227 = .ok (.invokevirtual 288, 3) := by decide +kernel
theorem dX11_wearOf_230 : decode cX11_wearOf 230 = .ok (.iconst 0, 1) := by decide +kernel
theorem dX11_wearOf_231 : decode cX11_wearOf 231 = .ok (.istore 5, 2) := by decide +kernel
theorem dX11_wearOf_233 : decode cX11_wearOf 233 = .ok (.goto 6, 3) := by decide +kernel
theorem dX11_wearOf_236 : decode cX11_wearOf 236 = .ok (.iinc 5 1, 3) := by decide +kernel
theorem dX11_wearOf_239 : decode cX11_wearOf 239 = .ok (.goto (-96), 3) := by decide +kernel
theorem dX11_wearOf_242 : decode cX11_wearOf 242 = .ok (.aload_n 0, 1) := by decide +kernel
theorem dX11_wearOf_243 : decode cX11_wearOf 243 = .ok (.aload_n 0, 1) := by decide +kernel
theorem dX11_wearOf_244 : decode cX11_wearOf 244 = .ok (.getfield 282, 3) := by decide +kernel
theorem dX11_wearOf_247 : decode cX11_wearOf 247 = .ok (.iconst 1, 1) := by decide +kernel
theorem dX11_wearOf_248 : decode cX11_wearOf 248 = .ok (.isub, 1) := by decide +kernel
theorem dX11_wearOf_249 : decode cX11_wearOf 249 = .ok (.putfield 300, 3) := by decide +kernel
theorem dX11_wearOf_252 : decode cX11_wearOf 252 = .ok (.iconst 0, 1) := by decide +kernel
theorem dX11_wearOf_253 : decode cX11_wearOf 253 = .ok (.istore 8, 2) := by decide +kernel
theorem dX11_wearOf_255 : decode cX11_wearOf 255 = .ok (.iload 8, 2) := by decide +kernel
theorem dX11_wearOf_257 : decode cX11_wearOf 257 = .ok (.iconst 1, 1) := by decide +kernel
theorem dX11_wearOf_258 : decode cX11_wearOf 258 = .ok (.iadd, 1) := by decide +kernel
theorem dX11_wearOf_259 : decode cX11_wearOf 259 = .ok (.aload_n 0, 1) := by decide +kernel
theorem dX11_wearOf_260 : decode cX11_wearOf 260 = .ok (.getfield 282, 3) := by decide +kernel
theorem dX11_wearOf_263 : decode cX11_wearOf 263 = .ok (.if_icmp .ge 30, 3) := by decide +kernel
theorem dX11_wearOf_266 : decode cX11_wearOf 266 = .ok (.lload 6, 2) := by decide +kernel
theorem dX11_wearOf_268 : decode cX11_wearOf 268 = .ok (.aload_n 0, 1) := by decide +kernel
theorem dX11_wearOf_269 : decode cX11_wearOf 269 = .ok (.iload 8, 2) := by decide +kernel
theorem dX11_wearOf_271 : decode cX11_wearOf 271 = .ok (.invokevirtual 294, 3) := by decide +kernel
theorem dX11_wearOf_274 : decode cX11_wearOf 274 = .ok (.aload_n 0, 1) := by decide +kernel
theorem dX11_wearOf_275 : decode cX11_wearOf 275 = .ok (.getfield 35, 3) := by decide +kernel
theorem dX11_wearOf_278 : decode cX11_wearOf 278 = .ok (.iload_n 1, 1) := by decide +kernel
theorem dX11_wearOf_279 : decode cX11_wearOf 279 = .ok (.laload, 1) := by decide +kernel
theorem dX11_wearOf_280 : decode cX11_wearOf 280 = .ok (.ldiv, 1) := by decide +kernel
theorem dX11_wearOf_281 : decode cX11_wearOf 281 = .ok (.invokestatic 297, 3) := by decide +kernel
theorem dX11_wearOf_284 : decode cX11_wearOf 284 = .ok (.ladd, 1) := by decide +kernel
theorem dX11_wearOf_285 : decode cX11_wearOf 285 = .ok (.lstore 6, 2) := by decide +kernel
theorem dX11_wearOf_287 : decode cX11_wearOf 287 = .ok (.iinc 8 1, 3) := by decide +kernel
theorem dX11_wearOf_290 : decode cX11_wearOf 290 = .ok (.goto (-35), 3) := by decide +kernel
theorem dX11_wearOf_293 : decode cX11_wearOf 293 = .ok (.lload 6, 2) := by decide +kernel
theorem dX11_wearOf_295 : decode cX11_wearOf 295 = .ok (.lreturn, 1) := by decide +kernel
theorem dX11_wear_0 : decode cX11_wear 0 = .ok (.aload_n 0, 1) := by decide +kernel
theorem dX11_wear_1 : decode cX11_wear 1 = .ok (.iload_n 1, 1) := by decide +kernel
theorem dX11_wear_2 : decode cX11_wear 2 = .ok (.invokevirtual 158, 3) := by decide +kernel
theorem dX11_wear_5 : decode cX11_wear 5 = .ok (.ifCond .ne 22, 3) := by decide +kernel
theorem dX11_wear_8 : decode cX11_wear 8 = .ok (.aload_n 0, 1) := by decide +kernel
theorem dX11_wear_9 : decode cX11_wear 9 = .ok (.iload_n 1, 1) := by decide +kernel
theorem dX11_wear_10 : decode cX11_wear 10 = .ok (.iload_n 2, 1) := by decide +kernel
theorem dX11_wear_11 : decode cX11_wear 11 = .ok (.iload_n 3, 1) := by decide +kernel
theorem dX11_wear_12 : decode cX11_wear 12 = .ok (.invokevirtual 162, 3) := by decide +kernel
theorem dX11_wear_15 : decode cX11_wear 15 = .ok (.ifCond .ne 12, 3) := by decide +kernel
theorem dX11_wear_18 : decode cX11_wear 18 = .ok (.aload_n 0, 1) := by decide +kernel
theorem dX11_wear_19 : decode cX11_wear 19 = .ok (.iload 4, 2) := by decide +kernel
theorem dX11_wear_21 : decode cX11_wear 21 = .ok (.invokevirtual 190, 3) := by decide +kernel
theorem dX11_wear_24 : decode cX11_wear 24 = .ok (.ifCond .eq 7, 3) := by decide +kernel
theorem dX11_wear_27 : decode cX11_wear 27 = .ok (.ldc2_w 166, 3) := by decide +kernel
theorem dX11_wear_30 : decode cX11_wear 30 = .ok (.lreturn, 1) := by decide +kernel
theorem dX11_wear_31 : decode cX11_wear 31 = .ok (.aload_n 0, 1) := by decide +kernel
theorem dX11_wear_32 : decode cX11_wear 32 = .ok (.iload_n 1, 1) := by decide +kernel
theorem dX11_wear_33 : decode cX11_wear 33 = .ok (.iload_n 2, 1) := by decide +kernel
theorem dX11_wear_34 : decode cX11_wear 34 = .ok (.iload_n 3, 1) := by decide +kernel
theorem dX11_wear_35 : decode cX11_wear 35 = .ok (.invokevirtual 168, 3) := by decide +kernel
theorem dX11_wear_38 : decode cX11_wear 38 = .ok (.ifCond .eq 16, 3) := by decide +kernel
theorem dX11_wear_41 : decode cX11_wear 41 = .ok (.iload 5, 2) := by decide +kernel
theorem dX11_wear_43 : decode cX11_wear 43 = .ok (.i2l, 1) := by decide +kernel
theorem dX11_wear_44 : decode cX11_wear 44 = .ok (.lconst 0, 1) := by decide +kernel
theorem dX11_wear_45 : decode cX11_wear 45 = .ok (.ldc2_w 129, 3) := by decide +kernel
theorem dX11_wear_48 : decode cX11_wear 48 = .ok (.invokestatic 133, 3) := by decide +kernel
theorem dX11_wear_51 : decode cX11_wear 51 = .ok (.ifCond .ne 7, 3) := by decide +kernel
theorem dX11_wear_54 : decode cX11_wear 54 = .ok (.ldc2_w 171, 3) := by decide +kernel
theorem dX11_wear_57 : decode cX11_wear 57 = .ok (.lreturn, 1) := by decide +kernel
theorem dX11_wear_58 : decode cX11_wear 58 = .ok (.aload_n 0, 1) := by decide +kernel
theorem dX11_wear_59 : decode cX11_wear 59 = .ok (.iload_n 1, 1) := by decide +kernel
theorem dX11_wear_60 : decode cX11_wear 60 = .ok (.iload_n 2, 1) := by decide +kernel
theorem dX11_wear_61 : decode cX11_wear 61 = .ok (.iload_n 3, 1) := by decide +kernel
theorem dX11_wear_62 : decode cX11_wear 62 = .ok (.iload 4, 2) := by decide +kernel
theorem dX11_wear_64 : decode cX11_wear 64 = .ok (.invokevirtual 303, 3) := by decide +kernel
theorem dX11_wear_67 : decode cX11_wear 67 = .ok (.lstore 6, 2) := by decide +kernel
theorem dX11_wear_69 : decode cX11_wear 69 = .ok (.iload 5, 2) := by decide +kernel
theorem dX11_wear_71 : decode cX11_wear 71 = .ok (.ifCond .ne 8, 3) := by decide +kernel
theorem dX11_wear_74 : decode cX11_wear 74 = .ok (.lload 6, 2) := by decide +kernel
theorem dX11_wear_76 : decode cX11_wear 76 = .ok (.goto 22, 3) := by decide +kernel
theorem dX11_wear_79 : decode cX11_wear 79 = .ok (.iload 5, 2) := by decide +kernel
theorem dX11_wear_81 : decode cX11_wear 81 = .ok (.iconst 1, 1) := by decide +kernel
theorem dX11_wear_82 : decode cX11_wear 82 = .ok (.if_icmp .ne 11, 3) := by decide +kernel
theorem dX11_wear_85 : decode cX11_wear 85 = .ok (.aload_n 0, 1) := by decide +kernel
theorem dX11_wear_86 : decode cX11_wear 86 = .ok (.getfield 291, 3) := by decide +kernel
theorem dX11_wear_89 : decode cX11_wear 89 = .ok (.i2l, 1) := by decide +kernel
theorem dX11_wear_90 : decode cX11_wear 90 = .ok (.goto 8, 3) := by decide +kernel
theorem dX11_wear_93 : decode cX11_wear 93 = .ok (.aload_n 0, 1) := by decide +kernel
theorem dX11_wear_94 : decode cX11_wear 94 = .ok (.getfield 300, 3) := by decide +kernel
theorem dX11_wear_97 : decode cX11_wear 97 = .ok (.i2l, 1) := by decide +kernel
theorem dX11_wear_98 : decode cX11_wear 98 = .ok (.lreturn, 1) := by decide +kernel
theorem dX11_traffic_0 : decode cX11_traffic 0 = .ok (.aload_n 0, 1) := by decide +kernel
theorem dX11_traffic_1 : decode cX11_traffic 1 = .ok (.iload_n 1, 1) := by decide +kernel
theorem dX11_traffic_2 : decode cX11_traffic 2 = .ok (.invokevirtual 190, 3) := by decide +kernel
theorem dX11_traffic_5 : decode cX11_traffic 5 = .ok (.ifCond .eq 7, 3) := by decide +kernel
theorem dX11_traffic_8 : decode cX11_traffic 8 = .ok (.sipush (-1001), 3) := by decide +kernel
theorem dX11_traffic_11 : decode cX11_traffic 11 = .ok (.ireturn, 1) := by decide +kernel
theorem dX11_traffic_12 : decode cX11_traffic 12 = .ok (.iload_n 2, 1) := by decide +kernel
theorem dX11_traffic_13 : decode cX11_traffic 13 = .ok (.i2l, 1) := by decide +kernel
theorem dX11_traffic_14 : decode cX11_traffic 14 = .ok (.lconst 0, 1) := by decide +kernel
theorem dX11_traffic_15 : decode cX11_traffic 15 = .ok (.ldc2_w 306, 3) := by decide +kernel
theorem dX11_traffic_18 : decode cX11_traffic 18 = .ok (.invokestatic 133, 3) := by decide +kernel
theorem dX11_traffic_21 : decode cX11_traffic 21 = .ok (.ifCond .ne 7, 3) := by decide +kernel
theorem dX11_traffic_24 : decode cX11_traffic 24 = .ok (.sipush (-1002), 3) := by decide +kernel
theorem dX11_traffic_27 : decode cX11_traffic 27 = .ok (.ireturn, 1) := by decide +kernel
theorem dX11_traffic_28 : decode cX11_traffic 28 = .ok (.aload_n 0, 1) := by decide +kernel
theorem dX11_traffic_29 : decode cX11_traffic 29 = .ok (.getfield 53, 3) := by decide +kernel
theorem dX11_traffic_32 : decode cX11_traffic 32 = .ok (.iload_n 1, 1) := by decide +kernel
theorem dX11_traffic_33 : decode cX11_traffic 33 = .ok (.iaload, 1) := by decide +kernel
theorem dX11_traffic_34 : decode cX11_traffic 34 = .ok (.istore_n 3, 1) := by decide +kernel
theorem dX11_traffic_35 : decode cX11_traffic 35 = .ok (.aload_n 0, 1) := by decide +kernel
theorem dX11_traffic_36 : decode cX11_traffic 36 = .ok (.getfield 53, 3) := by decide +kernel
theorem dX11_traffic_39 : decode cX11_traffic 39 = .ok (.iload_n 1, 1) := by decide +kernel
theorem dX11_traffic_40 : decode cX11_traffic 40 = .ok (.iload_n 2, 1) := by decide +kernel
theorem dX11_traffic_41 : decode cX11_traffic 41 = .ok (.iastore, 1) := by decide +kernel
theorem dX11_traffic_42 : decode cX11_traffic 42 = .ok (.iload_n 3, 1) := by decide +kernel
theorem dX11_traffic_43 : decode cX11_traffic 43 = .ok (.ireturn, 1) := by decide +kernel
theorem dX11_worn_0 : decode cX11_worn 0 = .ok (.aload_n 0, 1) := by decide +kernel
theorem dX11_worn_1 : decode cX11_worn 1 = .ok (.iload_n 1, 1) := by decide +kernel
theorem dX11_worn_2 : decode cX11_worn 2 = .ok (.invokevirtual 158, 3) := by decide +kernel
theorem dX11_worn_5 : decode cX11_worn 5 = .ok (.ifCond .ne 13, 3) := by decide +kernel
theorem dX11_worn_8 : decode cX11_worn 8 = .ok (.aload_n 0, 1) := by decide +kernel
theorem dX11_worn_9 : decode cX11_worn 9 = .ok (.iload_n 1, 1) := by decide +kernel
theorem dX11_worn_10 : decode cX11_worn 10 = .ok (.iload_n 2, 1) := by decide +kernel
theorem dX11_worn_11 : decode cX11_worn 11 = .ok (.iload_n 3, 1) := by decide +kernel
theorem dX11_worn_12 : decode cX11_worn 12 = .ok (.invokevirtual 162, 3) := by decide +kernel
theorem dX11_worn_15 : decode cX11_worn 15 = .ok (.ifCond .eq 7, 3) := by decide +kernel
theorem dX11_worn_18 : decode cX11_worn 18 = .ok (.ldc2_w 166, 3) := by decide +kernel
theorem dX11_worn_21 : decode cX11_worn 21 = .ok (.lreturn, 1) := by decide +kernel
theorem dX11_worn_22 : decode cX11_worn 22 = .ok (.aload_n 0, 1) := by decide +kernel
theorem dX11_worn_23 : decode cX11_worn 23 = .ok (.iload_n 1, 1) := by decide +kernel
theorem dX11_worn_24 : decode cX11_worn 24 = .ok (.iload_n 2, 1) := by decide +kernel
theorem dX11_worn_25 : decode cX11_worn 25 = .ok (.iload_n 3, 1) := by decide +kernel
theorem dX11_worn_26 : decode cX11_worn 26 = .ok (.invokevirtual 168, 3) := by decide +kernel
theorem dX11_worn_29 : decode cX11_worn 29 = .ok (.ifCond .ne 7, 3) := by decide +kernel
theorem dX11_worn_32 : decode cX11_worn 32 = .ok (.ldc2_w 171, 3) := by decide +kernel
theorem dX11_worn_35 : decode cX11_worn 35 = .ok (.lreturn, 1) := by decide +kernel
theorem dX11_worn_36 : decode cX11_worn 36 = .ok (.lconst 0, 1) := by decide +kernel
theorem dX11_worn_37 : decode cX11_worn 37 = .ok (.lstore 4, 2) := by decide +kernel
theorem dX11_worn_39 : decode cX11_worn 39 = .ok (.iconst 0, 1) := by decide +kernel
theorem dX11_worn_40 : decode cX11_worn 40 = .ok (.istore 6, 2) := by decide +kernel
theorem dX11_worn_42 : decode cX11_worn 42 = .ok (.iload 6, 2) := by decide +kernel
theorem dX11_worn_44 : decode cX11_worn 44 = .ok (.aload_n 0, 1) := by decide +kernel
theorem dX11_worn_45 : decode cX11_worn 45 = .ok (.getfield 185, 3) := by decide +kernel
theorem dX11_worn_48 : decode cX11_worn 48 = .ok (.if_icmp .ge 32, 3) := by decide +kernel
theorem dX11_worn_51 : decode cX11_worn 51 = .ok (.lload 4, 2) := by decide +kernel
theorem dX11_worn_53 : decode cX11_worn 53 = .ok (.aload_n 0, 1) := by decide +kernel
theorem dX11_worn_54 : decode cX11_worn 54 = .ok (.getfield 53, 3) := by decide +kernel
theorem dX11_worn_57 : decode cX11_worn 57 = .ok (.iload 6, 2) := by decide +kernel
theorem dX11_worn_59 : decode cX11_worn 59 = .ok (.iaload, 1) := by decide +kernel
theorem dX11_worn_60 : decode cX11_worn 60 = .ok (.i2l, 1) := by decide +kernel
theorem dX11_worn_61 : decode cX11_worn 61 = .ok (.aload_n 0, 1) := by decide +kernel
theorem dX11_worn_62 : decode cX11_worn 62 = .ok (.iload_n 1, 1) := by decide +kernel
theorem dX11_worn_63 : decode cX11_worn 63 = .ok (.iload_n 2, 1) := by decide +kernel
theorem dX11_worn_64 : decode cX11_worn 64 = .ok (.iload_n 3, 1) := by decide +kernel
theorem dX11_worn_65 : decode cX11_worn 65 = .ok (.iload 6, 2) := by decide +kernel
theorem dX11_worn_67 : decode cX11_worn 67 = .ok (.invokevirtual 303, 3) := by decide +kernel
theorem dX11_worn_70 : decode cX11_worn 70 = .ok (.lmul, 1) := by decide +kernel
theorem dX11_worn_71 : decode cX11_worn 71 = .ok (.ladd, 1) := by decide +kernel
theorem dX11_worn_72 : decode cX11_worn 72 = .ok (.lstore 4, 2) := by decide +kernel
theorem dX11_worn_74 : decode cX11_worn 74 = .ok (.iinc 6 1, 3) := by decide +kernel
theorem dX11_worn_77 : decode cX11_worn 77 = .ok (.goto (-35), 3) := by decide +kernel
theorem dX11_worn_80 : decode cX11_worn 80 = .ok (.lload 4, 2) := by decide +kernel
theorem dX11_worn_82 : decode cX11_worn 82 = .ok (.lreturn, 1) := by decide +kernel
theorem dX11_count_0 : decode cX11_count 0 = .ok (.iconst 0, 1) := by decide +kernel
theorem dX11_count_1 : decode cX11_count 1 = .ok (.istore_n 2, 1) := by decide +kernel
theorem dX11_count_2 : decode cX11_count 2 = .ok (.iconst 0, 1) := by decide +kernel
theorem dX11_count_3 : decode cX11_count 3 = .ok (.istore_n 3, 1) := by decide +kernel
theorem dX11_count_4 : decode cX11_count 4 = .ok (.iconst 0, 1) := by decide +kernel
theorem dX11_count_5 : decode cX11_count 5 = .ok (.istore 4, 2) := by decide +kernel
theorem dX11_count_7 : decode cX11_count 7 = .ok (.iload 4, 2) := by decide +kernel
theorem dX11_count_9 : decode cX11_count 9 = .ok (.aload_n 0, 1) := by decide +kernel
theorem dX11_count_10 : decode cX11_count 10 = .ok (.getfield 143, 3) := by decide +kernel
theorem dX11_count_13 : decode cX11_count 13 = .ok (.if_icmp .ge 19, 3) := by decide +kernel
theorem dX11_count_16 : decode cX11_count 16 = .ok (.iload_n 2, 1) := by decide +kernel
theorem dX11_count_17 : decode cX11_count 17 = .ok (.aload_n 0, 1) := by decide +kernel
theorem dX11_count_18 : decode cX11_count 18 = .ok (.getfield 66, 3) := by decide +kernel
theorem dX11_count_21 : decode cX11_count 21 = .ok (.iload 4, 2) := by decide +kernel
theorem dX11_count_23 : decode cX11_count 23 = .ok (.iaload, 1) := by decide +kernel
theorem dX11_count_24 : decode cX11_count 24 = .ok (.iadd, 1) := by decide +kernel
theorem dX11_count_25 : decode cX11_count 25 = .ok (.istore_n 2, 1) := by decide +kernel
theorem dX11_count_26 : decode cX11_count 26 = .ok (.iinc 4 1, 3) := by decide +kernel
theorem dX11_count_29 : decode cX11_count 29 = .ok (.goto (-22), 3) := by decide +kernel
theorem dX11_count_32 : decode cX11_count 32 = .ok (.iconst 0, 1) := by decide +kernel
theorem dX11_count_33 : decode cX11_count 33 = .ok (.istore 4, 2) := by decide +kernel
theorem dX11_count_35 : decode cX11_count 35 = .ok (.iload 4, 2) := by decide +kernel
theorem dX11_count_37 : decode cX11_count 37 = .ok (.aload_n 0, 1) := by decide +kernel
theorem dX11_count_38 : decode cX11_count 38 = .ok (.getfield 185, 3) := by decide +kernel
theorem dX11_count_41 : decode cX11_count 41 = .ok (.if_icmp .ge 19, 3) := by decide +kernel
theorem dX11_count_44 : decode cX11_count 44 = .ok (.iload_n 3, 1) := by decide +kernel
theorem dX11_count_45 : decode cX11_count 45 = .ok (.aload_n 0, 1) := by decide +kernel
theorem dX11_count_46 : decode cX11_count 46 = .ok (.getfield 53, 3) := by decide +kernel
theorem dX11_count_49 : decode cX11_count 49 = .ok (.iload 4, 2) := by decide +kernel
theorem dX11_count_51 : decode cX11_count 51 = .ok (.iaload, 1) := by decide +kernel
theorem dX11_count_52 : decode cX11_count 52 = .ok (.iadd, 1) := by decide +kernel
theorem dX11_count_53 : decode cX11_count 53 = .ok (.istore_n 3, 1) := by decide +kernel
theorem dX11_count_54 : decode cX11_count 54 = .ok (.iinc 4 1, 3) := by decide +kernel
theorem dX11_count_57 : decode cX11_count 57 = .ok (.goto (-22), 3) := by decide +kernel
theorem dX11_count_60 : decode cX11_count 60 = .ok (.iload_n 1, 1) := by decide +kernel
theorem dX11_count_61 : decode cX11_count 61 = .ok (.tableswitch 63 0 5 #[39, 44, 49, 54, 56, 61], 39) := by decide +kernel
theorem dX11_count_100 : decode cX11_count 100 = .ok (.aload_n 0, 1) := by decide +kernel
theorem dX11_count_101 : decode cX11_count 101 = .ok (.getfield 143, 3) := by decide +kernel
theorem dX11_count_104 : decode cX11_count 104 = .ok (.ireturn, 1) := by decide +kernel
theorem dX11_count_105 : decode cX11_count 105 = .ok (.aload_n 0, 1) := by decide +kernel
theorem dX11_count_106 : decode cX11_count 106 = .ok (.getfield 185, 3) := by decide +kernel
theorem dX11_count_109 : decode cX11_count 109 = .ok (.ireturn, 1) := by decide +kernel
theorem dX11_count_110 : decode cX11_count 110 = .ok (.aload_n 0, 1) := by decide +kernel
theorem dX11_count_111 : decode cX11_count 111 = .ok (.getfield 263, 3) := by decide +kernel
theorem dX11_count_114 : decode cX11_count 114 = .ok (.ireturn, 1) := by decide +kernel
theorem dX11_count_115 : decode cX11_count 115 = .ok (.iload_n 2, 1) := by decide +kernel
theorem dX11_count_116 : decode cX11_count 116 = .ok (.ireturn, 1) := by decide +kernel
theorem dX11_count_117 : decode cX11_count 117 = .ok (.aload_n 0, 1) := by decide +kernel
theorem dX11_count_118 : decode cX11_count 118 = .ok (.getfield 56, 3) := by decide +kernel
theorem dX11_count_121 : decode cX11_count 121 = .ok (.ireturn, 1) := by decide +kernel
theorem dX11_count_122 : decode cX11_count 122 = .ok (.iload_n 3, 1) := by decide +kernel
theorem dX11_count_123 : decode cX11_count 123 = .ok (.ireturn, 1) := by decide +kernel
theorem dX11_count_124 : decode cX11_count 124 = .ok (.sipush (-1002), 3) := by decide +kernel
theorem dX11_count_127 : decode cX11_count 127 = .ok (.ireturn, 1) := by decide +kernel
