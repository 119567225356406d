theorem dX6_greatestDivisor_0 : decode cX6_greatestDivisor 0 = .ok (.lload_n 0, 1) := by decide +kernel
theorem dX6_greatestDivisor_1 : decode cX6_greatestDivisor 1 = .ok (.lstore 4, 2) := by decide +kernel
theorem dX6_greatestDivisor_3 : decode cX6_greatestDivisor 3 = .ok (.lload_n 2, 1) := by decide +kernel
theorem dX6_greatestDivisor_4 : decode cX6_greatestDivisor 4 = .ok (.lstore 6, 2) := by decide +kernel
theorem dX6_greatestDivisor_6 : decode cX6_greatestDivisor 6 = .ok (.iconst 0, 1) := by decide +kernel
theorem dX6_greatestDivisor_7 : decode cX6_greatestDivisor 7 = .ok (.istore 8, 2) := by decide +kernel
theorem dX6_greatestDivisor_9 : decode cX6_greatestDivisor 9 = .ok (.iload 8, 2) := by decide +kernel
theorem dX6_greatestDivisor_11 : decode cX6_greatestDivisor 11 = .ok (.bipush 100, 2) := by decide +kernel
theorem dX6_greatestDivisor_13 : decode cX6_greatestDivisor 13 = .ok (.if_icmp .ge 31, 3) := by decide +kernel
theorem dX6_greatestDivisor_16 : decode cX6_greatestDivisor 16 = .ok (.lload 6, 2) := by decide +kernel
theorem dX6_greatestDivisor_18 : decode cX6_greatestDivisor 18 = .ok (.lconst 0, 1) := by decide +kernel
theorem dX6_greatestDivisor_19 : decode cX6_greatestDivisor 19 = .ok (.lcmp, 1) := by decide +kernel
theorem dX6_greatestDivisor_20 : decode cX6_greatestDivisor 20 = .ok (.ifCond .eq 24, 3) := by decide +kernel
theorem dX6_greatestDivisor_23 : decode cX6_greatestDivisor 23 = .ok (.lload 4, 2) := by decide +kernel
theorem dX6_greatestDivisor_25 : decode cX6_greatestDivisor 25 = .ok (.lload 6, 2) := by decide +kernel
theorem dX6_greatestDivisor_27 : decode cX6_greatestDivisor 27 = .ok (.lrem, 1) := by decide +kernel
theorem dX6_greatestDivisor_28 : decode cX6_greatestDivisor 28 = .ok (.lstore 9, 2) := by decide +kernel
theorem dX6_greatestDivisor_30 : decode cX6_greatestDivisor 30 = .ok (.lload 6, 2) := by decide +kernel
theorem dX6_greatestDivisor_32 : decode cX6_greatestDivisor 32 = .ok (.lstore 4, 2) := by decide +kernel
theorem dX6_greatestDivisor_34 : decode cX6_greatestDivisor 34 = .ok (.lload 9, 2) := by decide +kernel
theorem dX6_greatestDivisor_36 : decode cX6_greatestDivisor 36 = .ok (.lstore 6, 2) := by decide +kernel
theorem dX6_greatestDivisor_38 : decode cX6_greatestDivisor 38 = .ok (.iinc 8 1, 3) := by decide +kernel
theorem dX6_greatestDivisor_41 : decode cX6_greatestDivisor 41 = .ok (.goto (-32), 3) := by decide +kernel
theorem dX6_greatestDivisor_44 : decode cX6_greatestDivisor 44 = .ok (.lload 4, 2) := by decide +kernel
theorem dX6_greatestDivisor_46 : decode cX6_greatestDivisor 46 = .ok (.lreturn, 1) := by decide +kernel
theorem dX7_init_0 : decode cX7_init 0 = .ok (.aload_n 0, 1) := by decide +kernel
theorem dX7_init_1 : decode cX7_init 1 = .ok (.invokespecial 1, 3) := by decide +kernel
theorem dX7_init_4 : decode cX7_init 4 = .ok (.aload_n 0, 1) := by decide +kernel
theorem dX7_init_5 : decode cX7_init 5 = .ok (.sipush 180, 3) := by decide +kernel
theorem dX7_init_8 : decode cX7_init 8 = .ok (.newarray .int, 2) := by decide +kernel
theorem dX7_init_10 : decode cX7_init 10 = .ok (.putfield 7, 3) := by decide +kernel
theorem dX7_init_13 : decode cX7_init 13 = .ok (.aload_n 0, 1) := by decide +kernel
theorem dX7_init_14 : decode cX7_init 14 = .ok (.bipush 36, 2) := by decide +kernel
theorem dX7_init_16 : decode cX7_init 16 = .ok (.newarray .int, 2) := by decide +kernel
theorem dX7_init_18 : decode cX7_init 18 = .ok (.putfield 13, 3) := by decide +kernel
theorem dX7_init_21 : decode cX7_init 21 = .ok (.aload_n 0, 1) := by decide +kernel
theorem dX7_init_22 : decode cX7_init 22 = .ok (.sipush 160, 3) := by decide +kernel
theorem dX7_init_25 : decode cX7_init 25 = .ok (.newarray .int, 2) := by decide +kernel
theorem dX7_init_27 : decode cX7_init 27 = .ok (.putfield 16, 3) := by decide +kernel
theorem dX7_init_30 : decode cX7_init 30 = .ok (.aload_n 0, 1) := by decide +kernel
theorem dX7_init_31 : decode cX7_init 31 = .ok (.bipush 8, 2) := by decide +kernel
theorem dX7_init_33 : decode cX7_init 33 = .ok (.newarray .int, 2) := by decide +kernel
theorem dX7_init_35 : decode cX7_init 35 = .ok (.dup, 1) := by decide +kernel
theorem dX7_init_36 : decode cX7_init 36 = .ok (.iconst 0, 1) := by decide +kernel
theorem dX7_init_37 : decode cX7_init 37 = .ok (.iconst 0, 1) := by decide +kernel
theorem dX7_init_38 : decode cX7_init 38 = .ok (.iastore, 1) := by decide +kernel
theorem dX7_init_39 : decode cX7_init 39 = .ok (.dup, 1) := by decide +kernel
theorem dX7_init_40 : decode cX7_init 40 = .ok (.iconst 1, 1) := by decide +kernel
theorem dX7_init_41 : decode cX7_init 41 = .ok (.iconst 4, 1) := by decide +kernel
theorem dX7_init_42 : decode cX7_init 42 = .ok (.iastore, 1) := by decide +kernel
theorem dX7_init_43 : decode cX7_init 43 = .ok (.dup, 1) := by decide +kernel
theorem dX7_init_44 : decode cX7_init 44 = .ok (.iconst 2, 1) := by decide +kernel
theorem dX7_init_45 : decode cX7_init 45 = .ok (.bipush 9, 2) := by decide +kernel
theorem dX7_init_47 : decode cX7_init 47 = .ok (.iastore, 1) := by decide +kernel
theorem dX7_init_48 : decode cX7_init 48 = .ok (.dup, 1) := by decide +kernel
theorem dX7_init_49 : decode cX7_init 49 = .ok (.iconst 3, 1) := by decide +kernel
theorem dX7_init_50 : decode cX7_init 50 = .ok (.bipush 17, 2) := by decide +kernel
theorem dX7_init_52 : decode cX7_init 52 = .ok (.iastore, 1) := by decide +kernel
theorem dX7_init_53 : decode cX7_init 53 = .ok (.dup, 1) := by decide +kernel
theorem dX7_init_54 : decode cX7_init 54 = .ok (.iconst 4, 1) := by decide +kernel
theorem dX7_init_55 : decode cX7_init 55 = .ok (.bipush 22, 2) := by decide +kernel
theorem dX7_init_57 : decode cX7_init 57 = .ok (.iastore, 1) := by decide +kernel
theorem dX7_init_58 : decode cX7_init 58 = .ok (.dup, 1) := by decide +kernel
theorem dX7_init_59 : decode cX7_init 59 = .ok (.iconst 5, 1) := by decide +kernel
theorem dX7_init_60 : decode cX7_init 60 = .ok (.bipush 28, 2) := by decide +kernel
theorem dX7_init_62 : decode cX7_init 62 = .ok (.iastore, 1) := by decide +kernel
theorem dX7_init_63 : decode cX7_init 63 = .ok (.dup, 1) := by decide +kernel
theorem dX7_init_64 : decode cX7_init 64 = .ok (.bipush 6, 2) := by decide +kernel
theorem dX7_init_66 : decode cX7_init 66 = .ok (.bipush 32, 2) := by decide +kernel
theorem dX7_init_68 : decode cX7_init 68 = .ok (.iastore, 1) := by decide +kernel
theorem dX7_init_69 : decode cX7_init 69 = .ok (.dup, 1) := by decide +kernel
theorem dX7_init_70 : decode cX7_init 70 = .ok (.bipush 7, 2) := by decide +kernel
theorem dX7_init_72 : decode cX7_init 72 = .ok (.bipush 36, 2) := by decide +kernel
theorem dX7_init_74 : decode cX7_init 74 = .ok (.iastore, 1) := by decide +kernel
theorem dX7_init_75 : decode cX7_init 75 = .ok (.putfield 19, 3) := by decide +kernel
theorem dX7_init_78 : decode cX7_init 78 = .ok (.aload_n 0, 1) := by decide +kernel
theorem dX7_init_79 : decode cX7_init 79 = .ok (.bipush 36, 2) := by decide +kernel
theorem dX7_init_81 : decode cX7_init 81 = .ok (.newarray .int, 2) := by decide +kernel
theorem dX7_init_83 : decode cX7_init 83 = .ok (.dup, 1) := by decide +kernel
theorem dX7_init_84 : decode cX7_init 84 = .ok (.iconst 0, 1) := by decide +kernel
theorem dX7_init_85 : decode cX7_init 85 = .ok (.bipush 115, 2) := by decide +kernel
theorem dX7_init_87 : decode cX7_init 87 = .ok (.iastore, 1) := by decide +kernel
theorem dX7_init_88 : decode cX7_init 88 = .ok (.dup, 1) := by decide +kernel
theorem dX7_init_89 : decode cX7_init 89 = .ok (.iconst 1, 1) := by decide +kernel
theorem dX7_init_90 : decode cX7_init 90 = .ok (.bipush 116, 2) := by decide +kernel
theorem dX7_init_92 : decode cX7_init 92 = .ok (.iastore, 1) := by decide +kernel
theorem dX7_init_93 : decode cX7_init 93 = .ok (.dup, 1) := by decide +kernel
theorem dX7_init_94 : decode cX7_init 94 = .ok (.iconst 2, 1) := by decide +kernel
theorem dX7_init_95 : decode cX7_init 95 = .ok (.bipush 97, 2) := by decide +kernel
theorem dX7_init_97 : decode cX7_init 97 = .ok (.iastore, 1) := by decide +kernel
theorem dX7_init_98 : decode cX7_init 98 = .ok (.dup, 1) := by decide +kernel
theorem dX7_init_99 : decode cX7_init 99 = .ok (.iconst 3, 1) := by decide +kernel
theorem dX7_init_100 : decode cX7_init 100 = .ok (.bipush 114, 2) := by decide +kernel
theorem dX7_init_102 : decode cX7_init 102 = .ok (.iastore, 1) := by decide +kernel
theorem dX7_init_103 : decode cX7_init 103 = .ok (.dup, 1) := by decide +kernel
theorem dX7_init_104 : decode cX7_init 104 = .ok (.iconst 4, 1) := by decide +kernel
theorem dX7_init_105 : decode cX7_init 105 = .ok (.bipush 119, 2) := by decide +kernel
theorem dX7_init_107 : decode cX7_init 107 = .ok (.iastore, 1) := by decide +kernel
theorem dX7_init_108 : decode cX7_init 108 = .ok (.dup, 1) := by decide +kernel
theorem dX7_init_109 : decode cX7_init 109 = .ok (.iconst 5, 1) := by decide +kernel
theorem dX7_init_110 : decode cX7_init 110 = .ok (.bipush 104, 2) := by decide +kernel
theorem dX7_init_112 : decode cX7_init 112 = .ok (.iastore, 1) := by decide +kernel
theorem dX7_init_113 : decode cX7_init 113 = .ok (.dup, 1) := by decide +kernel
theorem dX7_init_114 : decode cX7_init 114 = .ok (.bipush 6, 2) := by decide +kernel
theorem dX7_init_116 : decode cX7_init 116 = .ok (.bipush 101, 2) := by decide +kernel
theorem dX7_init_118 : decode cX7_init 118 = .ok (.iastore, 1) := by decide +kernel
theorem dX7_init_119 : decode cX7_init 119 = .ok (.dup, 1) := by decide +kernel
theorem dX7_init_120 : decode cX7_init 120 = .ok (.bipush 7, 2) := by decide +kernel
theorem dX7_init_122 : decode cX7_init 122 = .ok (.bipush 101, 2) := by decide +kernel
theorem dX7_init_124 : decode cX7_init 124 = .ok (.iastore, 1) := by decide +kernel
theorem dX7_init_125 : decode cX7_init 125 = .ok (.dup, 1) := by decide +kernel
theorem dX7_init_126 : decode cX7_init 126 = .ok (.bipush 8, 2) := by decide +kernel
theorem dX7_init_128 : decode cX7_init 128 = .ok (.bipush 108, 2) := by decide +kernel
theorem dX7_init_130 : decode cX7_init 130 = .ok (.iastore, 1) := by decide +kernel
theorem dX7_init_131 : decode cX7_init 131 = .ok (.dup, 1) := by decide +kernel
theorem dX7_init_132 : decode cX7_init 132 = .ok (.bipush 9, 2) := by decide +kernel
theorem dX7_init_134 : decode cX7_init 134 = .ok (.bipush 102, 2) := by decide +kernel
theorem dX7_init_136 : decode cX7_init 136 = .ok (.iastore, 1) := by decide +kernel
theorem dX7_init_137 : decode cX7_init 137 = .ok (.dup, 1) := by decide +kernel
theorem dX7_init_138 : decode cX7_init 138 = .ok (.bipush 10, 2) := by decide +kernel
theorem dX7_init_140 : decode cX7_init 140 = .ok (.bipush 111, 2) := by decide +kernel
theorem dX7_init_142 : decode cX7_init 142 = .ok (.iastore, 1) := by decide +kernel
theorem dX7_init_143 : decode cX7_init 143 = .ok (.dup, 1) := by decide +kernel
theorem dX7_init_144 : decode cX7_init 144 = .ok (.bipush 11, 2) := by decide +kernel
theorem dX7_init_146 : decode cX7_init 146 = .ok (.bipush 117, 2) := by decide +kernel
theorem dX7_init_148 : decode cX7_init 148 = .ok (.iastore, 1) := by decide +kernel
theorem dX7_init_149 : decode cX7_init 149 = .ok (.dup, 1) := by decide +kernel
theorem dX7_init_150 : decode cX7_init 150 = .ok (.bipush 12, 2) := by decide +kernel
theorem dX7_init_152 : decode cX7_init 152 = .ok (.bipush 110, 2) := by decide +kernel
theorem dX7_init_154 : decode cX7_init 154 = .ok (.iastore, 1) := by decide +kernel
theorem dX7_init_155 : decode cX7_init 155 = .ok (.dup, 1) := by decide +kernel
theorem dX7_init_156 : decode cX7_init 156 = .ok (.bipush 13, 2) := by decide +kernel
theorem dX7_init_158 : decode cX7_init 158 = .ok (.bipush 116, 2) := by decide +kernel
theorem dX7_init_160 : decode cX7_init 160 = .ok (.iastore, 1) := by decide +kernel
theorem dX7_init_161 : decode cX7_init 161 = .ok (.dup, 1) := by decide +kernel
theorem dX7_init_162 : decode cX7_init 162 = .ok (.bipush 14, 2) := by decide +kernel
theorem dX7_init_164 : decode cX7_init 164 = .ok (.bipush 97, 2) := by decide +kernel
theorem dX7_init_166 : decode cX7_init 166 = .ok (.iastore, 1) := by decide +kernel
theorem dX7_init_167 : decode cX7_init 167 = .ok (.dup, 1) := by decide +kernel
theorem dX7_init_168 : decode cX7_init 168 = .ok (.bipush 15, 2) := by decide +kernel
theorem dX7_init_170 : decode cX7_init 170 = .ok (.bipush 105, 2) := by decide +kernel
theorem dX7_init_172 : decode cX7_init 172 = .ok (.iastore, 1) := by decide +kernel
theorem dX7_init_173 : decode cX7_init 173 = .ok (.dup, 1) := by decide +kernel
theorem dX7_init_174 : decode cX7_init 174 = .ok (.bipush 16, 2) := by decide +kernel
theorem dX7_init_176 : decode cX7_init 176 = .ok (.bipush 110, 2) := by decide +kernel
theorem dX7_init_178 : decode cX7_init 178 = .ok (.iastore, 1) := by decide +kernel
theorem dX7_init_179 : decode cX7_init 179 = .ok (.dup, 1) := by decide +kernel
theorem dX7_init_180 : decode cX7_init 180 = .ok (.bipush 17, 2) := by decide +kernel
theorem dX7_init_182 : decode cX7_init 182 = .ok (.bipush 115, 2) := by decide +kernel
theorem dX7_init_184 : decode cX7_init 184 = .ok (.iastore, 1) := by decide +kernel
theorem dX7_init_185 : decode cX7_init 185 = .ok (.dup, 1) := by decide +kernel
theorem dX7_init_186 : decode cX7_init 186 = .ok (.bipush 18, 2) := by decide +kernel
theorem dX7_init_188 : decode cX7_init 188 = .ok (.bipush 113, 2) := by decide +kernel
theorem dX7_init_190 : decode cX7_init 190 = .ok (.iastore, 1) := by decide +kernel
theorem dX7_init_191 : decode cX7_init 191 = .ok (.dup, 1) := by decide +kernel
theorem dX7_init_192 : decode cX7_init 192 = .ok (.bipush 19, 2) := by decide +kernel
theorem dX7_init_194 : decode cX7_init 194 = .ok (.bipush 117, 2) := by decide +kernel
theorem dX7_init_196 : decode cX7_init 196 = .ok (.iastore, 1) := by decide +kernel
theorem dX7_init_197 : decode cX7_init 197 = .ok (.dup, 1) := by decide +kernel
theorem dX7_init_198 : decode cX7_init 198 = .ok (.bipush 20, 2) := by decide +kernel
theorem dX7_init_200 : decode cX7_init 200 = .ok (.bipush 105, 2) := by decide +kernel
theorem dX7_init_202 : decode cX7_init 202 = .ok (.iastore, 1) := by decide +kernel
theorem dX7_init_203 : decode cX7_init 203 = .ok (.dup, 1) := by decide +kernel
theorem dX7_init_204 : decode cX7_init 204 = .ok (.bipush 21, 2) := by decide +kernel
theorem dX7_init_206 : decode cX7_init 206 = .ok (.bipush 98, 2) := by decide +kernel
theorem dX7_init_208 : decode cX7_init 208 = .ok (.iastore, 1) := by decide +kernel
theorem dX7_init_209 : decode cX7_init 209 = .ok (.dup, 1) := by decide +kernel
theorem dX7_init_210 : decode cX7_init 210 = .ok (.bipush 22, 2) := by decide +kernel
theorem dX7_init_212 : decode cX7_init 212 = .ok (.bipush 114, 2) := by decide +kernel
theorem dX7_init_214 : decode cX7_init 214 = .ok (.iastore, 1) := by decide +kernel
theorem dX7_init_215 : decode cX7_init 215 = .ok (.dup, 1) := by decide +kernel
theorem dX7_init_216 : decode cX7_init 216 = .ok (.bipush 23, 2) := by decide +kernel
theorem dX7_init_218 : decode cX7_init 218 = .ok (.bipush 101, 2) := by decide +kernel
theorem dX7_init_220 : decode cX7_init 220 = .ok (.iastore, 1) := by decide +kernel
theorem dX7_init_221 : decode cX7_init 221 = .ok (.dup, 1) := by decide +kernel
theorem dX7_init_222 : decode cX7_init 222 = .ok (.bipush 24, 2) := by decide +kernel
theorem dX7_init_224 : decode cX7_init 224 = .ok (.bipush 97, 2) := by decide +kernel
theorem dX7_init_226 : decode cX7_init 226 = .ok (.iastore, 1) := by decide +kernel
theorem dX7_init_227 : decode cX7_init 227 = .ok (.dup, 1) := by decide +kernel
theorem dX7_init_228 : decode cX7_init 228 = .ok (.bipush 25, 2) := by decide +kernel
theorem dX7_init_230 : decode cX7_init 230 = .ok (.bipush 100, 2) := by decide +kernel
theorem dX7_init_232 : decode cX7_init 232 = .ok (.iastore, 1) := by decide +kernel
theorem dX7_init_233 : decode cX7_init 233 = .ok (.dup, 1) := by decide +kernel
theorem dX7_init_234 : decode cX7_init 234 = .ok (.bipush 26, 2) := by decide +kernel
theorem dX7_init_236 : decode cX7_init 236 = .ok (.bipush 101, 2) := by decide +kernel
theorem dX7_init_238 : decode cX7_init 238 = .ok (.iastore, 1) := by decide +kernel
theorem dX7_init_239 : decode cX7_init 239 = .ok (.dup, 1) := by decide +kernel
theorem dX7_init_240 : decode cX7_init 240 = .ok (.bipush 27, 2) := by decide +kernel
theorem dX7_init_242 : decode cX7_init 242 = .ok (.bipush 114, 2) := by decide +kernel
theorem dX7_init_244 : decode cX7_init 244 = .ok (.iastore, 1) := by decide +kernel
theorem dX7_init_245 : decode cX7_init 245 = .ok (.dup, 1) := by decide +kernel
theorem dX7_init_246 : decode cX7_init 246 = .ok (.bipush 28, 2) := by decide +kernel
theorem dX7_init_248 : decode cX7_init 248 = .ok (.bipush 119, 2) := by decide +kernel
theorem dX7_init_250 : decode cX7_init 250 = .ok (.iastore, 1) := by decide +kernel
theorem dX7_init_251 : decode cX7_init 251 = .ok (.dup, 1) := by decide +kernel
theorem dX7_init_252 : decode cX7_init 252 = .ok (.bipush 29, 2) := by decide +kernel
theorem dX7_init_254 : decode cX7_init 254 = .ok (.bipush 105, 2) := by decide +kernel
theorem dX7_init_256 : decode cX7_init 256 = .ok (.iastore, 1) := by decide +kernel
theorem dX7_init_257 : decode cX7_init 257 = .ok (.dup, 1) := by decide +kernel
theorem dX7_init_258 : decode cX7_init 258 = .ok (.bipush 30, 2) := by decide +kernel
theorem dX7_init_260 : decode cX7_init 260 = .ok (.bipush 110, 2) := by decide +kernel
theorem dX7_init_262 : decode cX7_init 262 = .ok (.iastore, 1) := by decide +kernel
theorem dX7_init_263 : decode cX7_init 263 = .ok (.dup, 1) := by decide +kernel
theorem dX7_init_264 : decode cX7_init 264 = .ok (.bipush 31, 2) := by decide +kernel
theorem dX7_init_266 : decode cX7_init 266 = .ok (.bipush 100, 2) := by decide +kernel
theorem dX7_init_268 : decode cX7_init 268 = .ok (.iastore, 1) := by decide +kernel
theorem dX7_init_269 : decode cX7_init 269 = .ok (.dup, 1) := by decide +kernel
theorem dX7_init_270 : decode cX7_init 270 = .ok (.bipush 32, 2) := by decide +kernel
theorem dX7_init_272 : decode cX7_init 272 = .ok (.bipush 100, 2) := by decide +kernel
theorem dX7_init_274 : decode cX7_init 274 = .ok (.iastore, 1) := by decide +kernel
theorem dX7_init_275 : decode cX7_init 275 = .ok (.dup, 1) := by decide +kernel
theorem dX7_init_276 : decode cX7_init 276 = .ok (.bipush 33, 2) := by decide +kernel
theorem dX7_init_278 : decode cX7_init 278 = .ok (.bipush 97, 2) := by decide +kernel
theorem dX7_init_280 : decode cX7_init 280 = .ok (.iastore, 1) := by decide +kernel
theorem dX7_init_281 : decode cX7_init 281 = .ok (.dup, 1) := by decide +kernel
theorem dX7_init_282 : decode cX7_init 282 = .ok (.bipush 34, 2) := by decide +kernel
theorem dX7_init_284 : decode cX7_init 284 = .ok (.bipush 109, 2) := by decide +kernel
theorem dX7_init_286 : decode cX7_init 286 = .ok (.iastore, 1) := by decide +kernel
theorem dX7_init_287 : decode cX7_init 287 = .ok (.dup, 1) := by decide +kernel
theorem dX7_init_288 : decode cX7_init 288 = .ok (.bipush 35, 2) := by decide +kernel
theorem dX7_init_290 : decode cX7_init 290 = .ok (.bipush 112, 2) := by decide +kernel
theorem dX7_init_292 : decode cX7_init 292 = .ok (.iastore, 1) := by decide +kernel
theorem dX7_init_293 : decode cX7_init 293 = .ok (.putfield 22, 3) := by decide +kernel
theorem dX7_init_296 : decode cX7_init 296 = .ok (.aload_n 0, 1) := by decide +kernel
theorem dX7_init_297 : decode cX7_init 297 = .ok (.bipush 24, 2) := by decide +kernel
theorem dX7_init_299 : decode cX7_init 299 = .ok (.newarray .int, 2) := by decide +kernel
theorem dX7_init_301 : decode cX7_init 301 = .ok (.putfield 25, 3) := by decide +kernel
theorem dX7_init_304 : decode cX7_init 304 = .ok (.aload_n 0, 1) := by decide +kernel
theorem dX7_init_305 : decode cX7_init 305 = .ok (.bipush 12, 2) := by decide +kernel
theorem dX7_init_307 : decode cX7_init 307 = .ok (.newarray .int, 2) := by decide +kernel
theorem dX7_init_309 : decode cX7_init 309 = .ok (.putfield 28, 3) := by decide +kernel
theorem dX7_init_312 : decode cX7_init 312 = .ok (.aload_n 0, 1) := by decide +kernel
theorem dX7_init_313 : decode cX7_init 313 = .ok (.bipush 54, 2) := by decide +kernel
theorem dX7_init_315 : decode cX7_init 315 = .ok (.newarray .int, 2) := by decide +kernel
theorem dX7_init_317 : decode cX7_init 317 = .ok (.putfield 31, 3) := by decide +kernel
theorem dX7_init_320 : decode cX7_init 320 = .ok (.aload_n 0, 1) := by decide +kernel
theorem dX7_init_321 : decode cX7_init 321 = .ok (.iconst 2, 1) := by decide +kernel
theorem dX7_init_322 : decode cX7_init 322 = .ok (.newarray .boolean, 2) := by decide +kernel
theorem dX7_init_324 : decode cX7_init 324 = .ok (.putfield 34, 3) := by decide +kernel
theorem dX7_init_327 : decode cX7_init 327 = .ok (.aload_n 0, 1) := by decide +kernel
theorem dX7_init_328 : decode cX7_init 328 = .ok (.iconst 4, 1) := by decide +kernel
theorem dX7_init_329 : decode cX7_init 329 = .ok (.newarray .int, 2) := by decide +kernel
theorem dX7_init_331 : decode cX7_init 331 = .ok (.dup, 1) := by decide +kernel
theorem dX7_init_332 : decode cX7_init 332 = .ok (.iconst 0, 1) := by decide +kernel
theorem dX7_init_333 : decode cX7_init 333 = .ok (.bipush (-4), 2) := by decide +kernel
theorem dX7_init_335 : decode cX7_init 335 = .ok (.iastore, 1) := by decide +kernel
theorem dX7_init_336 : decode cX7_init 336 = .ok (.dup, 1) := by decide +kernel
theorem dX7_init_337 : decode cX7_init 337 = .ok (.iconst 1, 1) := by decide +kernel
theorem dX7_init_338 : decode cX7_init 338 = .ok (.bipush (-4), 2) := by decide +kernel
theorem dX7_init_340 : decode cX7_init 340 = .ok (.iastore, 1) := by decide +kernel
theorem dX7_init_341 : decode cX7_init 341 = .ok (.dup, 1) := by decide +kernel
theorem dX7_init_342 : decode cX7_init 342 = .ok (.iconst 2, 1) := by decide +kernel
theorem dX7_init_343 : decode cX7_init 343 = .ok (.bipush (-4), 2) := by decide +kernel
theorem dX7_init_345 : decode cX7_init 345 = .ok (.iastore, 1) := by decide +kernel
theorem dX7_init_346 : decode cX7_init 346 = .ok (.dup, 1) := by decide +kernel
theorem dX7_init_347 : decode cX7_init 347 = .ok (.iconst 3, 1) := by decide +kernel
theorem dX7_init_348 : decode cX7_init 348 = .ok (.bipush (-4), 2) := by decide +kernel
theorem dX7_init_350 : decode cX7_init 350 = .ok (.iastore, 1) := by decide +kernel
theorem dX7_init_351 : decode cX7_init 351 = .ok (.putfield 38, 3) := by decide +kernel
theorem dX7_init_354 : decode cX7_init 354 = .ok (.aload_n 0, 1) := by decide +kernel
theorem dX7_init_355 : decode cX7_init 355 = .ok (.iconst 4, 1) := by decide +kernel
theorem dX7_init_356 : decode cX7_init 356 = .ok (.newarray .int, 2) := by decide +kernel
theorem dX7_init_358 : decode cX7_init 358 = .ok (.putfield 41, 3) := by decide +kernel
theorem dX7_init_361 : decode cX7_init 361 = .ok (.aload_n 0, 1) := by decide +kernel
theorem dX7_init_362 : decode cX7_init 362 = .ok (.sipush 160, 3) := by decide +kernel
theorem dX7_init_365 : decode cX7_init 365 = .ok (.newarray .int, 2) := by decide +kernel
theorem dX7_init_367 : decode cX7_init 367 = .ok (.putfield 44, 3) := by decide +kernel
theorem dX7_init_370 : decode cX7_init 370 = .ok (.return_, 1) := by decide +kernel
theorem dX7_in_0 : decode cX7_in 0 = .ok (.lload_n 0, 1) := by decide +kernel
theorem dX7_in_1 : decode cX7_in 1 = .ok (.lload_n 2, 1) := by decide +kernel
theorem dX7_in_2 : decode cX7_in 2 = .ok (.lcmp, 1) := by decide +kernel
theorem dX7_in_3 : decode cX7_in 3 = .ok (.ifCond .lt 14, 3) := by decide +kernel
theorem dX7_in_6 : decode cX7_in 6 = .ok (.lload_n 0, 1) := by decide +kernel
theorem dX7_in_7 : decode cX7_in 7 = .ok (.lload 4, 2) := by decide +kernel
theorem dX7_in_9 : decode cX7_in 9 = .ok (.lcmp, 1) := by decide +kernel
theorem dX7_in_10 : decode cX7_in 10 = .ok (.ifCond .gt 7, 3) := by decide +kernel
theorem dX7_in_13 : decode cX7_in 13 = .ok (.iconst 1, 1) := by decide +kernel
theorem dX7_in_14 : decode cX7_in 14 = .ok (.goto 4, 3) := by decide +kernel
theorem dX7_in_17 : decode cX7_in 17 = .ok (.iconst 0, 1) := by decide +kernel
theorem dX7_in_18 : decode cX7_in 18 = .ok (.ireturn, 1) := by decide +kernel
theorem dX7_feed_0 : decode cX7_feed 0 = .ok (.iload_n 1, 1) := by decide +kernel
theorem dX7_feed_1 : decode cX7_feed 1 = .ok (.i2l, 1) := by decide +kernel
theorem dX7_feed_2 : decode cX7_feed 2 = .ok (.lconst 0, 1) := by decide +kernel
theorem dX7_feed_3 : decode cX7_feed 3 = .ok (.ldc2_w 47, 3) := by decide +kernel
theorem dX7_feed_6 : decode cX7_feed 6 = .ok (.invokestatic 49, 3) := by decide +kernel
theorem dX7_feed_9 : decode cX7_feed 9 = .ok (.ifCond .ne 5, 3) := by decide +kernel
theorem dX7_feed_12 : decode cX7_feed 12 = .ok (.iconst (-1), 1) := by decide +kernel
theorem dX7_feed_13 : decode cX7_feed 13 = .ok (.ireturn, 1) := by decide +kernel
theorem dX7_feed_14 : decode cX7_feed 14 = .ok (.aload_n 0, 1) := by decide +kernel
theorem dX7_feed_15 : decode cX7_feed 15 = .ok (.getfield 53, 3) := by decide +kernel
theorem dX7_feed_18 : decode cX7_feed 18 = .ok (.sipush 160, 3) := by decide +kernel
theorem dX7_feed_21 : decode cX7_feed 21 = .ok (.if_icmp .ne 6, 3) := by decide +kernel
theorem dX7_feed_24 : decode cX7_feed 24 = .ok (.bipush (-3), 2) := by decide +kernel
theorem dX7_feed_26 : decode cX7_feed 26 = .ok (.ireturn, 1) := by decide +kernel
theorem dX7_feed_27 : decode cX7_feed 27 = .ok (.aload_n 0, 1) := by decide +kernel
theorem dX7_feed_28 : decode cX7_feed 28 = .ok (.getfield 16, 3) := by decide +kernel
theorem dX7_feed_31 : decode cX7_feed 31 = .ok (.aload_n 0, 1) := by decide +kernel
theorem dX7_feed_32 : decode cX7_feed 32 = .ok (.getfield 53, 3) := by decide +kernel
theorem dX7_feed_35 : decode cX7_feed 35 = .ok (.iload_n 1, 1) := by decide +kernel
theorem dX7_feed_36 : decode cX7_feed 36 = .ok (.iastore, 1) := by decide +kernel
theorem dX7_feed_37 : decode cX7_feed 37 = .ok (.aload_n 0, 1) := by decide +kernel
theorem dX7_feed_38 : decode cX7_feed 38 = .ok (.dup, 1) := by decide +kernel
theorem dX7_feed_39 : decode cX7_feed 39 = .ok (.getfield 53, 3) := by decide +kernel
theorem dX7_feed_42 : decode cX7_feed 42 = .ok (.iconst 1, 1) := by decide +kernel
theorem dX7_feed_43 : decode cX7_feed 43 = .ok (.iadd, 1) := by decide +kernel
theorem dX7_feed_44 : decode cX7_feed 44 = .ok (.putfield 53, 3) := by decide +kernel
theorem dX7_feed_47 : decode cX7_feed 47 = .ok (.aload_n 0, 1) := by decide +kernel
theorem dX7_feed_48 : decode cX7_feed 48 = .ok (.getfield 53, 3) := by decide +kernel
theorem dX7_feed_51 : decode cX7_feed 51 = .ok (.ireturn, 1) := by decide +kernel
theorem dX7_end_0 : decode cX7_end 0 = .ok (.iload_n 1, 1) := by decide +kernel
theorem dX7_end_1 : decode cX7_end 1 = .ok (.i2l, 1) := by decide +kernel
theorem dX7_end_2 : decode cX7_end 2 = .ok (.lconst 0, 1) := by decide +kernel
theorem dX7_end_3 : decode cX7_end 3 = .ok (.aload_n 0, 1) := by decide +kernel
theorem dX7_end_4 : decode cX7_end 4 = .ok (.getfield 53, 3) := by decide +kernel
theorem dX7_end_7 : decode cX7_end 7 = .ok (.i2l, 1) := by decide +kernel
theorem dX7_end_8 : decode cX7_end 8 = .ok (.invokestatic 49, 3) := by decide +kernel
theorem dX7_end_11 : decode cX7_end 11 = .ok (.ifCond .ne 5, 3) := by decide +kernel
theorem dX7_end_14 : decode cX7_end 14 = .ok (.iconst (-1), 1) := by decide +kernel
theorem dX7_end_15 : decode cX7_end 15 = .ok (.ireturn, 1) := by decide +kernel
theorem dX7_end_16 : decode cX7_end 16 = .ok (.aload_n 0, 1) := by decide +kernel
theorem dX7_end_17 : decode cX7_end 17 = .ok (.getfield 53, 3) := by decide +kernel
theorem dX7_end_20 : decode cX7_end 20 = .ok (.istore_n 2, 1) := by decide +kernel
theorem dX7_end_21 : decode cX7_end 21 = .ok (.aload_n 0, 1) := by decide +kernel
theorem dX7_end_22 : decode cX7_end 22 = .ok (.iload_n 1, 1) := by decide +kernel
theorem dX7_end_23 : decode cX7_end 23 = .ok (.putfield 53, 3) := by decide +kernel
theorem dX7_end_26 : decode cX7_end 26 = .ok (.iload_n 2, 1) := by decide +kernel
theorem dX7_end_27 : decode cX7_end 27 = .ok (.ireturn, 1) := by decide +kernel
theorem dX7_byteAt_0 : decode cX7_byteAt 0 = .ok (.iload_n 1, 1) := by decide +kernel
theorem dX7_byteAt_1 : decode cX7_byteAt 1 = .ok (.aload_n 0, 1) := by decide +kernel
theorem dX7_byteAt_2 : decode cX7_byteAt 2 = .ok (.getfield 53, 3) := by decide +kernel
theorem dX7_byteAt_5 : decode cX7_byteAt 5 = .ok (.if_icmp .ge 12, 3) := by decide +kernel
theorem dX7_byteAt_8 : decode cX7_byteAt 8 = .ok (.aload_n 0, 1) := by decide +kernel
theorem dX7_byteAt_9 : decode cX7_byteAt 9 = .ok (.getfield 16, 3) := by decide +kernel
theorem dX7_byteAt_12 : decode cX7_byteAt 12 = .ok (.iload_n 1, 1) := by decide +kernel
theorem dX7_byteAt_13 : decode cX7_byteAt 13 = .ok (.iaload, 1) := by decide +kernel
theorem dX7_byteAt_14 : decode cX7_byteAt 14 = .ok (.goto 5, 3) := by decide +kernel
theorem dX7_byteAt_17 : decode cX7_byteAt 17 = .ok (.bipush (-4), 2) := by decide +kernel
theorem dX7_byteAt_19 : decode cX7_byteAt 19 = .ok (.ireturn, 1) := by decide +kernel
theorem dX7_fails_0 : decode cX7_fails 0 = .ok (.aload_n 0, 1) := by decide +kernel
theorem dX7_fails_1 : decode cX7_fails 1 = .ok (.getfield 57, 3) := by decide +kernel
theorem dX7_fails_4 : decode cX7_fails 4 = .ok (.ifCond .ne 16, 3) := by decide +kernel
theorem dX7_fails_7 : decode cX7_fails 7 = .ok (.aload_n 0, 1) := by decide +kernel
theorem dX7_fails_8 : decode cX7_fails 8 = .ok (.iload_n 1, 1) := by decide +kernel
theorem dX7_fails_9 : decode cX7_fails 9 = .ok (.putfield 57, 3) := by decide +kernel
theorem dX7_fails_12 : decode cX7_fails 12 = .ok (.aload_n 0, 1) := by decide +kernel
theorem dX7_fails_13 : decode cX7_fails 13 = .ok (.aload_n 0, 1) := by decide +kernel
theorem dX7_fails_14 : decode cX7_fails 14 = .ok (.getfield 60, 3) := by decide +kernel
theorem dX7_fails_17 : decode cX7_fails 17 = .ok (.putfield 63, 3) := by decide +kernel
theorem dX7_fails_20 : decode cX7_fails 20 = .ok (.return_, 1) := by decide +kernel
theorem dX7_nameHere_0 : decode cX7_nameHere 0 = .ok (.iconst 0, 1) := by decide +kernel
theorem dX7_nameHere_1 : decode cX7_nameHere 1 = .ok (.istore_n 1, 1) := by decide +kernel
theorem dX7_nameHere_2 : decode cX7_nameHere 2 = .ok (.iload_n 1, 1) := by decide +kernel
theorem dX7_nameHere_3 : decode cX7_nameHere 3 = .ok (.bipush 7, 2) := by decide +kernel
theorem dX7_nameHere_5 : decode cX7_nameHere 5 = .ok (.if_icmp .ge 113, 3) := by decide +kernel
theorem dX7_nameHere_8 : decode cX7_nameHere 8 = .ok (.aload_n 0, 1) := by decide +kernel
theorem dX7_nameHere_9 : decode cX7_nameHere 9 = .ok (.getfield 66, 3) := by decide +kernel
theorem dX7_nameHere_12 : decode cX7_nameHere 12 = .ok (.iconst 1, 1) := by decide +kernel
theorem dX7_nameHere_13 : decode cX7_nameHere 13 = .ok (.if_icmp .ne 105, 3) := by decide +kernel
theorem dX7_nameHere_16 : decode cX7_nameHere 16 = .ok (.aload_n 0, 1) := by decide +kernel
theorem dX7_nameHere_17 : decode cX7_nameHere 17 = .ok (.getfield 69, 3) := by decide +kernel
theorem dX7_nameHere_20 : decode cX7_nameHere 20 = .ok (.aload_n 0, 1) := by decide +kernel
theorem dX7_nameHere_21 : decode cX7_nameHere 21 = .ok (.getfield 60, 3) := by decide +kernel
theorem dX7_nameHere_24 : decode cX7_nameHere 24 = .ok (.isub, 1) := by decide +kernel
theorem dX7_nameHere_25 : decode cX7_nameHere 25 = .ok (.aload_n 0, 1) := by decide +kernel
theorem dX7_nameHere_26 : decode cX7_nameHere 26 = .ok (.getfield 19, 3) := by decide +kernel
theorem dX7_nameHere_29 : decode cX7_nameHere 29 = .ok (.iload_n 1, 1) := by decide +kernel
theorem dX7_nameHere_30 : decode cX7_nameHere 30 = .ok (.iconst 1, 1) := by decide +kernel
theorem dX7_nameHere_31 : decode cX7_nameHere 31 = .ok (.iadd, 1) := by decide +kernel
theorem dX7_nameHere_32 : decode cX7_nameHere 32 = .ok (.iaload, 1) := by decide +kernel
theorem dX7_nameHere_33 : decode cX7_nameHere 33 = .ok (.aload_n 0, 1) := by decide +kernel
theorem dX7_nameHere_34 : decode cX7_nameHere 34 = .ok (.getfield 19, 3) := by decide +kernel
theorem dX7_nameHere_37 : decode cX7_nameHere 37 = .ok (.iload_n 1, 1) := by decide +kernel
theorem dX7_nameHere_38 : decode cX7_nameHere 38 = .ok (.iaload, 1) := by decide +kernel
theorem dX7_nameHere_39 : decode cX7_nameHere 39 = .ok (.isub, 1) := by decide +kernel
theorem dX7_nameHere_40 : decode cX7_nameHere 40 = .ok (.if_icmp .ne 7, 3) := by decide +kernel
theorem dX7_nameHere_43 : decode cX7_nameHere 43 = .ok (.iconst 1, 1) := by decide +kernel
theorem dX7_nameHere_44 : decode cX7_nameHere 44 = .ok (.goto 4, 3) := by decide +kernel
theorem dX7_nameHere_47 : decode cX7_nameHere 47 = .ok (.iconst 0, 1) := by decide +kernel
theorem dX7_nameHere_48 : decode cX7_nameHere 48 = .ok (.istore_n 2, 1) := by decide +kernel
theorem dX7_nameHere_49 : decode cX7_nameHere 49 = .ok (.iconst 0, 1) := by decide +kernel
theorem dX7_nameHere_50 : decode cX7_nameHere 50 = .ok (.istore_n 3, 1) := by decide +kernel
theorem dX7_nameHere_51 : decode cX7_nameHere 51 = .ok (.iload_n 2, 1) := by decide +kernel
theorem dX7_nameHere_52 : decode cX7_nameHere 52 = .ok (.ifCond .eq 54, 3) := by decide +kernel
theorem dX7_nameHere_55 : decode cX7_nameHere 55 = .ok (.iload_n 3, 1) := by decide +kernel
theorem dX7_nameHere_56 : decode cX7_nameHere 56 = .ok (.aload_n 0, 1) := by decide +kernel
theorem dX7_nameHere_57 : decode cX7_nameHere 57 = .ok (.getfield 69, 3) := by decide +kernel
theorem dX7_nameHere_60 : decode cX7_nameHere 60 = .ok (.aload_n 0, 1) := by decide +kernel
theorem dX7_nameHere_61 : decode cX7_nameHere 61 = .ok (.getfield 60, 3) := by decide +kernel
theorem dX7_nameHere_64 : decode cX7_nameHere 64 = .ok (.isub, 1) := by decide +kernel
theorem dX7_nameHere_65 : decode cX7_nameHere 65 = .ok (.if_icmp .ge 41, 3) := by decide +kernel
theorem dX7_nameHere_68 : decode cX7_nameHere 68 = .ok (.aload_n 0, 1) := by decide +kernel
theorem dX7_nameHere_69 : decode cX7_nameHere 69 = .ok (.aload_n 0, 1) := by decide +kernel
theorem dX7_nameHere_70 : decode cX7_nameHere 70 = .ok (.getfield 60, 3) := by decide +kernel
theorem dX7_nameHere_73 : decode cX7_nameHere 73 = .ok (.iload_n 3, 1) := by decide +kernel
theorem dX7_nameHere_74 : decode cX7_nameHere 74 = .ok (.iadd, 1) := by decide +kernel
theorem dX7_nameHere_75 : decode cX7_nameHere 75 = .ok (.invokevirtual 72, 3) := by decide +kernel
theorem dX7_nameHere_78 : decode cX7_nameHere 78 = .ok (.aload_n 0, 1) := by decide +kernel
theorem dX7_nameHere_79 : decode cX7_nameHere 79 = .ok (.getfield 22, 3) := by decide +kernel
theorem dX7_nameHere_82 : decode cX7_nameHere 82 = .ok (.aload_n 0, 1) := by decide +kernel
theorem dX7_nameHere_83 : decode cX7_nameHere 83 = .ok (.getfield 19, 3) := by decide +kernel
theorem dX7_nameHere_86 : decode cX7_nameHere 86 = .ok (.iload_n 1, 1) := by decide +kernel
theorem dX7_nameHere_87 : decode cX7_nameHere 87 = .ok (.iaload, 1) := by decide +kernel
theorem dX7_nameHere_88 : decode cX7_nameHere 88 = .ok (.iload_n 3, 1) := by decide +kernel
theorem dX7_nameHere_89 : decode cX7_nameHere 89 = .ok (.iadd, 1) := by decide +kernel
theorem dX7_nameHere_90 : decode cX7_nameHere 90 = .ok (.iaload, 1) := by decide +kernel
theorem dX7_nameHere_91 : decode cX7_nameHere 91 = .ok (.if_icmp .ne 7, 3) := by decide +kernel
theorem dX7_nameHere_94 : decode cX7_nameHere 94 = .ok (.iconst 1, 1) := by decide +kernel
theorem dX7_nameHere_95 : decode cX7_nameHere 95 = .ok (.goto 4, 3) := by decide +kernel
theorem dX7_nameHere_98 : decode cX7_nameHere 98 = .ok (.iconst 0, 1) := by decide +kernel
theorem dX7_nameHere_99 : decode cX7_nameHere 99 = .ok (.istore_n 2, 1) := by decide +kernel
theorem dX7_nameHere_100 : decode cX7_nameHere 100 = .ok (.iinc 3 1, 3) := by decide +kernel
theorem dX7_nameHere_103 : decode cX7_nameHere 103 = .ok (.goto (-52), 3) := by decide +kernel
theorem dX7_nameHere_106 : decode cX7_nameHere 106 = .ok (.iload_n 2, 1) := by decide +kernel
theorem dX7_nameHere_107 : decode cX7_nameHere 107 = .ok (.ifCond .eq 5, 3) := by decide +kernel
theorem dX7_nameHere_110 : decode cX7_nameHere 110 = .ok (.iload_n 1, 1) := by decide +kernel
theorem dX7_nameHere_111 : decode cX7_nameHere 111 = .ok (.ireturn, 1) := by decide +kernel
theorem dX7_nameHere_112 : decode cX7_nameHere 112 = .ok (.iinc 1 1, 3) := by decide +kernel
theorem dX7_nameHere_115 : decode cX7_nameHere 115 = .ok (.goto (-113), 3) := by decide +kernel
theorem dX7_nameHere_118 : decode cX7_nameHere 118 = .ok (.bipush (-4), 2) := by decide +kernel
theorem dX7_nameHere_120 : decode cX7_nameHere 120 = .ok (.ireturn, 1) := by decide +kernel
theorem dX7_step_0 : decode cX7_step 0 = .ok (.aload_n 0, 1) := by decide +kernel
theorem dX7_step_1 : decode cX7_step 1 = .ok (.getfield 57, 3) := by decide +kernel
theorem dX7_step_4 : decode cX7_step 4 = .ok (.ifCond .le 4, 3) := by decide +kernel
theorem dX7_step_7 : decode cX7_step 7 = .ok (.return_, 1) := by decide +kernel
theorem dX7_step_8 : decode cX7_step 8 = .ok (.aload_n 0, 1) := by decide +kernel
theorem dX7_step_9 : decode cX7_step 9 = .ok (.aload_n 0, 1) := by decide +kernel
theorem dX7_step_10 : decode cX7_step 10 = .ok (.getfield 69, 3) := by decide +kernel
theorem dX7_step_13 : decode cX7_step 13 = .ok (.invokevirtual 72, 3) := by decide +kernel
theorem dX7_step_16 : decode cX7_step 16 = .ok (.bipush 32, 2) := by decide +kernel
theorem dX7_step_18 : decode cX7_step 18 = .ok (.if_icmp .ne 16, 3) := by decide +kernel
theorem dX7_step_21 : decode cX7_step 21 = .ok (.aload_n 0, 1) := by decide +kernel
theorem dX7_step_22 : decode cX7_step 22 = .ok (.dup, 1) := by decide +kernel
theorem dX7_step_23 : decode cX7_step 23 = .ok (.getfield 69, 3) := by decide +kernel
theorem dX7_step_26 : decode cX7_step 26 = .ok (.iconst 1, 1) := by decide +kernel
theorem dX7_step_27 : decode cX7_step 27 = .ok (.iadd, 1) := by decide +kernel
theorem dX7_step_28 : decode cX7_step 28 = .ok (.putfield 69, 3) := by decide +kernel
theorem dX7_step_31 : decode cX7_step 31 = .ok (.goto (-23), 3) := by decide +kernel
theorem dX7_step_34 : decode cX7_step 34 = .ok (.aload_n 0, 1) := by decide +kernel
theorem dX7_step_35 : decode cX7_step 35 = .ok (.aload_n 0, 1) := by decide +kernel
theorem dX7_step_36 : decode cX7_step 36 = .ok (.getfield 69, 3) := by decide +kernel
theorem dX7_step_39 : decode cX7_step 39 = .ok (.putfield 60, 3) := by decide +kernel
theorem dX7_step_42 : decode cX7_step 42 = .ok (.aload_n 0, 1) := by decide +kernel
theorem dX7_step_43 : decode cX7_step 43 = .ok (.aload_n 0, 1) := by decide +kernel
theorem dX7_step_44 : decode cX7_step 44 = .ok (.getfield 69, 3) := by decide +kernel
theorem dX7_step_47 : decode cX7_step 47 = .ok (.invokevirtual 72, 3) := by decide +kernel
theorem dX7_step_50 : decode cX7_step 50 = .ok (.istore_n 1, 1) := by decide +kernel
theorem dX7_step_51 : decode cX7_step 51 = .ok (.aload_n 0, 1) := by decide +kernel
theorem dX7_step_52 : decode cX7_step 52 = .ok (.iconst 0, 1) := by decide +kernel
theorem dX7_step_53 : decode cX7_step 53 = .ok (.putfield 76, 3) := by decide +kernel
theorem dX7_step_56 : decode cX7_step 56 = .ok (.iload_n 1, 1) := by decide +kernel
theorem dX7_step_57 : decode cX7_step 57 = .ok (.bipush (-4), 2) := by decide +kernel
theorem dX7_step_59 : decode cX7_step 59 = .ok (.if_icmp .ne 11, 3) := by decide +kernel
theorem dX7_step_62 : decode cX7_step 62 = .ok (.aload_n 0, 1) := by decide +kernel
theorem dX7_step_63 : decode cX7_step 63 = .ok (.iconst 0, 1) := by decide +kernel
theorem dX7_step_64 : decode cX7_step 64 = .ok (.putfield 66, 3) := by decide +kernel
theorem dX7_step_67 : decode cX7_step 67 = .ok (.goto 202, 3) := by decide +kernel
theorem dX7_step_70 : decode cX7_step 70 = .ok (.iload_n 1, 1) := by decide +kernel
theorem dX7_step_71 : decode cX7_step 71 = .ok (.i2l, 1) := by decide +kernel
theorem dX7_step_72 : decode cX7_step 72 = .ok (.ldc2_w 79, 3) := by decide +kernel
theorem dX7_step_75 : decode cX7_step 75 = .ok (.ldc2_w 81, 3) := by decide +kernel
theorem dX7_step_78 : decode cX7_step 78 = .ok (.invokestatic 49, 3) := by decide +kernel
theorem dX7_step_81 : decode cX7_step 81 = .ok (.ifCond .eq 45, 3) := by decide +kernel
theorem dX7_step_84 : decode cX7_step 84 = .ok (.aload_n 0, 1) := by decide +kernel
theorem dX7_step_85 : decode cX7_step 85 = .ok (.aload_n 0, 1) := by decide +kernel
theorem dX7_step_86 : decode cX7_step 86 = .ok (.getfield 69, 3) := by decide +kernel
theorem dX7_step_89 : decode cX7_step 89 = .ok (.invokevirtual 72, 3) := by decide +kernel
theorem dX7_step_92 : decode cX7_step 92 = .ok (.i2l, 1) := by decide +kernel
theorem dX7_step_93 : decode cX7_step 93 = .ok (.ldc2_w 79, 3) := by decide +kernel
theorem dX7_step_96 : decode cX7_step 96 = .ok (.ldc2_w 81, 3) := by decide +kernel
theorem dX7_step_99 : decode cX7_step 99 = .ok (.invokestatic 49, 3) := by decide +kernel
theorem dX7_step_102 : decode cX7_step 102 = .ok (.ifCond .eq 16, 3) := by decide +kernel
theorem dX7_step_105 : decode cX7_step 105 = .ok (.aload_n 0, 1) := by decide +kernel
theorem dX7_step_106 : decode cX7_step 106 = .ok (.dup, 1) := by decide +kernel
theorem dX7_step_107 : decode cX7_step 107 = .ok (.getfield 69, 3) := by decide +kernel
theorem dX7_step_110 : decode cX7_step 110 = .ok (.iconst 1, 1) := by decide +kernel
theorem dX7_step_111 : decode cX7_step 111 = .ok (.iadd, 1) := by decide +kernel
theorem dX7_step_112 : decode cX7_step 112 = .ok (.putfield 69, 3) := by decide +kernel
theorem dX7_step_115 : decode cX7_step 115 = .ok (.goto (-31), 3) := by decide +kernel
theorem dX7_step_118 : decode cX7_step 118 = .ok (.aload_n 0, 1) := by decide +kernel
theorem dX7_step_119 : decode cX7_step 119 = .ok (.iconst 1, 1) := by decide +kernel
theorem dX7_step_120 : decode cX7_step 120 = .ok (.putfield 66, 3) := by decide +kernel
theorem dX7_step_123 : decode cX7_step 123 = .ok (.goto 146, 3) := by decide +kernel
theorem dX7_step_126 : decode cX7_step 126 = .ok (.iload_n 1, 1) := by decide +kernel
theorem dX7_step_127 : decode cX7_step 127 = .ok (.i2l, 1) := by decide +kernel
theorem dX7_step_128 : decode cX7_step 128 = .ok (.ldc2_w 83, 3) := by decide +kernel
theorem dX7_step_131 : decode cX7_step 131 = .ok (.ldc2_w 85, 3) := by decide +kernel
theorem dX7_step_134 : decode cX7_step 134 = .ok (.invokestatic 49, 3) := by decide +kernel
theorem dX7_step_137 : decode cX7_step 137 = .ok (.ifCond .eq 106, 3) := by decide +kernel
theorem dX7_step_140 : decode cX7_step 140 = .ok (.aload_n 0, 1) := by decide +kernel
theorem dX7_step_141 : decode cX7_step 141 = .ok (.aload_n 0, 1) := by decide +kernel
theorem dX7_step_142 : decode cX7_step 142 = .ok (.getfield 69, 3) := by decide +kernel
theorem dX7_step_145 : decode cX7_step 145 = .ok (.invokevirtual 72, 3) := by decide +kernel
theorem dX7_step_148 : decode cX7_step 148 = .ok (.i2l, 1) := by decide +kernel
theorem dX7_step_149 : decode cX7_step 149 = .ok (.ldc2_w 83, 3) := by decide +kernel
theorem dX7_step_152 : decode cX7_step 152 = .ok (.ldc2_w 85, 3) := by decide +kernel
theorem dX7_step_155 : decode cX7_step 155 = .ok (.invokestatic 49, 3) := by decide +kernel
theorem dX7_step_158 : decode cX7_step 158 = .ok (.ifCond .eq 59, 3) := by decide +kernel
theorem dX7_step_161 : decode cX7_step 161 = .ok (.aload_n 0, 1) := by decide +kernel
theorem dX7_step_162 : decode cX7_step 162 = .ok (.aload_n 0, 1) := by decide +kernel
theorem dX7_step_163 : decode cX7_step 163 = .ok (.getfield 69, 3) := by decide +kernel
theorem dX7_step_166 : decode cX7_step 166 = .ok (.aload_n 0, 1) := by decide +kernel
theorem dX7_step_167 : decode cX7_step 167 = .ok (.getfield 60, 3) := by decide +kernel
theorem dX7_step_170 : decode cX7_step 170 = .ok (.isub, 1) := by decide +kernel
theorem dX7_step_171 : decode cX7_step 171 = .ok (.iconst 2, 1) := by decide +kernel
theorem dX7_step_172 : decode cX7_step 172 = .ok (.if_icmp .ge 25, 3) := by decide +kernel
theorem dX7_step_175 : decode cX7_step 175 = .ok (.bipush 10, 2) := by decide +kernel
theorem dX7_step_177 : decode cX7_step 177 = .ok (.aload_n 0, 1) := by decide +kernel
theorem dX7_step_178 : decode cX7_step 178 = .ok (.getfield 76, 3) := by decide +kernel
theorem dX7_step_181 : decode cX7_step 181 = .ok (.imul, 1) := by decide +kernel
theorem dX7_step_182 : decode cX7_step 182 = .ok (.aload_n 0, 1) := by decide +kernel
theorem dX7_step_183 : decode cX7_step 183 = .ok (.aload_n 0, 1) := by decide +kernel
theorem dX7_step_184 : decode cX7_step 184 = .ok (.getfield 69, 3) := by decide +kernel
theorem dX7_step_187 : decode cX7_step 187 = .ok (.invokevirtual 72, 3) := by decide +kernel
theorem dX7_step_190 : decode cX7_step 190 = .ok (.iadd, 1) := by decide +kernel
theorem dX7_step_191 : decode cX7_step 191 = .ok (.bipush 48, 2) := by decide +kernel
theorem dX7_step_193 : decode cX7_step 193 = .ok (.isub, 1) := by decide +kernel
theorem dX7_step_194 : decode cX7_step 194 = .ok (.goto 7, 3) := by decide +kernel
theorem dX7_step_197 : decode cX7_step 197 = .ok (.aload_n 0, 1) := by decide +kernel
theorem dX7_step_198 : decode cX7_step 198 = .ok (.getfield 76, 3) := by decide +kernel
theorem dX7_step_201 : decode cX7_step 201 = .ok (.putfield 76, 3) := by decide +kernel
theorem dX7_step_204 : decode cX7_step 204 = .ok (.aload_n 0, 1) := by decide +kernel
theorem dX7_step_205 : decode cX7_step 205 = .ok (.dup, 1) := by decide +kernel
theorem dX7_step_206 : decode cX7_step 206 = .ok (.getfield 69, 3) := by decide +kernel
theorem dX7_step_209 : decode cX7_step 209 = .ok (.iconst 1, 1) := by decide +kernel
theorem dX7_step_210 : decode cX7_step 210 = .ok (.iadd, 1) := by decide +kernel
theorem dX7_step_211 : decode cX7_step 211 = .ok (.putfield 69, 3) := by decide +kernel
theorem dX7_step_214 : decode cX7_step 214 = .ok (.goto (-74), 3) := by decide +kernel
theorem dX7_step_217 : decode cX7_step 217 = .ok (.aload_n 0, 1) := by decide +kernel
theorem dX7_step_218 : decode cX7_step 218 = .ok (.iconst 2, 1) := by decide +kernel
theorem dX7_step_219 : decode cX7_step 219 = .ok (.putfield 66, 3) := by decide +kernel
theorem dX7_step_222 : decode cX7_step 222 = .ok (.aload_n 0, 1) := by decide +kernel
theorem dX7_step_223 : decode cX7_step 223 = .ok (.getfield 69, 3) := by decide +kernel
theorem dX7_step_226 : decode cX7_step 226 = .ok (.aload_n 0, 1) := by decide +kernel
theorem dX7_step_227 : decode cX7_step 227 = .ok (.getfield 60, 3) := by decide +kernel
theorem dX7_step_230 : decode cX7_step 230 = .ok (.isub, 1) := by decide +kernel
theorem dX7_step_231 : decode cX7_step 231 = .ok (.iconst 2, 1) := by decide +kernel
theorem dX7_step_232 : decode cX7_step 232 = .ok (.if_icmp .le 37, 3) := by decide +kernel
theorem dX7_step_235 : decode cX7_step 235 = .ok (.aload_n 0, 1) := by decide +kernel
theorem dX7_step_236 : decode cX7_step 236 = .ok (.iconst 1, 1) := by decide +kernel
theorem dX7_step_237 : decode cX7_step 237 = .ok (.invokevirtual 87, 3) := by decide +kernel
theorem dX7_step_240 : decode cX7_step 240 = .ok (.goto 29, 3) := by decide +kernel
theorem dX7_step_243 : decode cX7_step 243 = .ok (.aload_n 0, 1) := by decide +kernel
theorem dX7_step_244 : decode cX7_step 244 = .ok (.iconst 3, 1) := by decide +kernel
theorem dX7_step_245 : decode cX7_step 245 = .ok (.putfield 66, 3) := by decide +kernel
theorem dX7_step_248 : decode cX7_step 248 = .ok (.aload_n 0, 1) := by decide +kernel
theorem dX7_step_249 : decode cX7_step 249 = .ok (.dup, 1) := by decide +kernel
theorem dX7_step_250 : decode cX7_step 250 = .ok (.getfield 69, 3) := by decide +kernel
theorem dX7_step_253 : decode cX7_step 253 = .ok (.iconst 1, 1) := by decide +kernel
theorem dX7_step_254 : decode cX7_step 254 = .ok (.iadd, 1) := by decide +kernel
theorem dX7_step_255 : decode cX7_step 255 = .ok (.putfield 69, 3) := by decide +kernel
theorem dX7_step_258 : decode cX7_step 258 = .ok (.iload_n 1, 1) := by decide +kernel
theorem dX7_step_259 : decode cX7_step 259 = .ok (.bipush 59, 2) := by decide +kernel
theorem dX7_step_261 : decode cX7_step 261 = .ok (.if_icmp .eq 8, 3) := by decide +kernel
theorem dX7_step_264 : decode cX7_step 264 = .ok (.aload_n 0, 1) := by decide +kernel
theorem dX7_step_265 : decode cX7_step 265 = .ok (.iconst 1, 1) := by decide +kernel
theorem dX7_step_266 : decode cX7_step 266 = .ok (.invokevirtual 87, 3) := by decide +kernel
theorem dX7_step_269 : decode cX7_step 269 = .ok (.return_, 1) := by decide +kernel
theorem dX7_number_0 : decode cX7_number 0 = .ok (.aload_n 0, 1) := by decide +kernel
theorem dX7_number_1 : decode cX7_number 1 = .ok (.getfield 57, 3) := by decide +kernel
theorem dX7_number_4 : decode cX7_number 4 = .ok (.ifCond .ne 16, 3) := by decide +kernel
theorem dX7_number_7 : decode cX7_number 7 = .ok (.aload_n 0, 1) := by decide +kernel
theorem dX7_number_8 : decode cX7_number 8 = .ok (.getfield 66, 3) := by decide +kernel
theorem dX7_number_11 : decode cX7_number 11 = .ok (.iconst 2, 1) := by decide +kernel
theorem dX7_number_12 : decode cX7_number 12 = .ok (.if_icmp .eq 8, 3) := by decide +kernel
theorem dX7_number_15 : decode cX7_number 15 = .ok (.aload_n 0, 1) := by decide +kernel
theorem dX7_number_16 : decode cX7_number 16 = .ok (.iconst 2, 1) := by decide +kernel
theorem dX7_number_17 : decode cX7_number 17 = .ok (.invokevirtual 87, 3) := by decide +kernel
theorem dX7_number_20 : decode cX7_number 20 = .ok (.aload_n 0, 1) := by decide +kernel
theorem dX7_number_21 : decode cX7_number 21 = .ok (.getfield 57, 3) := by decide +kernel
theorem dX7_number_24 : decode cX7_number 24 = .ok (.ifCond .ne 23, 3) := by decide +kernel
theorem dX7_number_27 : decode cX7_number 27 = .ok (.aload_n 0, 1) := by decide +kernel
theorem dX7_number_28 : decode cX7_number 28 = .ok (.getfield 76, 3) := by decide +kernel
theorem dX7_number_31 : decode cX7_number 31 = .ok (.i2l, 1) := by decide +kernel
theorem dX7_number_32 : decode cX7_number 32 = .ok (.iload_n 1, 1) := by decide +kernel
theorem dX7_number_33 : decode cX7_number 33 = .ok (.i2l, 1) := by decide +kernel
theorem dX7_number_34 : decode cX7_number 34 = .ok (.iload_n 2, 1) := by decide +kernel
theorem dX7_number_35 : decode cX7_number 35 = .ok (.i2l, 1) := by decide +kernel
theorem dX7_number_36 : decode cX7_number 36 = .ok (.invokestatic 49, 3) := by decide +kernel
theorem dX7_number_39 : decode cX7_number 39 = .ok (.ifCond .ne 8, 3) := by decide +kernel
theorem dX7_number_42 : decode cX7_number 42 = .ok (.aload_n 0, 1) := by decide +kernel
theorem dX7_number_43 : decode cX7_number 43 = .ok (.iconst 3, 1) := by decide +kernel
theorem dX7_number_44 : decode cX7_number 44 = .ok (.invokevirtual 87, 3) := by decide +kernel
theorem dX7_number_47 : decode cX7_number 47 = .ok (.aload_n 0, 1) := by decide +kernel
theorem dX7_number_48 : decode cX7_number 48 = .ok (.getfield 57, 3) := by decide +kernel
theorem dX7_number_51 : decode cX7_number 51 = .ok (.ifCond .ne 10, 3) := by decide +kernel
theorem dX7_number_54 : decode cX7_number 54 = .ok (.aload_n 0, 1) := by decide +kernel
theorem dX7_number_55 : decode cX7_number 55 = .ok (.getfield 76, 3) := by decide +kernel
theorem dX7_number_58 : decode cX7_number 58 = .ok (.goto 4, 3) := by decide +kernel
theorem dX7_number_61 : decode cX7_number 61 = .ok (.iload_n 1, 1) := by decide +kernel
theorem dX7_number_62 : decode cX7_number 62 = .ok (.istore_n 3, 1) := by decide +kernel
theorem dX7_number_63 : decode cX7_number 63 = .ok (.aload_n 0, 1) := by decide +kernel
theorem dX7_number_64 : decode cX7_number 64 = .ok (.invokevirtual 91, 3) := by decide +kernel
theorem dX7_number_67 : decode cX7_number 67 = .ok (.iload_n 3, 1) := by decide +kernel
theorem dX7_number_68 : decode cX7_number 68 = .ok (.ireturn, 1) := by decide +kernel
theorem dX7_readMore_0 : decode cX7_readMore 0 = .ok (.iload_n 1, 1) := by decide +kernel
theorem dX7_readMore_1 : decode cX7_readMore 1 = .ok (.iconst 3, 1) := by decide +kernel
theorem dX7_readMore_2 : decode cX7_readMore 2 = .ok (.if_icmp .gt 80, 3) := by decide +kernel
theorem dX7_readMore_5 : decode cX7_readMore 5 = .ok (.aload_n 0, 1) := by decide +kernel
theorem dX7_readMore_6 : decode cX7_readMore 6 = .ok (.getfield 13, 3) := by decide +kernel
theorem dX7_readMore_9 : decode cX7_readMore 9 = .ok (.bipush 24, 2) := by decide +kernel
theorem dX7_readMore_11 : decode cX7_readMore 11 = .ok (.iaload, 1) := by decide +kernel
theorem dX7_readMore_12 : decode cX7_readMore 12 = .ok (.istore_n 2, 1) := by decide +kernel
theorem dX7_readMore_13 : decode cX7_readMore 13 = .ok (.aload_n 0, 1) := by decide +kernel
theorem dX7_readMore_14 : decode cX7_readMore 14 = .ok (.getfield 13, 3) := by decide +kernel
theorem dX7_readMore_17 : decode cX7_readMore 17 = .ok (.iload_n 2, 1) := by decide +kernel
theorem dX7_readMore_18 : decode cX7_readMore 18 = .ok (.iload_n 1, 1) := by decide +kernel
theorem dX7_readMore_19 : decode cX7_readMore 19 = .ok (.iastore, 1) := by decide +kernel
theorem dX7_readMore_20 : decode cX7_readMore 20 = .ok (.aload_n 0, 1) := by decide +kernel
theorem dX7_readMore_21 : decode cX7_readMore 21 = .ok (.getfield 13, 3) := by decide +kernel
theorem dX7_readMore_24 : decode cX7_readMore 24 = .ok (.bipush 6, 2) := by decide +kernel
theorem dX7_readMore_26 : decode cX7_readMore 26 = .ok (.iload_n 2, 1) := by decide +kernel
theorem dX7_readMore_27 : decode cX7_readMore 27 = .ok (.iadd, 1) := by decide +kernel
theorem dX7_readMore_28 : decode cX7_readMore 28 = .ok (.aload_n 0, 1) := by decide +kernel
theorem dX7_readMore_29 : decode cX7_readMore 29 = .ok (.iconst 0, 1) := by decide +kernel
theorem dX7_readMore_30 : decode cX7_readMore 30 = .ok (.bipush 11, 2) := by decide +kernel
theorem dX7_readMore_32 : decode cX7_readMore 32 = .ok (.invokevirtual 94, 3) := by decide +kernel
theorem dX7_readMore_35 : decode cX7_readMore 35 = .ok (.iastore, 1) := by decide +kernel
theorem dX7_readMore_36 : decode cX7_readMore 36 = .ok (.aload_n 0, 1) := by decide +kernel
theorem dX7_readMore_37 : decode cX7_readMore 37 = .ok (.getfield 13, 3) := by decide +kernel
theorem dX7_readMore_40 : decode cX7_readMore 40 = .ok (.bipush 12, 2) := by decide +kernel
theorem dX7_readMore_42 : decode cX7_readMore 42 = .ok (.iload_n 2, 1) := by decide +kernel
theorem dX7_readMore_43 : decode cX7_readMore 43 = .ok (.iadd, 1) := by decide +kernel
theorem dX7_readMore_44 : decode cX7_readMore 44 = .ok (.aload_n 0, 1) := by decide +kernel
theorem dX7_readMore_45 : decode cX7_readMore 45 = .ok (.iconst 0, 1) := by decide +kernel
theorem dX7_readMore_46 : decode cX7_readMore 46 = .ok (.bipush 59, 2) := by decide +kernel
theorem dX7_readMore_48 : decode cX7_readMore 48 = .ok (.invokevirtual 94, 3) := by decide +kernel
theorem dX7_readMore_51 : decode cX7_readMore 51 = .ok (.iastore, 1) := by decide +kernel
theorem dX7_readMore_52 : decode cX7_readMore 52 = .ok (.aload_n 0, 1) := by decide +kernel
theorem dX7_readMore_53 : decode cX7_readMore 53 = .ok (.getfield 13, 3) := by decide +kernel
theorem dX7_readMore_56 : decode cX7_readMore 56 = .ok (.bipush 18, 2) := by decide +kernel
theorem dX7_readMore_58 : decode cX7_readMore 58 = .ok (.iload_n 2, 1) := by decide +kernel
theorem dX7_readMore_59 : decode cX7_readMore 59 = .ok (.iadd, 1) := by decide +kernel
theorem dX7_readMore_60 : decode cX7_readMore 60 = .ok (.aload_n 0, 1) := by decide +kernel
theorem dX7_readMore_61 : decode cX7_readMore 61 = .ok (.iconst 1, 1) := by decide +kernel
theorem dX7_readMore_62 : decode cX7_readMore 62 = .ok (.bipush 9, 2) := by decide +kernel
theorem dX7_readMore_64 : decode cX7_readMore 64 = .ok (.invokevirtual 94, 3) := by decide +kernel
theorem dX7_readMore_67 : decode cX7_readMore 67 = .ok (.iastore, 1) := by decide +kernel
theorem dX7_readMore_68 : decode cX7_readMore 68 = .ok (.aload_n 0, 1) := by decide +kernel
theorem dX7_readMore_69 : decode cX7_readMore 69 = .ok (.getfield 13, 3) := by decide +kernel
theorem dX7_readMore_72 : decode cX7_readMore 72 = .ok (.bipush 24, 2) := by decide +kernel
theorem dX7_readMore_74 : decode cX7_readMore 74 = .ok (.dup2, 1) := by decide +kernel
theorem dX7_readMore_75 : decode cX7_readMore 75 = .ok (.iaload, 1) := by decide +kernel
theorem dX7_readMore_76 : decode cX7_readMore 76 = .ok (.iconst 1, 1) := by decide +kernel
theorem dX7_readMore_77 : decode cX7_readMore 77 = .ok (.iadd, 1) := by decide +kernel
theorem dX7_readMore_78 : decode cX7_readMore 78 = .ok (.iastore, 1) := by decide +kernel
theorem dX7_readMore_79 : decode cX7_readMore 79 = .ok (.goto 100, 3) := by decide +kernel
theorem dX7_readMore_82 : decode cX7_readMore 82 = .ok (.iload_n 1, 1) := by decide +kernel
theorem dX7_readMore_83 : decode cX7_readMore 83 = .ok (.iconst 4, 1) := by decide +kernel
theorem dX7_readMore_84 : decode cX7_readMore 84 = .ok (.if_icmp .ne 57, 3) := by decide +kernel
theorem dX7_readMore_87 : decode cX7_readMore 87 = .ok (.aload_n 0, 1) := by decide +kernel
theorem dX7_readMore_88 : decode cX7_readMore 88 = .ok (.getfield 13, 3) := by decide +kernel
theorem dX7_readMore_91 : decode cX7_readMore 91 = .ok (.bipush 33, 2) := by decide +kernel
theorem dX7_readMore_93 : decode cX7_readMore 93 = .ok (.iaload, 1) := by decide +kernel
theorem dX7_readMore_94 : decode cX7_readMore 94 = .ok (.istore_n 2, 1) := by decide +kernel
theorem dX7_readMore_95 : decode cX7_readMore 95 = .ok (.aload_n 0, 1) := by decide +kernel
theorem dX7_readMore_96 : decode cX7_readMore 96 = .ok (.getfield 13, 3) := by decide +kernel
theorem dX7_readMore_99 : decode cX7_readMore 99 = .ok (.bipush 25, 2) := by decide +kernel
theorem dX7_readMore_101 : decode cX7_readMore 101 = .ok (.iload_n 2, 1) := by decide +kernel
theorem dX7_readMore_102 : decode cX7_readMore 102 = .ok (.iadd, 1) := by decide +kernel
theorem dX7_readMore_103 : decode cX7_readMore 103 = .ok (.aload_n 0, 1) := by decide +kernel
theorem dX7_readMore_104 : decode cX7_readMore 104 = .ok (.iconst 0, 1) := by decide +kernel
theorem dX7_readMore_105 : decode cX7_readMore 105 = .ok (.bipush 11, 2) := by decide +kernel
theorem dX7_readMore_107 : decode cX7_readMore 107 = .ok (.invokevirtual 94, 3) := by decide +kernel
theorem dX7_readMore_110 : decode cX7_readMore 110 = .ok (.iastore, 1) := by decide +kernel
theorem dX7_readMore_111 : decode cX7_readMore 111 = .ok (.aload_n 0, 1) := by decide +kernel
theorem dX7_readMore_112 : decode cX7_readMore 112 = .ok (.getfield 13, 3) := by decide +kernel
theorem dX7_readMore_115 : decode cX7_readMore 115 = .ok (.bipush 29, 2) := by decide +kernel
theorem dX7_readMore_117 : decode cX7_readMore 117 = .ok (.iload_n 2, 1) := by decide +kernel
theorem dX7_readMore_118 : decode cX7_readMore 118 = .ok (.iadd, 1) := by decide +kernel
theorem dX7_readMore_119 : decode cX7_readMore 119 = .ok (.aload_n 0, 1) := by decide +kernel
theorem dX7_readMore_120 : decode cX7_readMore 120 = .ok (.iconst 0, 1) := by decide +kernel
theorem dX7_readMore_121 : decode cX7_readMore 121 = .ok (.bipush 9, 2) := by decide +kernel
theorem dX7_readMore_123 : decode cX7_readMore 123 = .ok (.invokevirtual 94, 3) := by decide +kernel
theorem dX7_readMore_126 : decode cX7_readMore 126 = .ok (.iastore, 1) := by decide +kernel
theorem dX7_readMore_127 : decode cX7_readMore 127 = .ok (.aload_n 0, 1) := by decide +kernel
theorem dX7_readMore_128 : decode cX7_readMore 128 = .ok (.getfield 13, 3) := by decide +kernel
theorem dX7_readMore_131 : decode cX7_readMore 131 = .ok (.bipush 33, 2) := by decide +kernel
theorem dX7_readMore_133 : decode cX7_readMore 133 = .ok (.dup2, 1) := by decide +kernel
theorem dX7_readMore_134 : decode cX7_readMore 134 = .ok (.iaload, 1) := by decide +kernel
theorem dX7_readMore_135 : decode cX7_readMore 135 = .ok (.iconst 1, 1) := by decide +kernel
theorem dX7_readMore_136 : decode cX7_readMore 136 = .ok (.iadd, 1) := by decide +kernel
theorem dX7_readMore_137 : decode cX7_readMore 137 = .ok (.iastore, 1) := by decide +kernel
theorem dX7_readMore_138 : decode cX7_readMore 138 = .ok (.goto 41, 3) := by decide +kernel
theorem dX7_readMore_141 : decode cX7_readMore 141 = .ok (.iload_n 1, 1) := by decide +kernel
theorem dX7_readMore_142 : decode cX7_readMore 142 = .ok (.iconst 5, 1) := by decide +kernel
theorem dX7_readMore_143 : decode cX7_readMore 143 = .ok (.if_icmp .ne 22, 3) := by decide +kernel
theorem dX7_readMore_146 : decode cX7_readMore 146 = .ok (.aload_n 0, 1) := by decide +kernel
theorem dX7_readMore_147 : decode cX7_readMore 147 = .ok (.getfield 13, 3) := by decide +kernel
theorem dX7_readMore_150 : decode cX7_readMore 150 = .ok (.bipush 34, 2) := by decide +kernel
theorem dX7_readMore_152 : decode cX7_readMore 152 = .ok (.aload_n 0, 1) := by decide +kernel
theorem dX7_readMore_153 : decode cX7_readMore 153 = .ok (.iconst 0, 1) := by decide +kernel
theorem dX7_readMore_154 : decode cX7_readMore 154 = .ok (.bipush 8, 2) := by decide +kernel
theorem dX7_readMore_156 : decode cX7_readMore 156 = .ok (.invokevirtual 94, 3) := by decide +kernel
theorem dX7_readMore_159 : decode cX7_readMore 159 = .ok (.iconst 4, 1) := by decide +kernel
theorem dX7_readMore_160 : decode cX7_readMore 160 = .ok (.isub, 1) := by decide +kernel
theorem dX7_readMore_161 : decode cX7_readMore 161 = .ok (.iastore, 1) := by decide +kernel
theorem dX7_readMore_162 : decode cX7_readMore 162 = .ok (.goto 17, 3) := by decide +kernel
theorem dX7_readMore_165 : decode cX7_readMore 165 = .ok (.aload_n 0, 1) := by decide +kernel
theorem dX7_readMore_166 : decode cX7_readMore 166 = .ok (.getfield 13, 3) := by decide +kernel
theorem dX7_readMore_169 : decode cX7_readMore 169 = .ok (.bipush 35, 2) := by decide +kernel
theorem dX7_readMore_171 : decode cX7_readMore 171 = .ok (.aload_n 0, 1) := by decide +kernel
theorem dX7_readMore_172 : decode cX7_readMore 172 = .ok (.iconst 0, 1) := by decide +kernel
theorem dX7_readMore_173 : decode cX7_readMore 173 = .ok (.bipush 9, 2) := by decide +kernel
theorem dX7_readMore_175 : decode cX7_readMore 175 = .ok (.invokevirtual 94, 3) := by decide +kernel
theorem dX7_readMore_178 : decode cX7_readMore 178 = .ok (.iastore, 1) := by decide +kernel
theorem dX7_readMore_179 : decode cX7_readMore 179 = .ok (.return_, 1) := by decide +kernel
theorem dX7_readLine_0 : decode cX7_readLine 0 = .ok (.aload_n 0, 1) := by decide +kernel
theorem dX7_readLine_1 : decode cX7_readLine 1 = .ok (.invokevirtual 98, 3) := by decide +kernel
theorem dX7_readLine_4 : decode cX7_readLine 4 = .ok (.istore_n 1, 1) := by decide +kernel
theorem dX7_readLine_5 : decode cX7_readLine 5 = .ok (.iload_n 1, 1) := by decide +kernel
theorem dX7_readLine_6 : decode cX7_readLine 6 = .ok (.i2l, 1) := by decide +kernel
theorem dX7_readLine_7 : decode cX7_readLine 7 = .ok (.lconst 0, 1) := by decide +kernel
theorem dX7_readLine_8 : decode cX7_readLine 8 = .ok (.ldc2_w 102, 3) := by decide +kernel
theorem dX7_readLine_11 : decode cX7_readLine 11 = .ok (.invokestatic 49, 3) := by decide +kernel
theorem dX7_readLine_14 : decode cX7_readLine 14 = .ok (.ifCond .ne 9, 3) := by decide +kernel
theorem dX7_readLine_17 : decode cX7_readLine 17 = .ok (.aload_n 0, 1) := by decide +kernel
theorem dX7_readLine_18 : decode cX7_readLine 18 = .ok (.iconst 2, 1) := by decide +kernel
theorem dX7_readLine_19 : decode cX7_readLine 19 = .ok (.invokevirtual 87, 3) := by decide +kernel
theorem dX7_readLine_22 : decode cX7_readLine 22 = .ok (.return_, 1) := by decide +kernel
theorem dX7_readLine_23 : decode cX7_readLine 23 = .ok (.iload_n 1, 1) := by decide +kernel
theorem dX7_readLine_24 : decode cX7_readLine 24 = .ok (.iconst 3, 1) := by decide +kernel
theorem dX7_readLine_25 : decode cX7_readLine 25 = .ok (.if_icmp .gt 15, 3) := by decide +kernel
theorem dX7_readLine_28 : decode cX7_readLine 28 = .ok (.aload_n 0, 1) := by decide +kernel
theorem dX7_readLine_29 : decode cX7_readLine 29 = .ok (.getfield 13, 3) := by decide +kernel
theorem dX7_readLine_32 : decode cX7_readLine 32 = .ok (.bipush 24, 2) := by decide +kernel
theorem dX7_readLine_34 : decode cX7_readLine 34 = .ok (.iaload, 1) := by decide +kernel
theorem dX7_readLine_35 : decode cX7_readLine 35 = .ok (.bipush 6, 2) := by decide +kernel
theorem dX7_readLine_37 : decode cX7_readLine 37 = .ok (.if_icmp .eq 19, 3) := by decide +kernel
theorem dX7_readLine_40 : decode cX7_readLine 40 = .ok (.iload_n 1, 1) := by decide +kernel
theorem dX7_readLine_41 : decode cX7_readLine 41 = .ok (.iconst 4, 1) := by decide +kernel
theorem dX7_readLine_42 : decode cX7_readLine 42 = .ok (.if_icmp .ne 19, 3) := by decide +kernel
theorem dX7_readLine_45 : decode cX7_readLine 45 = .ok (.aload_n 0, 1) := by decide +kernel
theorem dX7_readLine_46 : decode cX7_readLine 46 = .ok (.getfield 13, 3) := by decide +kernel
theorem dX7_readLine_49 : decode cX7_readLine 49 = .ok (.bipush 33, 2) := by decide +kernel
theorem dX7_readLine_51 : decode cX7_readLine 51 = .ok (.iaload, 1) := by decide +kernel
theorem dX7_readLine_52 : decode cX7_readLine 52 = .ok (.iconst 4, 1) := by decide +kernel
theorem dX7_readLine_53 : decode cX7_readLine 53 = .ok (.if_icmp .ne 8, 3) := by decide +kernel
theorem dX7_readLine_56 : decode cX7_readLine 56 = .ok (.aload_n 0, 1) := by decide +kernel
theorem dX7_readLine_57 : decode cX7_readLine 57 = .ok (.iconst 5, 1) := by decide +kernel
theorem dX7_readLine_58 : decode cX7_readLine 58 = .ok (.invokevirtual 87, 3) := by decide +kernel
theorem dX7_readLine_61 : decode cX7_readLine 61 = .ok (.iload_n 1, 1) := by decide +kernel
theorem dX7_readLine_62 : decode cX7_readLine 62 = .ok (.iconst 5, 1) := by decide +kernel
theorem dX7_readLine_63 : decode cX7_readLine 63 = .ok (.if_icmp .lt 20, 3) := by decide +kernel
theorem dX7_readLine_66 : decode cX7_readLine 66 = .ok (.aload_n 0, 1) := by decide +kernel
theorem dX7_readLine_67 : decode cX7_readLine 67 = .ok (.getfield 104, 3) := by decide +kernel
theorem dX7_readLine_70 : decode cX7_readLine 70 = .ok (.iload_n 1, 1) := by decide +kernel
theorem dX7_readLine_71 : decode cX7_readLine 71 = .ok (.ishr, 1) := by decide +kernel
theorem dX7_readLine_72 : decode cX7_readLine 72 = .ok (.iconst 1, 1) := by decide +kernel
theorem dX7_readLine_73 : decode cX7_readLine 73 = .ok (.iand, 1) := by decide +kernel
theorem dX7_readLine_74 : decode cX7_readLine 74 = .ok (.iconst 1, 1) := by decide +kernel
theorem dX7_readLine_75 : decode cX7_readLine 75 = .ok (.if_icmp .ne 8, 3) := by decide +kernel
theorem dX7_readLine_78 : decode cX7_readLine 78 = .ok (.aload_n 0, 1) := by decide +kernel
theorem dX7_readLine_79 : decode cX7_readLine 79 = .ok (.iconst 4, 1) := by decide +kernel
theorem dX7_readLine_80 : decode cX7_readLine 80 = .ok (.invokevirtual 87, 3) := by decide +kernel
theorem dX7_readLine_83 : decode cX7_readLine 83 = .ok (.aload_n 0, 1) := by decide +kernel
theorem dX7_readLine_84 : decode cX7_readLine 84 = .ok (.dup, 1) := by decide +kernel
theorem dX7_readLine_85 : decode cX7_readLine 85 = .ok (.getfield 104, 3) := by decide +kernel
theorem dX7_readLine_88 : decode cX7_readLine 88 = .ok (.iconst 1, 1) := by decide +kernel
theorem dX7_readLine_89 : decode cX7_readLine 89 = .ok (.iload_n 1, 1) := by decide +kernel
theorem dX7_readLine_90 : decode cX7_readLine 90 = .ok (.ishl, 1) := by decide +kernel
theorem dX7_readLine_91 : decode cX7_readLine 91 = .ok (.ior, 1) := by decide +kernel
theorem dX7_readLine_92 : decode cX7_readLine 92 = .ok (.putfield 104, 3) := by decide +kernel
theorem dX7_readLine_95 : decode cX7_readLine 95 = .ok (.aload_n 0, 1) := by decide +kernel
theorem dX7_readLine_96 : decode cX7_readLine 96 = .ok (.invokevirtual 91, 3) := by decide +kernel
theorem dX7_readLine_99 : decode cX7_readLine 99 = .ok (.aload_n 0, 1) := by decide +kernel
theorem dX7_readLine_100 : decode cX7_readLine 100 = .ok (.getfield 57, 3) := by decide +kernel
theorem dX7_readLine_103 : decode cX7_readLine 103 = .ok (.ifCond .le 4, 3) := by decide +kernel
theorem dX7_readLine_106 : decode cX7_readLine 106 = .ok (.return_, 1) := by decide +kernel
theorem dX7_readLine_107 : decode cX7_readLine 107 = .ok (.aload_n 0, 1) := by decide +kernel
theorem dX7_readLine_108 : decode cX7_readLine 108 = .ok (.iload_n 1, 1) := by decide +kernel
theorem dX7_readLine_109 : decode cX7_readLine 109 = .ok (.invokevirtual 107, 3) := by decide +kernel
theorem dX7_readLine_112 : decode cX7_readLine 112 = .ok (.aload_n 0, 1) := by decide +kernel
theorem dX7_readLine_113 : decode cX7_readLine 113 = .ok (.getfield 57, 3) := by decide +kernel
theorem dX7_readLine_116 : decode cX7_readLine 116 = .ok (.ifCond .ne 16, 3) := by decide +kernel
theorem dX7_readLine_119 : decode cX7_readLine 119 = .ok (.aload_n 0, 1) := by decide +kernel
theorem dX7_readLine_120 : decode cX7_readLine 120 = .ok (.getfield 66, 3) := by decide +kernel
theorem dX7_readLine_123 : decode cX7_readLine 123 = .ok (.iconst 3, 1) := by decide +kernel
theorem dX7_readLine_124 : decode cX7_readLine 124 = .ok (.if_icmp .eq 8, 3) := by decide +kernel
theorem dX7_readLine_127 : decode cX7_readLine 127 = .ok (.aload_n 0, 1) := by decide +kernel
theorem dX7_readLine_128 : decode cX7_readLine 128 = .ok (.iconst 2, 1) := by decide +kernel
theorem dX7_readLine_129 : decode cX7_readLine 129 = .ok (.invokevirtual 87, 3) := by decide +kernel
theorem dX7_readLine_132 : decode cX7_readLine 132 = .ok (.aload_n 0, 1) := by decide +kernel
theorem dX7_readLine_133 : decode cX7_readLine 133 = .ok (.invokevirtual 91, 3) := by decide +kernel
theorem dX7_readLine_136 : decode cX7_readLine 136 = .ok (.return_, 1) := by decide +kernel
theorem dX7_text_0 : decode cX7_text 0 = .ok (.aload_n 0, 1) := by decide +kernel
theorem dX7_text_1 : decode cX7_text 1 = .ok (.iconst 0, 1) := by decide +kernel
theorem dX7_text_2 : decode cX7_text 2 = .ok (.putfield 57, 3) := by decide +kernel
theorem dX7_text_5 : decode cX7_text 5 = .ok (.aload_n 0, 1) := by decide +kernel
theorem dX7_text_6 : decode cX7_text 6 = .ok (.iconst 0, 1) := by decide +kernel
theorem dX7_text_7 : decode cX7_text 7 = .ok (.putfield 69, 3) := by decide +kernel
theorem dX7_text_10 : decode cX7_text 10 = .ok (.aload_n 0, 1) := by decide +kernel
theorem dX7_text_11 : decode cX7_text 11 = .ok (.iconst 0, 1) := by decide +kernel
theorem dX7_text_12 : decode cX7_text 12 = .ok (.putfield 104, 3) := by decide +kernel
theorem dX7_text_15 : decode cX7_text 15 = .ok (.iconst 0, 1) := by decide +kernel
theorem dX7_text_16 : decode cX7_text 16 = .ok (.istore_n 1, 1) := by decide +kernel
theorem dX7_text_17 : decode cX7_text 17 = .ok (.iconst 0, 1) := by decide +kernel
theorem dX7_text_18 : decode cX7_text 18 = .ok (.istore_n 2, 1) := by decide +kernel
theorem dX7_text_19 : decode cX7_text 19 = .ok (.iload_n 2, 1) := by decide +kernel
theorem dX7_text_20 : decode cX7_text 20 = .ok (.bipush 36, 2) := by decide +kernel
theorem dX7_text_22 : decode cX7_text 22 = .ok (.if_icmp .ge 16, 3) := by decide +kernel
theorem dX7_text_25 : decode cX7_text 25 = .ok (.aload_n 0, 1) := by decide +kernel
theorem dX7_text_26 : decode cX7_text 26 = .ok (.getfield 13, 3) := by decide +kernel
theorem dX7_text_29 : decode cX7_text 29 = .ok (.iload_n 2, 1) := by decide +kernel
theorem dX7_text_30 : decode cX7_text 30 = .ok (.iconst 0, 1) := by decide +kernel
theorem dX7_text_31 : decode cX7_text 31 = .ok (.iastore, 1) := by decide +kernel
theorem dX7_text_32 : decode cX7_text 32 = .ok (.iinc 2 1, 3) := by decide +kernel
theorem dX7_text_35 : decode cX7_text 35 = .ok (.goto (-16), 3) := by decide +kernel
theorem dX7_text_38 : decode cX7_text 38 = .ok (.aload_n 0, 1) := by decide +kernel
theorem dX7_text_39 : decode cX7_text 39 = .ok (.invokevirtual 91, 3) := by decide +kernel
theorem dX7_text_42 : decode cX7_text 42 = .ok (.aload_n 0, 1) := by decide +kernel
theorem dX7_text_43 : decode cX7_text 43 = .ok (.getfield 57, 3) := by decide +kernel
theorem dX7_text_46 : decode cX7_text 46 = .ok (.ifCond .ne 20, 3) := by decide +kernel
theorem dX7_text_49 : decode cX7_text 49 = .ok (.aload_n 0, 1) := by decide +kernel
theorem dX7_text_50 : decode cX7_text 50 = .ok (.getfield 66, 3) := by decide +kernel
theorem dX7_text_53 : decode cX7_text 53 = .ok (.ifCond .eq 13, 3) := by decide +kernel
theorem dX7_text_56 : decode cX7_text 56 = .ok (.aload_n 0, 1) := by decide +kernel
theorem dX7_text_57 : decode cX7_text 57 = .ok (.invokevirtual 110, 3) := by decide +kernel
theorem dX7_text_60 : decode cX7_text 60 = .ok (.iinc 1 1, 3) := by decide +kernel
theorem dX7_text_63 : decode cX7_text 63 = .ok (.goto (-21), 3) := by decide +kernel
theorem dX7_text_66 : decode cX7_text 66 = .ok (.aload_n 0, 1) := by decide +kernel
theorem dX7_text_67 : decode cX7_text 67 = .ok (.iconst 0, 1) := by decide +kernel
theorem dX7_text_68 : decode cX7_text 68 = .ok (.putfield 53, 3) := by decide +kernel
theorem dX7_text_71 : decode cX7_text 71 = .ok (.aload_n 0, 1) := by decide +kernel
theorem dX7_text_72 : decode cX7_text 72 = .ok (.aload_n 0, 1) := by decide +kernel
theorem dX7_text_73 : decode cX7_text 73 = .ok (.getfield 57, 3) := by decide +kernel
theorem dX7_text_76 : decode cX7_text 76 = .ok (.putfield 113, 3) := by decide +kernel
theorem dX7_text_79 : decode cX7_text 79 = .ok (.aload_n 0, 1) := by decide +kernel
theorem dX7_text_80 : decode cX7_text 80 = .ok (.getfield 57, 3) := by decide +kernel
theorem dX7_text_83 : decode cX7_text 83 = .ok (.ifCond .le 11, 3) := by decide +kernel
theorem dX7_text_86 : decode cX7_text 86 = .ok (.bipush (-10), 2) := by decide +kernel
theorem dX7_text_88 : decode cX7_text 88 = .ok (.aload_n 0, 1) := by decide +kernel
theorem dX7_text_89 : decode cX7_text 89 = .ok (.getfield 63, 3) := by decide +kernel
theorem dX7_text_92 : decode cX7_text 92 = .ok (.isub, 1) := by decide +kernel
theorem dX7_text_93 : decode cX7_text 93 = .ok (.ireturn, 1) := by decide +kernel
theorem dX7_text_94 : decode cX7_text 94 = .ok (.iconst 0, 1) := by decide +kernel
theorem dX7_text_95 : decode cX7_text 95 = .ok (.istore_n 2, 1) := by decide +kernel
theorem dX7_text_96 : decode cX7_text 96 = .ok (.iload_n 2, 1) := by decide +kernel
theorem dX7_text_97 : decode cX7_text 97 = .ok (.bipush 36, 2) := by decide +kernel
theorem dX7_text_99 : decode cX7_text 99 = .ok (.if_icmp .ge 21, 3) := by decide +kernel
theorem dX7_text_102 : decode cX7_text 102 = .ok (.aload_n 0, 1) := by decide +kernel
theorem dX7_text_103 : decode cX7_text 103 = .ok (.getfield 7, 3) := by decide +kernel
theorem dX7_text_106 : decode cX7_text 106 = .ok (.iload_n 2, 1) := by decide +kernel
theorem dX7_text_107 : decode cX7_text 107 = .ok (.aload_n 0, 1) := by decide +kernel
theorem dX7_text_108 : decode cX7_text 108 = .ok (.getfield 13, 3) := by decide +kernel
theorem dX7_text_111 : decode cX7_text 111 = .ok (.iload_n 2, 1) := by decide +kernel
theorem dX7_text_112 : decode cX7_text 112 = .ok (.iaload, 1) := by decide +kernel
theorem dX7_text_113 : decode cX7_text 113 = .ok (.iastore, 1) := by decide +kernel
theorem dX7_text_114 : decode cX7_text 114 = .ok (.iinc 2 1, 3) := by decide +kernel
theorem dX7_text_117 : decode cX7_text 117 = .ok (.goto (-21), 3) := by decide +kernel
theorem dX7_text_120 : decode cX7_text 120 = .ok (.aload_n 0, 1) := by decide +kernel
theorem dX7_text_121 : decode cX7_text 121 = .ok (.iconst 0, 1) := by decide +kernel
theorem dX7_text_122 : decode cX7_text 122 = .ok (.putfield 116, 3) := by decide +kernel
theorem dX7_text_125 : decode cX7_text 125 = .ok (.aload_n 0, 1) := by decide +kernel
theorem dX7_text_126 : decode cX7_text 126 = .ok (.getfield 34, 3) := by decide +kernel
theorem dX7_text_129 : decode cX7_text 129 = .ok (.iconst 0, 1) := by decide +kernel
theorem dX7_text_130 : decode cX7_text 130 = .ok (.iconst 0, 1) := by decide +kernel
theorem dX7_text_131 : decode cX7_text 131 = .ok (.bastore, 1) := by decide +kernel
theorem dX7_text_132 : decode cX7_text 132 = .ok (.aload_n 0, 1) := by decide +kernel
theorem dX7_text_133 : decode cX7_text 133 = .ok (.getfield 34, 3) := by decide +kernel
theorem dX7_text_136 : decode cX7_text 136 = .ok (.iconst 1, 1) := by decide +kernel
theorem dX7_text_137 : decode cX7_text 137 = .ok (.iconst 0, 1) := by decide +kernel
theorem dX7_text_138 : decode cX7_text 138 = .ok (.bastore, 1) := by decide +kernel
theorem dX7_text_139 : decode cX7_text 139 = .ok (.iload_n 1, 1) := by decide +kernel
theorem dX7_text_140 : decode cX7_text 140 = .ok (.ireturn, 1) := by decide +kernel
theorem dX7_fault_0 : decode cX7_fault 0 = .ok (.aload_n 0, 1) := by decide +kernel
theorem dX7_fault_1 : decode cX7_fault 1 = .ok (.getfield 113, 3) := by decide +kernel
theorem dX7_fault_4 : decode cX7_fault 4 = .ok (.ireturn, 1) := by decide +kernel
theorem dX7_isWork_0 : decode cX7_isWork 0 = .ok (.iload_n 1, 1) := by decide +kernel
theorem dX7_isWork_1 : decode cX7_isWork 1 = .ok (.i2l, 1) := by decide +kernel
theorem dX7_isWork_2 : decode cX7_isWork 2 = .ok (.lconst 0, 1) := by decide +kernel
theorem dX7_isWork_3 : decode cX7_isWork 3 = .ok (.aload_n 0, 1) := by decide +kernel
theorem dX7_isWork_4 : decode cX7_isWork 4 = .ok (.getfield 7, 3) := by decide +kernel
theorem dX7_isWork_7 : decode cX7_isWork 7 = .ok (.bipush 24, 2) := by decide +kernel
theorem dX7_isWork_9 : decode cX7_isWork 9 = .ok (.iaload, 1) := by decide +kernel
theorem dX7_isWork_10 : decode cX7_isWork 10 = .ok (.iconst 1, 1) := by decide +kernel
theorem dX7_isWork_11 : decode cX7_isWork 11 = .ok (.isub, 1) := by decide +kernel
theorem dX7_isWork_12 : decode cX7_isWork 12 = .ok (.i2l, 1) := by decide +kernel
theorem dX7_isWork_13 : decode cX7_isWork 13 = .ok (.invokestatic 49, 3) := by decide +kernel
theorem dX7_isWork_16 : decode cX7_isWork 16 = .ok (.ireturn, 1) := by decide +kernel
theorem dX7_isReader_0 : decode cX7_isReader 0 = .ok (.iload_n 1, 1) := by decide +kernel
theorem dX7_isReader_1 : decode cX7_isReader 1 = .ok (.i2l, 1) := by decide +kernel
theorem dX7_isReader_2 : decode cX7_isReader 2 = .ok (.lconst 0, 1) := by decide +kernel
theorem dX7_isReader_3 : decode cX7_isReader 3 = .ok (.aload_n 0, 1) := by decide +kernel
theorem dX7_isReader_4 : decode cX7_isReader 4 = .ok (.getfield 7, 3) := by decide +kernel
theorem dX7_isReader_7 : decode cX7_isReader 7 = .ok (.bipush 33, 2) := by decide +kernel
theorem dX7_isReader_9 : decode cX7_isReader 9 = .ok (.iaload, 1) := by decide +kernel
theorem dX7_isReader_10 : decode cX7_isReader 10 = .ok (.iconst 1, 1) := by decide +kernel
theorem dX7_isReader_11 : decode cX7_isReader 11 = .ok (.isub, 1) := by decide +kernel
theorem dX7_isReader_12 : decode cX7_isReader 12 = .ok (.i2l, 1) := by decide +kernel
theorem dX7_isReader_13 : decode cX7_isReader 13 = .ok (.invokestatic 49, 3) := by decide +kernel
theorem dX7_isReader_16 : decode cX7_isReader 16 = .ok (.ireturn, 1) := by decide +kernel
theorem dX7_isPlace_0 : decode cX7_isPlace 0 = .ok (.iload_n 0, 1) := by decide +kernel
theorem dX7_isPlace_1 : decode cX7_isPlace 1 = .ok (.i2l, 1) := by decide +kernel
theorem dX7_isPlace_2 : decode cX7_isPlace 2 = .ok (.lconst 0, 1) := by decide +kernel
theorem dX7_isPlace_3 : decode cX7_isPlace 3 = .ok (.ldc2_w 119, 3) := by decide +kernel
theorem dX7_isPlace_6 : decode cX7_isPlace 6 = .ok (.invokestatic 49, 3) := by decide +kernel
theorem dX7_isPlace_9 : decode cX7_isPlace 9 = .ok (.ireturn, 1) := by decide +kernel
theorem dX7_isMinute_0 : decode cX7_isMinute 0 = .ok (.iload_n 0, 1) := by decide +kernel
theorem dX7_isMinute_1 : decode cX7_isMinute 1 = .ok (.i2l, 1) := by decide +kernel
theorem dX7_isMinute_2 : decode cX7_isMinute 2 = .ok (.lconst 0, 1) := by decide +kernel
theorem dX7_isMinute_3 : decode cX7_isMinute 3 = .ok (.ldc2_w 121, 3) := by decide +kernel
theorem dX7_isMinute_6 : decode cX7_isMinute 6 = .ok (.invokestatic 49, 3) := by decide +kernel
theorem dX7_isMinute_9 : decode cX7_isMinute 9 = .ok (.ireturn, 1) := by decide +kernel
theorem dX7_lastsOn_0 : decode cX7_lastsOn 0 = .ok (.aload_n 0, 1) := by decide +kernel
theorem dX7_lastsOn_1 : decode cX7_lastsOn 1 = .ok (.getfield 7, 3) := by decide +kernel
theorem dX7_lastsOn_4 : decode cX7_lastsOn 4 = .ok (.iload_n 1, 1) := by decide +kernel
theorem dX7_lastsOn_5 : decode cX7_lastsOn 5 = .ok (.iload_n 2, 1) := by decide +kernel
theorem dX7_lastsOn_6 : decode cX7_lastsOn 6 = .ok (.iadd, 1) := by decide +kernel
theorem dX7_lastsOn_7 : decode cX7_lastsOn 7 = .ok (.iaload, 1) := by decide +kernel
theorem dX7_lastsOn_8 : decode cX7_lastsOn 8 = .ok (.istore_n 3, 1) := by decide +kernel
theorem dX7_lastsOn_9 : decode cX7_lastsOn 9 = .ok (.aload_n 0, 1) := by decide +kernel
theorem dX7_lastsOn_10 : decode cX7_lastsOn 10 = .ok (.getfield 7, 3) := by decide +kernel
theorem dX7_lastsOn_13 : decode cX7_lastsOn 13 = .ok (.iload_n 1, 1) := by decide +kernel
theorem dX7_lastsOn_14 : decode cX7_lastsOn 14 = .ok (.bipush 18, 2) := by decide +kernel
theorem dX7_lastsOn_16 : decode cX7_lastsOn 16 = .ok (.iadd, 1) := by decide +kernel
theorem dX7_lastsOn_17 : decode cX7_lastsOn 17 = .ok (.iload_n 2, 1) := by decide +kernel
theorem dX7_lastsOn_18 : decode cX7_lastsOn 18 = .ok (.iadd, 1) := by decide +kernel
theorem dX7_lastsOn_19 : decode cX7_lastsOn 19 = .ok (.iaload, 1) := by decide +kernel
theorem dX7_lastsOn_20 : decode cX7_lastsOn 20 = .ok (.istore 4, 2) := by decide +kernel
theorem dX7_lastsOn_22 : decode cX7_lastsOn 22 = .ok (.iload_n 3, 1) := by decide +kernel
theorem dX7_lastsOn_23 : decode cX7_lastsOn 23 = .ok (.ifCond .ne 8, 3) := by decide +kernel
theorem dX7_lastsOn_26 : decode cX7_lastsOn 26 = .ok (.iload 4, 2) := by decide +kernel
theorem dX7_lastsOn_28 : decode cX7_lastsOn 28 = .ok (.goto 33, 3) := by decide +kernel
theorem dX7_lastsOn_31 : decode cX7_lastsOn 31 = .ok (.iload_n 3, 1) := by decide +kernel
theorem dX7_lastsOn_32 : decode cX7_lastsOn 32 = .ok (.iconst 1, 1) := by decide +kernel
theorem dX7_lastsOn_33 : decode cX7_lastsOn 33 = .ok (.if_icmp .ne 10, 3) := by decide +kernel
theorem dX7_lastsOn_36 : decode cX7_lastsOn 36 = .ok (.iconst 2, 1) := by decide +kernel
theorem dX7_lastsOn_37 : decode cX7_lastsOn 37 = .ok (.iload 4, 2) := by decide +kernel
theorem dX7_lastsOn_39 : decode cX7_lastsOn 39 = .ok (.imul, 1) := by decide +kernel
theorem dX7_lastsOn_40 : decode cX7_lastsOn 40 = .ok (.goto 21, 3) := by decide +kernel
theorem dX7_lastsOn_43 : decode cX7_lastsOn 43 = .ok (.iload_n 3, 1) := by decide +kernel
theorem dX7_lastsOn_44 : decode cX7_lastsOn 44 = .ok (.iconst 2, 1) := by decide +kernel
theorem dX7_lastsOn_45 : decode cX7_lastsOn 45 = .ok (.if_icmp .ne 12, 3) := by decide +kernel
theorem dX7_lastsOn_48 : decode cX7_lastsOn 48 = .ok (.iconst 1, 1) := by decide +kernel
theorem dX7_lastsOn_49 : decode cX7_lastsOn 49 = .ok (.iload 4, 2) := by decide +kernel
theorem dX7_lastsOn_51 : decode cX7_lastsOn 51 = .ok (.iconst 2, 1) := by decide +kernel
theorem dX7_lastsOn_52 : decode cX7_lastsOn 52 = .ok (.idiv, 1) := by decide +kernel
theorem dX7_lastsOn_53 : decode cX7_lastsOn 53 = .ok (.iadd, 1) := by decide +kernel
theorem dX7_lastsOn_54 : decode cX7_lastsOn 54 = .ok (.goto 7, 3) := by decide +kernel
theorem dX7_lastsOn_57 : decode cX7_lastsOn 57 = .ok (.iload 4, 2) := by decide +kernel
theorem dX7_lastsOn_59 : decode cX7_lastsOn 59 = .ok (.iconst 2, 1) := by decide +kernel
theorem dX7_lastsOn_60 : decode cX7_lastsOn 60 = .ok (.idiv, 1) := by decide +kernel
theorem dX7_lastsOn_61 : decode cX7_lastsOn 61 = .ok (.ireturn, 1) := by decide +kernel
theorem dX7_wideOn_0 : decode cX7_wideOn 0 = .ok (.aload_n 0, 1) := by decide +kernel
theorem dX7_wideOn_1 : decode cX7_wideOn 1 = .ok (.getfield 7, 3) := by decide +kernel
theorem dX7_wideOn_4 : decode cX7_wideOn 4 = .ok (.iload_n 1, 1) := by decide +kernel
theorem dX7_wideOn_5 : decode cX7_wideOn 5 = .ok (.iload_n 2, 1) := by decide +kernel
theorem dX7_wideOn_6 : decode cX7_wideOn 6 = .ok (.iadd, 1) := by decide +kernel
theorem dX7_wideOn_7 : decode cX7_wideOn 7 = .ok (.iaload, 1) := by decide +kernel
theorem dX7_wideOn_8 : decode cX7_wideOn 8 = .ok (.istore_n 3, 1) := by decide +kernel
theorem dX7_wideOn_9 : decode cX7_wideOn 9 = .ok (.aload_n 0, 1) := by decide +kernel
theorem dX7_wideOn_10 : decode cX7_wideOn 10 = .ok (.getfield 7, 3) := by decide +kernel
theorem dX7_wideOn_13 : decode cX7_wideOn 13 = .ok (.iload_n 1, 1) := by decide +kernel
theorem dX7_wideOn_14 : decode cX7_wideOn 14 = .ok (.bipush 18, 2) := by decide +kernel
theorem dX7_wideOn_16 : decode cX7_wideOn 16 = .ok (.iadd, 1) := by decide +kernel
theorem dX7_wideOn_17 : decode cX7_wideOn 17 = .ok (.iload_n 2, 1) := by decide +kernel
theorem dX7_wideOn_18 : decode cX7_wideOn 18 = .ok (.iadd, 1) := by decide +kernel
theorem dX7_wideOn_19 : decode cX7_wideOn 19 = .ok (.iaload, 1) := by decide +kernel
theorem dX7_wideOn_20 : decode cX7_wideOn 20 = .ok (.istore 4, 2) := by decide +kernel
theorem dX7_wideOn_22 : decode cX7_wideOn 22 = .ok (.iload_n 3, 1) := by decide +kernel
theorem dX7_wideOn_23 : decode cX7_wideOn 23 = .ok (.iconst 1, 1) := by decide +kernel
theorem dX7_wideOn_24 : decode cX7_wideOn 24 = .ok (.if_icmp .ne 10, 3) := by decide +kernel
theorem dX7_wideOn_27 : decode cX7_wideOn 27 = .ok (.iload 4, 2) := by decide +kernel
theorem dX7_wideOn_29 : decode cX7_wideOn 29 = .ok (.iconst 2, 1) := by decide +kernel
theorem dX7_wideOn_30 : decode cX7_wideOn 30 = .ok (.idiv, 1) := by decide +kernel
theorem dX7_wideOn_31 : decode cX7_wideOn 31 = .ok (.goto 17, 3) := by decide +kernel
theorem dX7_wideOn_34 : decode cX7_wideOn 34 = .ok (.iload_n 3, 1) := by decide +kernel
theorem dX7_wideOn_35 : decode cX7_wideOn 35 = .ok (.iconst 3, 1) := by decide +kernel
theorem dX7_wideOn_36 : decode cX7_wideOn 36 = .ok (.if_icmp .ne 10, 3) := by decide +kernel
theorem dX7_wideOn_39 : decode cX7_wideOn 39 = .ok (.iload 4, 2) := by decide +kernel
theorem dX7_wideOn_41 : decode cX7_wideOn 41 = .ok (.iconst 2, 1) := by decide +kernel
theorem dX7_wideOn_42 : decode cX7_wideOn 42 = .ok (.iadd, 1) := by decide +kernel
theorem dX7_wideOn_43 : decode cX7_wideOn 43 = .ok (.goto 5, 3) := by decide +kernel
theorem dX7_wideOn_46 : decode cX7_wideOn 46 = .ok (.iload 4, 2) := by decide +kernel
theorem dX7_wideOn_48 : decode cX7_wideOn 48 = .ok (.ireturn, 1) := by decide +kernel
theorem dX7_shore_0 : decode cX7_shore 0 = .ok (.iload_n 0, 1) := by decide +kernel
theorem dX7_shore_1 : decode cX7_shore 1 = .ok (.ifCond .ge 7, 3) := by decide +kernel
theorem dX7_shore_4 : decode cX7_shore 4 = .ok (.iconst 0, 1) := by decide +kernel
theorem dX7_shore_5 : decode cX7_shore 5 = .ok (.goto 15, 3) := by decide +kernel
theorem dX7_shore_8 : decode cX7_shore 8 = .ok (.iload_n 0, 1) := by decide +kernel
theorem dX7_shore_9 : decode cX7_shore 9 = .ok (.bipush 12, 2) := by decide +kernel
theorem dX7_shore_11 : decode cX7_shore 11 = .ok (.if_icmp .lt 8, 3) := by decide +kernel
theorem dX7_shore_14 : decode cX7_shore 14 = .ok (.bipush 11, 2) := by decide +kernel
theorem dX7_shore_16 : decode cX7_shore 16 = .ok (.goto 4, 3) := by decide +kernel
theorem dX7_shore_19 : decode cX7_shore 19 = .ok (.iload_n 0, 1) := by decide +kernel
theorem dX7_shore_20 : decode cX7_shore 20 = .ok (.ireturn, 1) := by decide +kernel
theorem dX7_burstOn_0 : decode cX7_burstOn 0 = .ok (.aload_n 0, 1) := by decide +kernel
theorem dX7_burstOn_1 : decode cX7_burstOn 1 = .ok (.getfield 7, 3) := by decide +kernel
theorem dX7_burstOn_4 : decode cX7_burstOn 4 = .ok (.iload_n 1, 1) := by decide +kernel
theorem dX7_burstOn_5 : decode cX7_burstOn 5 = .ok (.bipush 6, 2) := by decide +kernel
theorem dX7_burstOn_7 : decode cX7_burstOn 7 = .ok (.iadd, 1) := by decide +kernel
theorem dX7_burstOn_8 : decode cX7_burstOn 8 = .ok (.iload_n 2, 1) := by decide +kernel
theorem dX7_burstOn_9 : decode cX7_burstOn 9 = .ok (.iadd, 1) := by decide +kernel
theorem dX7_burstOn_10 : decode cX7_burstOn 10 = .ok (.iaload, 1) := by decide +kernel
theorem dX7_burstOn_11 : decode cX7_burstOn 11 = .ok (.aload_n 0, 1) := by decide +kernel
theorem dX7_burstOn_12 : decode cX7_burstOn 12 = .ok (.getfield 7, 3) := by decide +kernel
theorem dX7_burstOn_15 : decode cX7_burstOn 15 = .ok (.iload_n 1, 1) := by decide +kernel
theorem dX7_burstOn_16 : decode cX7_burstOn 16 = .ok (.bipush 34, 2) := by decide +kernel
theorem dX7_burstOn_18 : decode cX7_burstOn 18 = .ok (.iadd, 1) := by decide +kernel
theorem dX7_burstOn_19 : decode cX7_burstOn 19 = .ok (.iaload, 1) := by decide +kernel
theorem dX7_burstOn_20 : decode cX7_burstOn 20 = .ok (.iadd, 1) := by decide +kernel
theorem dX7_burstOn_21 : decode cX7_burstOn 21 = .ok (.invokestatic 123, 3) := by decide +kernel
theorem dX7_burstOn_24 : decode cX7_burstOn 24 = .ok (.ireturn, 1) := by decide +kernel
theorem dX7_stickOn_0 : decode cX7_stickOn 0 = .ok (.aload_n 0, 1) := by decide +kernel
theorem dX7_stickOn_1 : decode cX7_stickOn 1 = .ok (.getfield 7, 3) := by decide +kernel
theorem dX7_stickOn_4 : decode cX7_stickOn 4 = .ok (.iload_n 1, 1) := by decide +kernel
theorem dX7_stickOn_5 : decode cX7_stickOn 5 = .ok (.bipush 34, 2) := by decide +kernel
theorem dX7_stickOn_7 : decode cX7_stickOn 7 = .ok (.iadd, 1) := by decide +kernel
theorem dX7_stickOn_8 : decode cX7_stickOn 8 = .ok (.iaload, 1) := by decide +kernel
theorem dX7_stickOn_9 : decode cX7_stickOn 9 = .ok (.istore_n 3, 1) := by decide +kernel
theorem dX7_stickOn_10 : decode cX7_stickOn 10 = .ok (.iload_n 3, 1) := by decide +kernel
theorem dX7_stickOn_11 : decode cX7_stickOn 11 = .ok (.ifCond .ge 8, 3) := by decide +kernel
theorem dX7_stickOn_14 : decode cX7_stickOn 14 = .ok (.iload_n 3, 1) := by decide +kernel
theorem dX7_stickOn_15 : decode cX7_stickOn 15 = .ok (.ineg, 1) := by decide +kernel
theorem dX7_stickOn_16 : decode cX7_stickOn 16 = .ok (.goto 4, 3) := by decide +kernel
theorem dX7_stickOn_19 : decode cX7_stickOn 19 = .ok (.iload_n 3, 1) := by decide +kernel
theorem dX7_stickOn_20 : decode cX7_stickOn 20 = .ok (.aload_n 0, 1) := by decide +kernel
theorem dX7_stickOn_21 : decode cX7_stickOn 21 = .ok (.iload_n 1, 1) := by decide +kernel
theorem dX7_stickOn_22 : decode cX7_stickOn 22 = .ok (.iload_n 2, 1) := by decide +kernel
theorem dX7_stickOn_23 : decode cX7_stickOn 23 = .ok (.invokevirtual 126, 3) := by decide +kernel
theorem dX7_stickOn_26 : decode cX7_stickOn 26 = .ok (.imul, 1) := by decide +kernel
theorem dX7_stickOn_27 : decode cX7_stickOn 27 = .ok (.iconst 4, 1) := by decide +kernel
theorem dX7_stickOn_28 : decode cX7_stickOn 28 = .ok (.idiv, 1) := by decide +kernel
theorem dX7_stickOn_29 : decode cX7_stickOn 29 = .ok (.istore 4, 2) := by decide +kernel
theorem dX7_stickOn_31 : decode cX7_stickOn 31 = .ok (.aload_n 0, 1) := by decide +kernel
theorem dX7_stickOn_32 : decode cX7_stickOn 32 = .ok (.iload_n 1, 1) := by decide +kernel
theorem dX7_stickOn_33 : decode cX7_stickOn 33 = .ok (.iload_n 2, 1) := by decide +kernel
theorem dX7_stickOn_34 : decode cX7_stickOn 34 = .ok (.invokevirtual 129, 3) := by decide +kernel
theorem dX7_stickOn_37 : decode cX7_stickOn 37 = .ok (.iload_n 3, 1) := by decide +kernel
theorem dX7_stickOn_38 : decode cX7_stickOn 38 = .ok (.ifCond .ge 9, 3) := by decide +kernel
theorem dX7_stickOn_41 : decode cX7_stickOn 41 = .ok (.iload 4, 2) := by decide +kernel
theorem dX7_stickOn_43 : decode cX7_stickOn 43 = .ok (.ineg, 1) := by decide +kernel
theorem dX7_stickOn_44 : decode cX7_stickOn 44 = .ok (.goto 5, 3) := by decide +kernel
theorem dX7_stickOn_47 : decode cX7_stickOn 47 = .ok (.iload 4, 2) := by decide +kernel
theorem dX7_stickOn_49 : decode cX7_stickOn 49 = .ok (.iadd, 1) := by decide +kernel
theorem dX7_stickOn_50 : decode cX7_stickOn 50 = .ok (.invokestatic 123, 3) := by decide +kernel
theorem dX7_stickOn_53 : decode cX7_stickOn 53 = .ok (.ireturn, 1) := by decide +kernel
theorem dX7_goesUp_0 : decode cX7_goesUp 0 = .ok (.aload_n 0, 1) := by decide +kernel
theorem dX7_goesUp_1 : decode cX7_goesUp 1 = .ok (.getfield 7, 3) := by decide +kernel
theorem dX7_goesUp_4 : decode cX7_goesUp 4 = .ok (.iload_n 1, 1) := by decide +kernel
theorem dX7_goesUp_5 : decode cX7_goesUp 5 = .ok (.bipush 18, 2) := by decide +kernel
theorem dX7_goesUp_7 : decode cX7_goesUp 7 = .ok (.iadd, 1) := by decide +kernel
theorem dX7_goesUp_8 : decode cX7_goesUp 8 = .ok (.iload_n 2, 1) := by decide +kernel
theorem dX7_goesUp_9 : decode cX7_goesUp 9 = .ok (.iadd, 1) := by decide +kernel
theorem dX7_goesUp_10 : decode cX7_goesUp 10 = .ok (.iaload, 1) := by decide +kernel
theorem dX7_goesUp_11 : decode cX7_goesUp 11 = .ok (.aload_n 0, 1) := by decide +kernel
theorem dX7_goesUp_12 : decode cX7_goesUp 12 = .ok (.getfield 7, 3) := by decide +kernel
theorem dX7_goesUp_15 : decode cX7_goesUp 15 = .ok (.iload_n 1, 1) := by decide +kernel
theorem dX7_goesUp_16 : decode cX7_goesUp 16 = .ok (.bipush 35, 2) := by decide +kernel
theorem dX7_goesUp_18 : decode cX7_goesUp 18 = .ok (.iadd, 1) := by decide +kernel
theorem dX7_goesUp_19 : decode cX7_goesUp 19 = .ok (.iaload, 1) := by decide +kernel
theorem dX7_goesUp_20 : decode cX7_goesUp 20 = .ok (.if_icmp .le 18, 3) := by decide +kernel
theorem dX7_goesUp_23 : decode cX7_goesUp 23 = .ok (.aload_n 0, 1) := by decide +kernel
theorem dX7_goesUp_24 : decode cX7_goesUp 24 = .ok (.getfield 132, 3) := by decide +kernel
theorem dX7_goesUp_27 : decode cX7_goesUp 27 = .ok (.iload_n 2, 1) := by decide +kernel
theorem dX7_goesUp_28 : decode cX7_goesUp 28 = .ok (.ishr, 1) := by decide +kernel
theorem dX7_goesUp_29 : decode cX7_goesUp 29 = .ok (.iconst 1, 1) := by decide +kernel
theorem dX7_goesUp_30 : decode cX7_goesUp 30 = .ok (.iand, 1) := by decide +kernel
theorem dX7_goesUp_31 : decode cX7_goesUp 31 = .ok (.ifCond .ne 7, 3) := by decide +kernel
theorem dX7_goesUp_34 : decode cX7_goesUp 34 = .ok (.iconst 1, 1) := by decide +kernel
theorem dX7_goesUp_35 : decode cX7_goesUp 35 = .ok (.goto 4, 3) := by decide +kernel
theorem dX7_goesUp_38 : decode cX7_goesUp 38 = .ok (.iconst 0, 1) := by decide +kernel
theorem dX7_goesUp_39 : decode cX7_goesUp 39 = .ok (.ireturn, 1) := by decide +kernel
theorem dX7_isUp_0 : decode cX7_isUp 0 = .ok (.aload_n 0, 1) := by decide +kernel
theorem dX7_isUp_1 : decode cX7_isUp 1 = .ok (.iload_n 1, 1) := by decide +kernel
theorem dX7_isUp_2 : decode cX7_isUp 2 = .ok (.iload_n 2, 1) := by decide +kernel
theorem dX7_isUp_3 : decode cX7_isUp 3 = .ok (.invokevirtual 135, 3) := by decide +kernel
theorem dX7_isUp_6 : decode cX7_isUp 6 = .ok (.ifCond .eq 48, 3) := by decide +kernel
theorem dX7_isUp_9 : decode cX7_isUp 9 = .ok (.iload_n 3, 1) := by decide +kernel
theorem dX7_isUp_10 : decode cX7_isUp 10 = .ok (.i2l, 1) := by decide +kernel
theorem dX7_isUp_11 : decode cX7_isUp 11 = .ok (.aload_n 0, 1) := by decide +kernel
theorem dX7_isUp_12 : decode cX7_isUp 12 = .ok (.getfield 7, 3) := by decide +kernel
theorem dX7_isUp_15 : decode cX7_isUp 15 = .ok (.iload_n 1, 1) := by decide +kernel
theorem dX7_isUp_16 : decode cX7_isUp 16 = .ok (.bipush 12, 2) := by decide +kernel
theorem dX7_isUp_18 : decode cX7_isUp 18 = .ok (.iadd, 1) := by decide +kernel
theorem dX7_isUp_19 : decode cX7_isUp 19 = .ok (.iload_n 2, 1) := by decide +kernel
theorem dX7_isUp_20 : decode cX7_isUp 20 = .ok (.iadd, 1) := by decide +kernel
theorem dX7_isUp_21 : decode cX7_isUp 21 = .ok (.iaload, 1) := by decide +kernel
theorem dX7_isUp_22 : decode cX7_isUp 22 = .ok (.i2l, 1) := by decide +kernel
theorem dX7_isUp_23 : decode cX7_isUp 23 = .ok (.aload_n 0, 1) := by decide +kernel
theorem dX7_isUp_24 : decode cX7_isUp 24 = .ok (.getfield 7, 3) := by decide +kernel
theorem dX7_isUp_27 : decode cX7_isUp 27 = .ok (.iload_n 1, 1) := by decide +kernel
theorem dX7_isUp_28 : decode cX7_isUp 28 = .ok (.bipush 12, 2) := by decide +kernel
theorem dX7_isUp_30 : decode cX7_isUp 30 = .ok (.iadd, 1) := by decide +kernel
theorem dX7_isUp_31 : decode cX7_isUp 31 = .ok (.iload_n 2, 1) := by decide +kernel
theorem dX7_isUp_32 : decode cX7_isUp 32 = .ok (.iadd, 1) := by decide +kernel
theorem dX7_isUp_33 : decode cX7_isUp 33 = .ok (.iaload, 1) := by decide +kernel
theorem dX7_isUp_34 : decode cX7_isUp 34 = .ok (.aload_n 0, 1) := by decide +kernel
theorem dX7_isUp_35 : decode cX7_isUp 35 = .ok (.iload_n 1, 1) := by decide +kernel
theorem dX7_isUp_36 : decode cX7_isUp 36 = .ok (.iload_n 2, 1) := by decide +kernel
theorem dX7_isUp_37 : decode cX7_isUp 37 = .ok (.invokevirtual 126, 3) := by decide +kernel
theorem dX7_isUp_40 : decode cX7_isUp 40 = .ok (.iadd, 1) := by decide +kernel
theorem dX7_isUp_41 : decode cX7_isUp 41 = .ok (.iconst 1, 1) := by decide +kernel
theorem dX7_isUp_42 : decode cX7_isUp 42 = .ok (.isub, 1) := by decide +kernel
theorem dX7_isUp_43 : decode cX7_isUp 43 = .ok (.i2l, 1) := by decide +kernel
theorem dX7_isUp_44 : decode cX7_isUp 44 = .ok (.invokestatic 49, 3) := by decide +kernel
theorem dX7_isUp_47 : decode cX7_isUp 47 = .ok (.ifCond .eq 7, 3) := by decide +kernel
theorem dX7_isUp_50 : decode cX7_isUp 50 = .ok (.iconst 1, 1) := by decide +kernel
theorem dX7_isUp_51 : decode cX7_isUp 51 = .ok (.goto 4, 3) := by decide +kernel
theorem dX7_isUp_54 : decode cX7_isUp 54 = .ok (.iconst 0, 1) := by decide +kernel
theorem dX7_isUp_55 : decode cX7_isUp 55 = .ok (.ireturn, 1) := by decide +kernel
