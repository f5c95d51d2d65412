theorem dX11_init_76 : decode cX11_init 76 = .ok (.newarray .int, 2) := by decide +kernel
theorem dX11_init_78 : decode cX11_init 78 = .ok (.putfield 35, 3) := by decide +kernel
theorem dX11_init_81 : decode cX11_init 81 = .ok (.aload_n 0, 1) := by decide +kernel
theorem dX11_init_82 : decode cX11_init 82 = .ok (.bipush 19, 2) := by decide +kernel
theorem dX11_init_84 : decode cX11_init 84 = .ok (.newarray .int, 2) := by decide +kernel
theorem dX11_init_86 : decode cX11_init 86 = .ok (.putfield 38, 3) := by decide +kernel
theorem dX11_init_89 : decode cX11_init 89 = .ok (.aload_n 0, 1) := by decide +kernel
theorem dX11_init_90 : decode cX11_init 90 = .ok (.bipush 19, 2) := by decide +kernel
theorem dX11_init_92 : decode cX11_init 92 = .ok (.newarray .int, 2) := by decide +kernel
theorem dX11_init_94 : decode cX11_init 94 = .ok (.putfield 41, 3) := by decide +kernel
theorem dX11_init_97 : decode cX11_init 97 = .ok (.aload_n 0, 1) := by decide +kernel
theorem dX11_init_98 : decode cX11_init 98 = .ok (.iconst 4, 1) := by decide +kernel
theorem dX11_init_99 : decode cX11_init 99 = .ok (.newarray .int, 2) := by decide +kernel
theorem dX11_init_101 : decode cX11_init 101 = .ok (.putfield 44, 3) := by decide +kernel
theorem dX11_init_104 : decode cX11_init 104 = .ok (.aload_n 0, 1) := by decide +kernel
theorem dX11_init_105 : decode cX11_init 105 = .ok (.iconst 4, 1) := by decide +kernel
theorem dX11_init_106 : decode cX11_init 106 = .ok (.newarray .int, 2) := by decide +kernel
theorem dX11_init_108 : decode cX11_init 108 = .ok (.dup, 1) := by decide +kernel
theorem dX11_init_109 : decode cX11_init 109 = .ok (.iconst 0, 1) := by decide +kernel
theorem dX11_init_110 : decode cX11_init 110 = .ok (.iconst (-1), 1) := by decide +kernel
theorem dX11_init_111 : decode cX11_init 111 = .ok (.iastore, 1) := by decide +kernel
theorem dX11_init_112 : decode cX11_init 112 = .ok (.dup, 1) := by decide +kernel
theorem dX11_init_113 : decode cX11_init 113 = .ok (.iconst 1, 1) := by decide +kernel
theorem dX11_init_114 : decode cX11_init 114 = .ok (.iconst (-1), 1) := by decide +kernel
theorem dX11_init_115 : decode cX11_init 115 = .ok (.iastore, 1) := by decide +kernel
theorem dX11_init_116 : decode cX11_init 116 = .ok (.dup, 1) := by decide +kernel
theorem dX11_init_117 : decode cX11_init 117 = .ok (.iconst 2, 1) := by decide +kernel
theorem dX11_init_118 : decode cX11_init 118 = .ok (.iconst (-1), 1) := by decide +kernel
theorem dX11_init_119 : decode cX11_init 119 = .ok (.iastore, 1) := by decide +kernel
theorem dX11_init_120 : decode cX11_init 120 = .ok (.dup, 1) := by decide +kernel
theorem dX11_init_121 : decode cX11_init 121 = .ok (.iconst 3, 1) := by decide +kernel
theorem dX11_init_122 : decode cX11_init 122 = .ok (.iconst (-1), 1) := by decide +kernel
theorem dX11_init_123 : decode cX11_init 123 = .ok (.iastore, 1) := by decide +kernel
theorem dX11_init_124 : decode cX11_init 124 = .ok (.putfield 47, 3) := by decide +kernel
theorem dX11_init_127 : decode cX11_init 127 = .ok (.aload_n 0, 1) := by decide +kernel
theorem dX11_init_128 : decode cX11_init 128 = .ok (.iconst 4, 1) := by decide +kernel
theorem dX11_init_129 : decode cX11_init 129 = .ok (.newarray .int, 2) := by decide +kernel
theorem dX11_init_131 : decode cX11_init 131 = .ok (.putfield 50, 3) := by decide +kernel
theorem dX11_init_134 : decode cX11_init 134 = .ok (.aload_n 0, 1) := by decide +kernel
theorem dX11_init_135 : decode cX11_init 135 = .ok (.sipush 144, 3) := by decide +kernel
theorem dX11_init_138 : decode cX11_init 138 = .ok (.newarray .boolean, 2) := by decide +kernel
theorem dX11_init_140 : decode cX11_init 140 = .ok (.putfield 53, 3) := by decide +kernel
theorem dX11_init_143 : decode cX11_init 143 = .ok (.aload_n 0, 1) := by decide +kernel
theorem dX11_init_144 : decode cX11_init 144 = .ok (.sipush 300, 3) := by decide +kernel
theorem dX11_init_147 : decode cX11_init 147 = .ok (.newarray .int, 2) := by decide +kernel
theorem dX11_init_149 : decode cX11_init 149 = .ok (.putfield 56, 3) := by decide +kernel
theorem dX11_init_152 : decode cX11_init 152 = .ok (.aload_n 0, 1) := by decide +kernel
theorem dX11_init_153 : decode cX11_init 153 = .ok (.iconst 3, 1) := by decide +kernel
theorem dX11_init_154 : decode cX11_init 154 = .ok (.newarray .int, 2) := by decide +kernel
theorem dX11_init_156 : decode cX11_init 156 = .ok (.putfield 59, 3) := by decide +kernel
theorem dX11_init_159 : decode cX11_init 159 = .ok (.aload_n 0, 1) := by decide +kernel
theorem dX11_init_160 : decode cX11_init 160 = .ok (.iconst 3, 1) := by decide +kernel
theorem dX11_init_161 : decode cX11_init 161 = .ok (.newarray .int, 2) := by decide +kernel
theorem dX11_init_163 : decode cX11_init 163 = .ok (.putfield 62, 3) := by decide +kernel
theorem dX11_init_166 : decode cX11_init 166 = .ok (.aload_n 0, 1) := by decide +kernel
theorem dX11_init_167 : decode cX11_init 167 = .ok (.iconst 3, 1) := by decide +kernel
theorem dX11_init_168 : decode cX11_init 168 = .ok (.newarray .int, 2) := by decide +kernel
theorem dX11_init_170 : decode cX11_init 170 = .ok (.putfield 65, 3) := by decide +kernel
theorem dX11_init_173 : decode cX11_init 173 = .ok (.aload_n 0, 1) := by decide +kernel
theorem dX11_init_174 : decode cX11_init 174 = .ok (.iconst 3, 1) := by decide +kernel
theorem dX11_init_175 : decode cX11_init 175 = .ok (.newarray .int, 2) := by decide +kernel
theorem dX11_init_177 : decode cX11_init 177 = .ok (.putfield 68, 3) := by decide +kernel
theorem dX11_init_180 : decode cX11_init 180 = .ok (.aload_n 0, 1) := by decide +kernel
theorem dX11_init_181 : decode cX11_init 181 = .ok (.bipush 57, 2) := by decide +kernel
theorem dX11_init_183 : decode cX11_init 183 = .ok (.newarray .int, 2) := by decide +kernel
theorem dX11_init_185 : decode cX11_init 185 = .ok (.putfield 71, 3) := by decide +kernel
theorem dX11_init_188 : decode cX11_init 188 = .ok (.aload_n 0, 1) := by decide +kernel
theorem dX11_init_189 : decode cX11_init 189 = .ok (.bipush 30, 2) := by decide +kernel
theorem dX11_init_191 : decode cX11_init 191 = .ok (.newarray .int, 2) := by decide +kernel
theorem dX11_init_193 : decode cX11_init 193 = .ok (.putfield 74, 3) := by decide +kernel
theorem dX11_init_196 : decode cX11_init 196 = .ok (.aload_n 0, 1) := by decide +kernel
theorem dX11_init_197 : decode cX11_init 197 = .ok (.bipush 30, 2) := by decide +kernel
theorem dX11_init_199 : decode cX11_init 199 = .ok (.newarray .int, 2) := by decide +kernel
theorem dX11_init_201 : decode cX11_init 201 = .ok (.putfield 77, 3) := by decide +kernel
theorem dX11_init_204 : decode cX11_init 204 = .ok (.aload_n 0, 1) := by decide +kernel
theorem dX11_init_205 : decode cX11_init 205 = .ok (.bipush 30, 2) := by decide +kernel
theorem dX11_init_207 : decode cX11_init 207 = .ok (.newarray .int, 2) := by decide +kernel
theorem dX11_init_209 : decode cX11_init 209 = .ok (.putfield 80, 3) := by decide +kernel
theorem dX11_init_212 : decode cX11_init 212 = .ok (.aload_n 0, 1) := by decide +kernel
theorem dX11_init_213 : decode cX11_init 213 = .ok (.bipush 30, 2) := by decide +kernel
theorem dX11_init_215 : decode cX11_init 215 = .ok (.newarray .int, 2) := by decide +kernel
theorem dX11_init_217 : decode cX11_init 217 = .ok (.putfield 83, 3) := by decide +kernel
theorem dX11_init_220 : decode cX11_init 220 = .ok (.aload_n 0, 1) := by decide +kernel
theorem dX11_init_221 : decode cX11_init 221 = .ok (.bipush 20, 2) := by decide +kernel
theorem dX11_init_223 : decode cX11_init 223 = .ok (.newarray .int, 2) := by decide +kernel
theorem dX11_init_225 : decode cX11_init 225 = .ok (.putfield 86, 3) := by decide +kernel
theorem dX11_init_228 : decode cX11_init 228 = .ok (.aload_n 0, 1) := by decide +kernel
theorem dX11_init_229 : decode cX11_init 229 = .ok (.sipush 240, 3) := by decide +kernel
theorem dX11_init_232 : decode cX11_init 232 = .ok (.newarray .int, 2) := by decide +kernel
theorem dX11_init_234 : decode cX11_init 234 = .ok (.putfield 89, 3) := by decide +kernel
theorem dX11_init_237 : decode cX11_init 237 = .ok (.aload_n 0, 1) := by decide +kernel
theorem dX11_init_238 : decode cX11_init 238 = .ok (.bipush 12, 2) := by decide +kernel
theorem dX11_init_240 : decode cX11_init 240 = .ok (.newarray .int, 2) := by decide +kernel
theorem dX11_init_242 : decode cX11_init 242 = .ok (.putfield 92, 3) := by decide +kernel
theorem dX11_init_245 : decode cX11_init 245 = .ok (.aload_n 0, 1) := by decide +kernel
theorem dX11_init_246 : decode cX11_init 246 = .ok (.bipush 8, 2) := by decide +kernel
theorem dX11_init_248 : decode cX11_init 248 = .ok (.newarray .int, 2) := by decide +kernel
theorem dX11_init_250 : decode cX11_init 250 = .ok (.putfield 95, 3) := by decide +kernel
theorem dX11_init_253 : decode cX11_init 253 = .ok (.aload_n 0, 1) := by decide +kernel
theorem dX11_init_254 : decode cX11_init 254 = .ok (.bipush 96, 2) := by decide +kernel
theorem dX11_init_256 : decode cX11_init 256 = .ok (.newarray .int, 2) := by decide +kernel
theorem dX11_init_258 : decode cX11_init 258 = .ok (.putfield 98, 3) := by decide +kernel
theorem dX11_init_261 : decode cX11_init 261 = .ok (.aload_n 0, 1) := by decide +kernel
theorem dX11_init_262 : decode cX11_init 262 = .ok (.sipush 7619, 3) := by decide +kernel
theorem dX11_init_265 : decode cX11_init 265 = .ok (.newarray .int, 2) := by decide +kernel
theorem dX11_init_267 : decode cX11_init 267 = .ok (.putfield 101, 3) := by decide +kernel
theorem dX11_init_270 : decode cX11_init 270 = .ok (.aload_n 0, 1) := by decide +kernel
theorem dX11_init_271 : decode cX11_init 271 = .ok (.sipush 401, 3) := by decide +kernel
theorem dX11_init_274 : decode cX11_init 274 = .ok (.newarray .int, 2) := by decide +kernel
theorem dX11_init_276 : decode cX11_init 276 = .ok (.putfield 104, 3) := by decide +kernel
theorem dX11_init_279 : decode cX11_init 279 = .ok (.aload_n 0, 1) := by decide +kernel
theorem dX11_init_280 : decode cX11_init 280 = .ok (.sipush 401, 3) := by decide +kernel
theorem dX11_init_283 : decode cX11_init 283 = .ok (.newarray .int, 2) := by decide +kernel
theorem dX11_init_285 : decode cX11_init 285 = .ok (.putfield 107, 3) := by decide +kernel
theorem dX11_init_288 : decode cX11_init 288 = .ok (.aload_n 0, 1) := by decide +kernel
theorem dX11_init_289 : decode cX11_init 289 = .ok (.sipush 401, 3) := by decide +kernel
theorem dX11_init_292 : decode cX11_init 292 = .ok (.newarray .int, 2) := by decide +kernel
theorem dX11_init_294 : decode cX11_init 294 = .ok (.putfield 110, 3) := by decide +kernel
theorem dX11_init_297 : decode cX11_init 297 = .ok (.return_, 1) := by decide +kernel
theorem dX11_in_0 : decode cX11_in 0 = .ok (.lload_n 0, 1) := by decide +kernel
theorem dX11_in_1 : decode cX11_in 1 = .ok (.lload_n 2, 1) := by decide +kernel
theorem dX11_in_2 : decode cX11_in 2 = .ok (.lcmp, 1) := by decide +kernel
theorem dX11_in_3 : decode cX11_in 3 = .ok (.ifCond .lt 14, 3) := by decide +kernel
theorem dX11_in_6 : decode cX11_in 6 = .ok (.lload_n 0, 1) := by decide +kernel
theorem dX11_in_7 : decode cX11_in 7 = .ok (.lload 4, 2) := by decide +kernel
theorem dX11_in_9 : decode cX11_in 9 = .ok (.lcmp, 1) := by decide +kernel
theorem dX11_in_10 : decode cX11_in 10 = .ok (.ifCond .gt 7, 3) := by decide +kernel
theorem dX11_in_13 : decode cX11_in 13 = .ok (.iconst 1, 1) := by decide +kernel
theorem dX11_in_14 : decode cX11_in 14 = .ok (.goto 4, 3) := by decide +kernel
theorem dX11_in_17 : decode cX11_in 17 = .ok (.iconst 0, 1) := by decide +kernel
theorem dX11_in_18 : decode cX11_in 18 = .ok (.ireturn, 1) := by decide +kernel
theorem dX11_isText_0 : decode cX11_isText 0 = .ok (.iload_n 0, 1) := by decide +kernel
theorem dX11_isText_1 : decode cX11_isText 1 = .ok (.bipush 24, 2) := by decide +kernel
theorem dX11_isText_3 : decode cX11_isText 3 = .ok (.iushr, 1) := by decide +kernel
theorem dX11_isText_4 : decode cX11_isText 4 = .ok (.i2l, 1) := by decide +kernel
theorem dX11_isText_5 : decode cX11_isText 5 = .ok (.ldc2_w 113, 3) := by decide +kernel
theorem dX11_isText_8 : decode cX11_isText 8 = .ok (.ldc2_w 115, 3) := by decide +kernel
theorem dX11_isText_11 : decode cX11_isText 11 = .ok (.invokestatic 117, 3) := by decide +kernel
theorem dX11_isText_14 : decode cX11_isText 14 = .ok (.ifCond .eq 67, 3) := by decide +kernel
theorem dX11_isText_17 : decode cX11_isText 17 = .ok (.iload_n 0, 1) := by decide +kernel
theorem dX11_isText_18 : decode cX11_isText 18 = .ok (.bipush 16, 2) := by decide +kernel
theorem dX11_isText_20 : decode cX11_isText 20 = .ok (.iushr, 1) := by decide +kernel
theorem dX11_isText_21 : decode cX11_isText 21 = .ok (.sipush 255, 3) := by decide +kernel
theorem dX11_isText_24 : decode cX11_isText 24 = .ok (.iand, 1) := by decide +kernel
theorem dX11_isText_25 : decode cX11_isText 25 = .ok (.i2l, 1) := by decide +kernel
theorem dX11_isText_26 : decode cX11_isText 26 = .ok (.ldc2_w 113, 3) := by decide +kernel
theorem dX11_isText_29 : decode cX11_isText 29 = .ok (.ldc2_w 115, 3) := by decide +kernel
theorem dX11_isText_32 : decode cX11_isText 32 = .ok (.invokestatic 117, 3) := by decide +kernel
theorem dX11_isText_35 : decode cX11_isText 35 = .ok (.ifCond .eq 46, 3) := by decide +kernel
theorem dX11_isText_38 : decode cX11_isText 38 = .ok (.iload_n 0, 1) := by decide +kernel
theorem dX11_isText_39 : decode cX11_isText 39 = .ok (.bipush 8, 2) := by decide +kernel
theorem dX11_isText_41 : decode cX11_isText 41 = .ok (.iushr, 1) := by decide +kernel
theorem dX11_isText_42 : decode cX11_isText 42 = .ok (.sipush 255, 3) := by decide +kernel
theorem dX11_isText_45 : decode cX11_isText 45 = .ok (.iand, 1) := by decide +kernel
theorem dX11_isText_46 : decode cX11_isText 46 = .ok (.i2l, 1) := by decide +kernel
theorem dX11_isText_47 : decode cX11_isText 47 = .ok (.ldc2_w 113, 3) := by decide +kernel
theorem dX11_isText_50 : decode cX11_isText 50 = .ok (.ldc2_w 115, 3) := by decide +kernel
theorem dX11_isText_53 : decode cX11_isText 53 = .ok (.invokestatic 117, 3) := by decide +kernel
theorem dX11_isText_56 : decode cX11_isText 56 = .ok (.ifCond .eq 25, 3) := by decide +kernel
theorem dX11_isText_59 : decode cX11_isText 59 = .ok (.iload_n 0, 1) := by decide +kernel
theorem dX11_isText_60 : decode cX11_isText 60 = .ok (.sipush 255, 3) := by decide +kernel
theorem dX11_isText_63 : decode cX11_isText 63 = .ok (.iand, 1) := by decide +kernel
theorem dX11_isText_64 : decode cX11_isText 64 = .ok (.i2l, 1) := by decide +kernel
theorem dX11_isText_65 : decode cX11_isText 65 = .ok (.ldc2_w 113, 3) := by decide +kernel
theorem dX11_isText_68 : decode cX11_isText 68 = .ok (.ldc2_w 115, 3) := by decide +kernel
theorem dX11_isText_71 : decode cX11_isText 71 = .ok (.invokestatic 117, 3) := by decide +kernel
theorem dX11_isText_74 : decode cX11_isText 74 = .ok (.ifCond .eq 7, 3) := by decide +kernel
theorem dX11_isText_77 : decode cX11_isText 77 = .ok (.iconst 1, 1) := by decide +kernel
theorem dX11_isText_78 : decode cX11_isText 78 = .ok (.goto 4, 3) := by decide +kernel
theorem dX11_isText_81 : decode cX11_isText 81 = .ok (.iconst 0, 1) := by decide +kernel
theorem dX11_isText_82 : decode cX11_isText 82 = .ok (.ireturn, 1) := by decide +kernel
theorem dX11_feed_0 : decode cX11_feed 0 = .ok (.iload_n 1, 1) := by decide +kernel
theorem dX11_feed_1 : decode cX11_feed 1 = .ok (.invokestatic 121, 3) := by decide +kernel
theorem dX11_feed_4 : decode cX11_feed 4 = .ok (.ifCond .eq 25, 3) := by decide +kernel
theorem dX11_feed_7 : decode cX11_feed 7 = .ok (.iload_n 2, 1) := by decide +kernel
theorem dX11_feed_8 : decode cX11_feed 8 = .ok (.invokestatic 121, 3) := by decide +kernel
theorem dX11_feed_11 : decode cX11_feed 11 = .ok (.ifCond .eq 18, 3) := by decide +kernel
theorem dX11_feed_14 : decode cX11_feed 14 = .ok (.iload_n 3, 1) := by decide +kernel
theorem dX11_feed_15 : decode cX11_feed 15 = .ok (.invokestatic 121, 3) := by decide +kernel
theorem dX11_feed_18 : decode cX11_feed 18 = .ok (.ifCond .eq 11, 3) := by decide +kernel
theorem dX11_feed_21 : decode cX11_feed 21 = .ok (.iload 4, 2) := by decide +kernel
theorem dX11_feed_23 : decode cX11_feed 23 = .ok (.invokestatic 121, 3) := by decide +kernel
theorem dX11_feed_26 : decode cX11_feed 26 = .ok (.ifCond .ne 5, 3) := by decide +kernel
theorem dX11_feed_29 : decode cX11_feed 29 = .ok (.iconst (-1), 1) := by decide +kernel
theorem dX11_feed_30 : decode cX11_feed 30 = .ok (.ireturn, 1) := by decide +kernel
theorem dX11_feed_31 : decode cX11_feed 31 = .ok (.aload_n 0, 1) := by decide +kernel
theorem dX11_feed_32 : decode cX11_feed 32 = .ok (.getfield 125, 3) := by decide +kernel
theorem dX11_feed_35 : decode cX11_feed 35 = .ok (.bipush 16, 2) := by decide +kernel
theorem dX11_feed_37 : decode cX11_feed 37 = .ok (.iadd, 1) := by decide +kernel
theorem dX11_feed_38 : decode cX11_feed 38 = .ok (.sipush 208, 3) := by decide +kernel
theorem dX11_feed_41 : decode cX11_feed 41 = .ok (.if_icmp .le 6, 3) := by decide +kernel
theorem dX11_feed_44 : decode cX11_feed 44 = .ok (.bipush (-3), 2) := by decide +kernel
theorem dX11_feed_46 : decode cX11_feed 46 = .ok (.ireturn, 1) := by decide +kernel
theorem dX11_feed_47 : decode cX11_feed 47 = .ok (.iconst 0, 1) := by decide +kernel
theorem dX11_feed_48 : decode cX11_feed 48 = .ok (.istore 5, 2) := by decide +kernel
theorem dX11_feed_50 : decode cX11_feed 50 = .ok (.iload 5, 2) := by decide +kernel
theorem dX11_feed_52 : decode cX11_feed 52 = .ok (.bipush 16, 2) := by decide +kernel
theorem dX11_feed_54 : decode cX11_feed 54 = .ok (.if_icmp .ge 74, 3) := by decide +kernel
theorem dX11_feed_57 : decode cX11_feed 57 = .ok (.iload 5, 2) := by decide +kernel
theorem dX11_feed_59 : decode cX11_feed 59 = .ok (.iconst 4, 1) := by decide +kernel
theorem dX11_feed_60 : decode cX11_feed 60 = .ok (.if_icmp .ge 7, 3) := by decide +kernel
theorem dX11_feed_63 : decode cX11_feed 63 = .ok (.iload_n 1, 1) := by decide +kernel
theorem dX11_feed_64 : decode cX11_feed 64 = .ok (.goto 27, 3) := by decide +kernel
theorem dX11_feed_67 : decode cX11_feed 67 = .ok (.iload 5, 2) := by decide +kernel
theorem dX11_feed_69 : decode cX11_feed 69 = .ok (.bipush 8, 2) := by decide +kernel
theorem dX11_feed_71 : decode cX11_feed 71 = .ok (.if_icmp .ge 7, 3) := by decide +kernel
theorem dX11_feed_74 : decode cX11_feed 74 = .ok (.iload_n 2, 1) := by decide +kernel
theorem dX11_feed_75 : decode cX11_feed 75 = .ok (.goto 16, 3) := by decide +kernel
theorem dX11_feed_78 : decode cX11_feed 78 = .ok (.iload 5, 2) := by decide +kernel
theorem dX11_feed_80 : decode cX11_feed 80 = .ok (.bipush 12, 2) := by decide +kernel
theorem dX11_feed_82 : decode cX11_feed 82 = .ok (.if_icmp .ge 7, 3) := by decide +kernel
theorem dX11_feed_85 : decode cX11_feed 85 = .ok (.iload_n 3, 1) := by decide +kernel
theorem dX11_feed_86 : decode cX11_feed 86 = .ok (.goto 5, 3) := by decide +kernel
theorem dX11_feed_89 : decode cX11_feed 89 = .ok (.iload 4, 2) := by decide +kernel
theorem dX11_feed_91 : decode cX11_feed 91 = .ok (.istore 6, 2) := by decide +kernel
theorem dX11_feed_93 : decode cX11_feed 93 = .ok (.aload_n 0, 1) := by decide +kernel
theorem dX11_feed_94 : decode cX11_feed 94 = .ok (.getfield 7, 3) := by decide +kernel
theorem dX11_feed_97 : decode cX11_feed 97 = .ok (.aload_n 0, 1) := by decide +kernel
theorem dX11_feed_98 : decode cX11_feed 98 = .ok (.getfield 125, 3) := by decide +kernel
theorem dX11_feed_101 : decode cX11_feed 101 = .ok (.iload 5, 2) := by decide +kernel
theorem dX11_feed_103 : decode cX11_feed 103 = .ok (.iadd, 1) := by decide +kernel
theorem dX11_feed_104 : decode cX11_feed 104 = .ok (.iload 6, 2) := by decide +kernel
theorem dX11_feed_106 : decode cX11_feed 106 = .ok (.bipush 24, 2) := by decide +kernel
theorem dX11_feed_108 : decode cX11_feed 108 = .ok (.bipush 8, 2) := by decide +kernel
theorem dX11_feed_110 : decode cX11_feed 110 = .ok (.iload 5, 2) := by decide +kernel
theorem dX11_feed_112 : decode cX11_feed 112 = .ok (.iconst 4, 1) := by decide +kernel
theorem dX11_feed_113 : decode cX11_feed 113 = .ok (.irem, 1) := by decide +kernel
theorem dX11_feed_114 : decode cX11_feed 114 = .ok (.imul, 1) := by decide +kernel
theorem dX11_feed_115 : decode cX11_feed 115 = .ok (.isub, 1) := by decide +kernel
theorem dX11_feed_116 : decode cX11_feed 116 = .ok (.iushr, 1) := by decide +kernel
theorem dX11_feed_117 : decode cX11_feed 117 = .ok (.sipush 255, 3) := by decide +kernel
theorem dX11_feed_120 : decode cX11_feed 120 = .ok (.iand, 1) := by decide +kernel
theorem dX11_feed_121 : decode cX11_feed 121 = .ok (.iastore, 1) := by decide +kernel
theorem dX11_feed_122 : decode cX11_feed 122 = .ok (.iinc 5 1, 3) := by decide +kernel
theorem dX11_feed_125 : decode cX11_feed 125 = .ok (.goto (-75), 3) := by decide +kernel
theorem dX11_feed_128 : decode cX11_feed 128 = .ok (.aload_n 0, 1) := by decide +kernel
theorem dX11_feed_129 : decode cX11_feed 129 = .ok (.dup, 1) := by decide +kernel
theorem dX11_feed_130 : decode cX11_feed 130 = .ok (.getfield 125, 3) := by decide +kernel
theorem dX11_feed_133 : decode cX11_feed 133 = .ok (.bipush 16, 2) := by decide +kernel
theorem dX11_feed_135 : decode cX11_feed 135 = .ok (.iadd, 1) := by decide +kernel
theorem dX11_feed_136 : decode cX11_feed 136 = .ok (.putfield 125, 3) := by decide +kernel
theorem dX11_feed_139 : decode cX11_feed 139 = .ok (.aload_n 0, 1) := by decide +kernel
theorem dX11_feed_140 : decode cX11_feed 140 = .ok (.getfield 125, 3) := by decide +kernel
theorem dX11_feed_143 : decode cX11_feed 143 = .ok (.ireturn, 1) := by decide +kernel
theorem dX11_cut_0 : decode cX11_cut 0 = .ok (.iload_n 1, 1) := by decide +kernel
theorem dX11_cut_1 : decode cX11_cut 1 = .ok (.i2l, 1) := by decide +kernel
theorem dX11_cut_2 : decode cX11_cut 2 = .ok (.lconst 0, 1) := by decide +kernel
theorem dX11_cut_3 : decode cX11_cut 3 = .ok (.aload_n 0, 1) := by decide +kernel
theorem dX11_cut_4 : decode cX11_cut 4 = .ok (.getfield 125, 3) := by decide +kernel
theorem dX11_cut_7 : decode cX11_cut 7 = .ok (.i2l, 1) := by decide +kernel
theorem dX11_cut_8 : decode cX11_cut 8 = .ok (.invokestatic 117, 3) := by decide +kernel
theorem dX11_cut_11 : decode cX11_cut 11 = .ok (.ifCond .ne 5, 3) := by decide +kernel
theorem dX11_cut_14 : decode cX11_cut 14 = .ok (.iconst (-1), 1) := by decide +kernel
theorem dX11_cut_15 : decode cX11_cut 15 = .ok (.ireturn, 1) := by decide +kernel
theorem dX11_cut_16 : decode cX11_cut 16 = .ok (.aload_n 0, 1) := by decide +kernel
theorem dX11_cut_17 : decode cX11_cut 17 = .ok (.dup, 1) := by decide +kernel
theorem dX11_cut_18 : decode cX11_cut 18 = .ok (.getfield 125, 3) := by decide +kernel
theorem dX11_cut_21 : decode cX11_cut 21 = .ok (.iload_n 1, 1) := by decide +kernel
theorem dX11_cut_22 : decode cX11_cut 22 = .ok (.isub, 1) := by decide +kernel
theorem dX11_cut_23 : decode cX11_cut 23 = .ok (.putfield 125, 3) := by decide +kernel
theorem dX11_cut_26 : decode cX11_cut 26 = .ok (.aload_n 0, 1) := by decide +kernel
theorem dX11_cut_27 : decode cX11_cut 27 = .ok (.getfield 125, 3) := by decide +kernel
theorem dX11_cut_30 : decode cX11_cut 30 = .ok (.ireturn, 1) := by decide +kernel
theorem dX11_at_0 : decode cX11_at 0 = .ok (.iload_n 1, 1) := by decide +kernel
theorem dX11_at_1 : decode cX11_at 1 = .ok (.aload_n 0, 1) := by decide +kernel
theorem dX11_at_2 : decode cX11_at 2 = .ok (.getfield 125, 3) := by decide +kernel
theorem dX11_at_5 : decode cX11_at 5 = .ok (.if_icmp .ge 12, 3) := by decide +kernel
theorem dX11_at_8 : decode cX11_at 8 = .ok (.aload_n 0, 1) := by decide +kernel
theorem dX11_at_9 : decode cX11_at 9 = .ok (.getfield 7, 3) := by decide +kernel
theorem dX11_at_12 : decode cX11_at 12 = .ok (.iload_n 1, 1) := by decide +kernel
theorem dX11_at_13 : decode cX11_at 13 = .ok (.iaload, 1) := by decide +kernel
theorem dX11_at_14 : decode cX11_at 14 = .ok (.goto 4, 3) := by decide +kernel
theorem dX11_at_17 : decode cX11_at 17 = .ok (.iconst 0, 1) := by decide +kernel
theorem dX11_at_18 : decode cX11_at 18 = .ok (.ireturn, 1) := by decide +kernel
theorem dX11_isLetter_0 : decode cX11_isLetter 0 = .ok (.iload_n 0, 1) := by decide +kernel
theorem dX11_isLetter_1 : decode cX11_isLetter 1 = .ok (.i2l, 1) := by decide +kernel
theorem dX11_isLetter_2 : decode cX11_isLetter 2 = .ok (.ldc2_w 129, 3) := by decide +kernel
theorem dX11_isLetter_5 : decode cX11_isLetter 5 = .ok (.ldc2_w 131, 3) := by decide +kernel
theorem dX11_isLetter_8 : decode cX11_isLetter 8 = .ok (.invokestatic 117, 3) := by decide +kernel
theorem dX11_isLetter_11 : decode cX11_isLetter 11 = .ok (.ifCond .ne 17, 3) := by decide +kernel
theorem dX11_isLetter_14 : decode cX11_isLetter 14 = .ok (.iload_n 0, 1) := by decide +kernel
theorem dX11_isLetter_15 : decode cX11_isLetter 15 = .ok (.i2l, 1) := by decide +kernel
theorem dX11_isLetter_16 : decode cX11_isLetter 16 = .ok (.ldc2_w 133, 3) := by decide +kernel
theorem dX11_isLetter_19 : decode cX11_isLetter 19 = .ok (.ldc2_w 135, 3) := by decide +kernel
theorem dX11_isLetter_22 : decode cX11_isLetter 22 = .ok (.invokestatic 117, 3) := by decide +kernel
theorem dX11_isLetter_25 : decode cX11_isLetter 25 = .ok (.ifCond .eq 7, 3) := by decide +kernel
theorem dX11_isLetter_28 : decode cX11_isLetter 28 = .ok (.iconst 1, 1) := by decide +kernel
theorem dX11_isLetter_29 : decode cX11_isLetter 29 = .ok (.goto 4, 3) := by decide +kernel
theorem dX11_isLetter_32 : decode cX11_isLetter 32 = .ok (.iconst 0, 1) := by decide +kernel
theorem dX11_isLetter_33 : decode cX11_isLetter 33 = .ok (.ireturn, 1) := by decide +kernel
theorem dX11_isFigure_0 : decode cX11_isFigure 0 = .ok (.iload_n 0, 1) := by decide +kernel
theorem dX11_isFigure_1 : decode cX11_isFigure 1 = .ok (.i2l, 1) := by decide +kernel
theorem dX11_isFigure_2 : decode cX11_isFigure 2 = .ok (.ldc2_w 137, 3) := by decide +kernel
theorem dX11_isFigure_5 : decode cX11_isFigure 5 = .ok (.ldc2_w 139, 3) := by decide +kernel
theorem dX11_isFigure_8 : decode cX11_isFigure 8 = .ok (.invokestatic 117, 3) := by decide +kernel
theorem dX11_isFigure_11 : decode cX11_isFigure 11 = .ok (.ireturn, 1) := by decide +kernel
theorem dX11_next_0 : decode cX11_next 0 = .ok (.aload_n 0, 1) := by decide +kernel
theorem dX11_next_1 : decode cX11_next 1 = .ok (.aload_n 0, 1) := by decide +kernel
theorem dX11_next_2 : decode cX11_next 2 = .ok (.getfield 141, 3) := by decide +kernel
theorem dX11_next_5 : decode cX11_next 5 = .ok (.invokevirtual 144, 3) := by decide +kernel
theorem dX11_next_8 : decode cX11_next 8 = .ok (.bipush 32, 2) := by decide +kernel
theorem dX11_next_10 : decode cX11_next 10 = .ok (.if_icmp .ne 16, 3) := by decide +kernel
theorem dX11_next_13 : decode cX11_next 13 = .ok (.aload_n 0, 1) := by decide +kernel
theorem dX11_next_14 : decode cX11_next 14 = .ok (.dup, 1) := by decide +kernel
theorem dX11_next_15 : decode cX11_next 15 = .ok (.getfield 141, 3) := by decide +kernel
theorem dX11_next_18 : decode cX11_next 18 = .ok (.iconst 1, 1) := by decide +kernel
theorem dX11_next_19 : decode cX11_next 19 = .ok (.iadd, 1) := by decide +kernel
theorem dX11_next_20 : decode cX11_next 20 = .ok (.putfield 141, 3) := by decide +kernel
theorem dX11_next_23 : decode cX11_next 23 = .ok (.goto (-23), 3) := by decide +kernel
theorem dX11_next_26 : decode cX11_next 26 = .ok (.aload_n 0, 1) := by decide +kernel
theorem dX11_next_27 : decode cX11_next 27 = .ok (.aload_n 0, 1) := by decide +kernel
theorem dX11_next_28 : decode cX11_next 28 = .ok (.getfield 141, 3) := by decide +kernel
theorem dX11_next_31 : decode cX11_next 31 = .ok (.putfield 148, 3) := by decide +kernel
theorem dX11_next_34 : decode cX11_next 34 = .ok (.aload_n 0, 1) := by decide +kernel
theorem dX11_next_35 : decode cX11_next 35 = .ok (.aload_n 0, 1) := by decide +kernel
theorem dX11_next_36 : decode cX11_next 36 = .ok (.getfield 148, 3) := by decide +kernel
theorem dX11_next_39 : decode cX11_next 39 = .ok (.invokevirtual 144, 3) := by decide +kernel
theorem dX11_next_42 : decode cX11_next 42 = .ok (.istore_n 1, 1) := by decide +kernel
theorem dX11_next_43 : decode cX11_next 43 = .ok (.aload_n 0, 1) := by decide +kernel
theorem dX11_next_44 : decode cX11_next 44 = .ok (.getfield 148, 3) := by decide +kernel
theorem dX11_next_47 : decode cX11_next 47 = .ok (.aload_n 0, 1) := by decide +kernel
theorem dX11_next_48 : decode cX11_next 48 = .ok (.getfield 125, 3) := by decide +kernel
theorem dX11_next_51 : decode cX11_next 51 = .ok (.if_icmp .ne 11, 3) := by decide +kernel
theorem dX11_next_54 : decode cX11_next 54 = .ok (.aload_n 0, 1) := by decide +kernel
theorem dX11_next_55 : decode cX11_next 55 = .ok (.iconst 0, 1) := by decide +kernel
theorem dX11_next_56 : decode cX11_next 56 = .ok (.putfield 151, 3) := by decide +kernel
theorem dX11_next_59 : decode cX11_next 59 = .ok (.goto 353, 3) := by decide +kernel
theorem dX11_next_62 : decode cX11_next 62 = .ok (.iload_n 1, 1) := by decide +kernel
theorem dX11_next_63 : decode cX11_next 63 = .ok (.invokestatic 154, 3) := by decide +kernel
theorem dX11_next_66 : decode cX11_next 66 = .ok (.ifCond .eq 124, 3) := by decide +kernel
theorem dX11_next_69 : decode cX11_next 69 = .ok (.aload_n 0, 1) := by decide +kernel
theorem dX11_next_70 : decode cX11_next 70 = .ok (.aload_n 0, 1) := by decide +kernel
theorem dX11_next_71 : decode cX11_next 71 = .ok (.getfield 141, 3) := by decide +kernel
theorem dX11_next_74 : decode cX11_next 74 = .ok (.invokevirtual 144, 3) := by decide +kernel
theorem dX11_next_77 : decode cX11_next 77 = .ok (.invokestatic 154, 3) := by decide +kernel
theorem dX11_next_80 : decode cX11_next 80 = .ok (.ifCond .eq 16, 3) := by decide +kernel
theorem dX11_next_83 : decode cX11_next 83 = .ok (.aload_n 0, 1) := by decide +kernel
theorem dX11_next_84 : decode cX11_next 84 = .ok (.dup, 1) := by decide +kernel
theorem dX11_next_85 : decode cX11_next 85 = .ok (.getfield 141, 3) := by decide +kernel
theorem dX11_next_88 : decode cX11_next 88 = .ok (.iconst 1, 1) := by decide +kernel
theorem dX11_next_89 : decode cX11_next 89 = .ok (.iadd, 1) := by decide +kernel
theorem dX11_next_90 : decode cX11_next 90 = .ok (.putfield 141, 3) := by decide +kernel
theorem dX11_next_93 : decode cX11_next 93 = .ok (.goto (-24), 3) := by decide +kernel
theorem dX11_next_96 : decode cX11_next 96 = .ok (.aload_n 0, 1) := by decide +kernel
theorem dX11_next_97 : decode cX11_next 97 = .ok (.aload_n 0, 1) := by decide +kernel
theorem dX11_next_98 : decode cX11_next 98 = .ok (.getfield 141, 3) := by decide +kernel
theorem dX11_next_101 : decode cX11_next 101 = .ok (.invokevirtual 144, 3) := by decide +kernel
theorem dX11_next_104 : decode cX11_next 104 = .ok (.invokestatic 157, 3) := by decide +kernel
theorem dX11_next_107 : decode cX11_next 107 = .ok (.ifCond .eq 16, 3) := by decide +kernel
theorem dX11_next_110 : decode cX11_next 110 = .ok (.aload_n 0, 1) := by decide +kernel
theorem dX11_next_111 : decode cX11_next 111 = .ok (.dup, 1) := by decide +kernel
theorem dX11_next_112 : decode cX11_next 112 = .ok (.getfield 141, 3) := by decide +kernel
theorem dX11_next_115 : decode cX11_next 115 = .ok (.iconst 1, 1) := by decide +kernel
theorem dX11_next_116 : decode cX11_next 116 = .ok (.iadd, 1) := by decide +kernel
theorem dX11_next_117 : decode cX11_next 117 = .ok (.putfield 141, 3) := by decide +kernel
theorem dX11_next_120 : decode cX11_next 120 = .ok (.goto (-24), 3) := by decide +kernel
theorem dX11_next_123 : decode cX11_next 123 = .ok (.aload_n 0, 1) := by decide +kernel
theorem dX11_next_124 : decode cX11_next 124 = .ok (.iconst 1, 1) := by decide +kernel
theorem dX11_next_125 : decode cX11_next 125 = .ok (.putfield 151, 3) := by decide +kernel
theorem dX11_next_128 : decode cX11_next 128 = .ok (.aload_n 0, 1) := by decide +kernel
theorem dX11_next_129 : decode cX11_next 129 = .ok (.iconst 0, 1) := by decide +kernel
theorem dX11_next_130 : decode cX11_next 130 = .ok (.putfield 160, 3) := by decide +kernel
theorem dX11_next_133 : decode cX11_next 133 = .ok (.aload_n 0, 1) := by decide +kernel
theorem dX11_next_134 : decode cX11_next 134 = .ok (.getfield 148, 3) := by decide +kernel
theorem dX11_next_137 : decode cX11_next 137 = .ok (.istore_n 2, 1) := by decide +kernel
theorem dX11_next_138 : decode cX11_next 138 = .ok (.iload_n 2, 1) := by decide +kernel
theorem dX11_next_139 : decode cX11_next 139 = .ok (.aload_n 0, 1) := by decide +kernel
theorem dX11_next_140 : decode cX11_next 140 = .ok (.getfield 141, 3) := by decide +kernel
theorem dX11_next_143 : decode cX11_next 143 = .ok (.if_icmp .ge 44, 3) := by decide +kernel
theorem dX11_next_146 : decode cX11_next 146 = .ok (.aload_n 0, 1) := by decide +kernel
theorem dX11_next_147 : decode cX11_next 147 = .ok (.aload_n 0, 1) := by decide +kernel
theorem dX11_next_148 : decode cX11_next 148 = .ok (.getfield 141, 3) := by decide +kernel
theorem dX11_next_151 : decode cX11_next 151 = .ok (.aload_n 0, 1) := by decide +kernel
theorem dX11_next_152 : decode cX11_next 152 = .ok (.getfield 148, 3) := by decide +kernel
theorem dX11_next_155 : decode cX11_next 155 = .ok (.isub, 1) := by decide +kernel
theorem dX11_next_156 : decode cX11_next 156 = .ok (.iconst 4, 1) := by decide +kernel
theorem dX11_next_157 : decode cX11_next 157 = .ok (.if_icmp .le 7, 3) := by decide +kernel
theorem dX11_next_160 : decode cX11_next 160 = .ok (.iconst (-1), 1) := by decide +kernel
theorem dX11_next_161 : decode cX11_next 161 = .ok (.goto 17, 3) := by decide +kernel
theorem dX11_next_164 : decode cX11_next 164 = .ok (.aload_n 0, 1) := by decide +kernel
theorem dX11_next_165 : decode cX11_next 165 = .ok (.getfield 160, 3) := by decide +kernel
theorem dX11_next_168 : decode cX11_next 168 = .ok (.bipush 8, 2) := by decide +kernel
theorem dX11_next_170 : decode cX11_next 170 = .ok (.ishl, 1) := by decide +kernel
theorem dX11_next_171 : decode cX11_next 171 = .ok (.aload_n 0, 1) := by decide +kernel
theorem dX11_next_172 : decode cX11_next 172 = .ok (.getfield 7, 3) := by decide +kernel
theorem dX11_next_175 : decode cX11_next 175 = .ok (.iload_n 2, 1) := by decide +kernel
theorem dX11_next_176 : decode cX11_next 176 = .ok (.iaload, 1) := by decide +kernel
theorem dX11_next_177 : decode cX11_next 177 = .ok (.ior, 1) := by decide +kernel
theorem dX11_next_178 : decode cX11_next 178 = .ok (.putfield 160, 3) := by decide +kernel
theorem dX11_next_181 : decode cX11_next 181 = .ok (.iinc 2 1, 3) := by decide +kernel
theorem dX11_next_184 : decode cX11_next 184 = .ok (.goto (-46), 3) := by decide +kernel
theorem dX11_next_187 : decode cX11_next 187 = .ok (.goto 225, 3) := by decide +kernel
theorem dX11_next_190 : decode cX11_next 190 = .ok (.iload_n 1, 1) := by decide +kernel
theorem dX11_next_191 : decode cX11_next 191 = .ok (.invokestatic 157, 3) := by decide +kernel
theorem dX11_next_194 : decode cX11_next 194 = .ok (.ifCond .eq 105, 3) := by decide +kernel
theorem dX11_next_197 : decode cX11_next 197 = .ok (.aload_n 0, 1) := by decide +kernel
theorem dX11_next_198 : decode cX11_next 198 = .ok (.iconst 0, 1) := by decide +kernel
theorem dX11_next_199 : decode cX11_next 199 = .ok (.putfield 163, 3) := by decide +kernel
theorem dX11_next_202 : decode cX11_next 202 = .ok (.aload_n 0, 1) := by decide +kernel
theorem dX11_next_203 : decode cX11_next 203 = .ok (.aload_n 0, 1) := by decide +kernel
theorem dX11_next_204 : decode cX11_next 204 = .ok (.getfield 141, 3) := by decide +kernel
theorem dX11_next_207 : decode cX11_next 207 = .ok (.invokevirtual 144, 3) := by decide +kernel
theorem dX11_next_210 : decode cX11_next 210 = .ok (.invokestatic 157, 3) := by decide +kernel
theorem dX11_next_213 : decode cX11_next 213 = .ok (.ifCond .eq 60, 3) := by decide +kernel
theorem dX11_next_216 : decode cX11_next 216 = .ok (.aload_n 0, 1) := by decide +kernel
theorem dX11_next_217 : decode cX11_next 217 = .ok (.aload_n 0, 1) := by decide +kernel
theorem dX11_next_218 : decode cX11_next 218 = .ok (.getfield 141, 3) := by decide +kernel
theorem dX11_next_221 : decode cX11_next 221 = .ok (.aload_n 0, 1) := by decide +kernel
theorem dX11_next_222 : decode cX11_next 222 = .ok (.getfield 148, 3) := by decide +kernel
theorem dX11_next_225 : decode cX11_next 225 = .ok (.isub, 1) := by decide +kernel
theorem dX11_next_226 : decode cX11_next 226 = .ok (.bipush 9, 2) := by decide +kernel
theorem dX11_next_228 : decode cX11_next 228 = .ok (.if_icmp .ge 25, 3) := by decide +kernel
theorem dX11_next_231 : decode cX11_next 231 = .ok (.bipush 10, 2) := by decide +kernel
theorem dX11_next_233 : decode cX11_next 233 = .ok (.aload_n 0, 1) := by decide +kernel
theorem dX11_next_234 : decode cX11_next 234 = .ok (.getfield 163, 3) := by decide +kernel
theorem dX11_next_237 : decode cX11_next 237 = .ok (.imul, 1) := by decide +kernel
theorem dX11_next_238 : decode cX11_next 238 = .ok (.aload_n 0, 1) := by decide +kernel
theorem dX11_next_239 : decode cX11_next 239 = .ok (.aload_n 0, 1) := by decide +kernel
theorem dX11_next_240 : decode cX11_next 240 = .ok (.getfield 141, 3) := by decide +kernel
theorem dX11_next_243 : decode cX11_next 243 = .ok (.invokevirtual 144, 3) := by decide +kernel
theorem dX11_next_246 : decode cX11_next 246 = .ok (.iadd, 1) := by decide +kernel
theorem dX11_next_247 : decode cX11_next 247 = .ok (.bipush 48, 2) := by decide +kernel
theorem dX11_next_249 : decode cX11_next 249 = .ok (.isub, 1) := by decide +kernel
theorem dX11_next_250 : decode cX11_next 250 = .ok (.goto 7, 3) := by decide +kernel
theorem dX11_next_253 : decode cX11_next 253 = .ok (.aload_n 0, 1) := by decide +kernel
theorem dX11_next_254 : decode cX11_next 254 = .ok (.getfield 163, 3) := by decide +kernel
theorem dX11_next_257 : decode cX11_next 257 = .ok (.putfield 163, 3) := by decide +kernel
theorem dX11_next_260 : decode cX11_next 260 = .ok (.aload_n 0, 1) := by decide +kernel
theorem dX11_next_261 : decode cX11_next 261 = .ok (.dup, 1) := by decide +kernel
theorem dX11_next_262 : decode cX11_next 262 = .ok (.getfield 141, 3) := by decide +kernel
theorem dX11_next_265 : decode cX11_next 265 = .ok (.iconst 1, 1) := by decide +kernel
theorem dX11_next_266 : decode cX11_next 266 = .ok (.iadd, 1) := by decide +kernel
theorem dX11_next_267 : decode cX11_next 267 = .ok (.putfield 141, 3) := by decide +kernel
theorem dX11_next_270 : decode cX11_next 270 = .ok (.goto (-68), 3) := by decide +kernel
theorem dX11_next_273 : decode cX11_next 273 = .ok (.aload_n 0, 1) := by decide +kernel
theorem dX11_next_274 : decode cX11_next 274 = .ok (.aload_n 0, 1) := by decide +kernel
theorem dX11_next_275 : decode cX11_next 275 = .ok (.getfield 141, 3) := by decide +kernel
theorem dX11_next_278 : decode cX11_next 278 = .ok (.aload_n 0, 1) := by decide +kernel
theorem dX11_next_279 : decode cX11_next 279 = .ok (.getfield 148, 3) := by decide +kernel
theorem dX11_next_282 : decode cX11_next 282 = .ok (.isub, 1) := by decide +kernel
theorem dX11_next_283 : decode cX11_next 283 = .ok (.bipush 9, 2) := by decide +kernel
theorem dX11_next_285 : decode cX11_next 285 = .ok (.if_icmp .le 7, 3) := by decide +kernel
theorem dX11_next_288 : decode cX11_next 288 = .ok (.iconst 3, 1) := by decide +kernel
theorem dX11_next_289 : decode cX11_next 289 = .ok (.goto 4, 3) := by decide +kernel
theorem dX11_next_292 : decode cX11_next 292 = .ok (.iconst 2, 1) := by decide +kernel
theorem dX11_next_293 : decode cX11_next 293 = .ok (.putfield 151, 3) := by decide +kernel
theorem dX11_next_296 : decode cX11_next 296 = .ok (.goto 116, 3) := by decide +kernel
theorem dX11_next_299 : decode cX11_next 299 = .ok (.aload_n 0, 1) := by decide +kernel
theorem dX11_next_300 : decode cX11_next 300 = .ok (.dup, 1) := by decide +kernel
theorem dX11_next_301 : decode cX11_next 301 = .ok (.getfield 141, 3) := by decide +kernel
theorem dX11_next_304 : decode cX11_next 304 = .ok (.iconst 1, 1) := by decide +kernel
theorem dX11_next_305 : decode cX11_next 305 = .ok (.iadd, 1) := by decide +kernel
theorem dX11_next_306 : decode cX11_next 306 = .ok (.putfield 141, 3) := by decide +kernel
theorem dX11_next_309 : decode cX11_next 309 = .ok (.iload_n 1, 1) := by decide +kernel
theorem dX11_next_310 : decode cX11_next 310 = .ok (.bipush 43, 2) := by decide +kernel
theorem dX11_next_312 : decode cX11_next 312 = .ok (.if_icmp .eq 81, 3) := by decide +kernel
theorem dX11_next_315 : decode cX11_next 315 = .ok (.iload_n 1, 1) := by decide +kernel
theorem dX11_next_316 : decode cX11_next 316 = .ok (.bipush 45, 2) := by decide +kernel
theorem dX11_next_318 : decode cX11_next 318 = .ok (.if_icmp .eq 75, 3) := by decide +kernel
theorem dX11_next_321 : decode cX11_next 321 = .ok (.iload_n 1, 1) := by decide +kernel
theorem dX11_next_322 : decode cX11_next 322 = .ok (.bipush 42, 2) := by decide +kernel
theorem dX11_next_324 : decode cX11_next 324 = .ok (.if_icmp .eq 69, 3) := by decide +kernel
theorem dX11_next_327 : decode cX11_next 327 = .ok (.iload_n 1, 1) := by decide +kernel
theorem dX11_next_328 : decode cX11_next 328 = .ok (.bipush 47, 2) := by decide +kernel
theorem dX11_next_330 : decode cX11_next 330 = .ok (.if_icmp .eq 63, 3) := by decide +kernel
theorem dX11_next_333 : decode cX11_next 333 = .ok (.iload_n 1, 1) := by decide +kernel
theorem dX11_next_334 : decode cX11_next 334 = .ok (.bipush 60, 2) := by decide +kernel
theorem dX11_next_336 : decode cX11_next 336 = .ok (.if_icmp .eq 57, 3) := by decide +kernel
theorem dX11_next_339 : decode cX11_next 339 = .ok (.iload_n 1, 1) := by decide +kernel
theorem dX11_next_340 : decode cX11_next 340 = .ok (.bipush 61, 2) := by decide +kernel
theorem dX11_next_342 : decode cX11_next 342 = .ok (.if_icmp .eq 51, 3) := by decide +kernel
theorem dX11_next_345 : decode cX11_next 345 = .ok (.iload_n 1, 1) := by decide +kernel
theorem dX11_next_346 : decode cX11_next 346 = .ok (.bipush 38, 2) := by decide +kernel
theorem dX11_next_348 : decode cX11_next 348 = .ok (.if_icmp .eq 45, 3) := by decide +kernel
theorem dX11_next_351 : decode cX11_next 351 = .ok (.iload_n 1, 1) := by decide +kernel
theorem dX11_next_352 : decode cX11_next 352 = .ok (.bipush 124, 2) := by decide +kernel
theorem dX11_next_354 : decode cX11_next 354 = .ok (.if_icmp .eq 39, 3) := by decide +kernel
theorem dX11_next_357 : decode cX11_next 357 = .ok (.iload_n 1, 1) := by decide +kernel
theorem dX11_next_358 : decode cX11_next 358 = .ok (.bipush 33, 2) := by decide +kernel
theorem dX11_next_360 : decode cX11_next 360 = .ok (.if_icmp .eq 33, 3) := by decide +kernel
theorem dX11_next_363 : decode cX11_next 363 = .ok (.iload_n 1, 1) := by decide +kernel
theorem dX11_next_364 : decode cX11_next 364 = .ok (.bipush 40, 2) := by decide +kernel
theorem dX11_next_366 : decode cX11_next 366 = .ok (.if_icmp .eq 27, 3) := by decide +kernel
theorem dX11_next_369 : decode cX11_next 369 = .ok (.iload_n 1, 1) := by decide +kernel
theorem dX11_next_370 : decode cX11_next 370 = .ok (.bipush 41, 2) := by decide +kernel
theorem dX11_next_372 : decode cX11_next 372 = .ok (.if_icmp .eq 21, 3) := by decide +kernel
theorem dX11_next_375 : decode cX11_next 375 = .ok (.iload_n 1, 1) := by decide +kernel
theorem dX11_next_376 : decode cX11_next 376 = .ok (.bipush 123, 2) := by decide +kernel
theorem dX11_next_378 : decode cX11_next 378 = .ok (.if_icmp .eq 15, 3) := by decide +kernel
theorem dX11_next_381 : decode cX11_next 381 = .ok (.iload_n 1, 1) := by decide +kernel
theorem dX11_next_382 : decode cX11_next 382 = .ok (.bipush 125, 2) := by decide +kernel
theorem dX11_next_384 : decode cX11_next 384 = .ok (.if_icmp .eq 9, 3) := by decide +kernel
theorem dX11_next_387 : decode cX11_next 387 = .ok (.iload_n 1, 1) := by decide +kernel
theorem dX11_next_388 : decode cX11_next 388 = .ok (.bipush 59, 2) := by decide +kernel
theorem dX11_next_390 : decode cX11_next 390 = .ok (.if_icmp .ne 7, 3) := by decide +kernel
theorem dX11_next_393 : decode cX11_next 393 = .ok (.iconst 1, 1) := by decide +kernel
theorem dX11_next_394 : decode cX11_next 394 = .ok (.goto 4, 3) := by decide +kernel
theorem dX11_next_397 : decode cX11_next 397 = .ok (.iconst 0, 1) := by decide +kernel
theorem dX11_next_398 : decode cX11_next 398 = .ok (.istore_n 2, 1) := by decide +kernel
theorem dX11_next_399 : decode cX11_next 399 = .ok (.aload_n 0, 1) := by decide +kernel
theorem dX11_next_400 : decode cX11_next 400 = .ok (.iload_n 2, 1) := by decide +kernel
theorem dX11_next_401 : decode cX11_next 401 = .ok (.ifCond .eq 7, 3) := by decide +kernel
theorem dX11_next_404 : decode cX11_next 404 = .ok (.iload_n 1, 1) := by decide +kernel
theorem dX11_next_405 : decode cX11_next 405 = .ok (.goto 4, 3) := by decide +kernel
theorem dX11_next_408 : decode cX11_next 408 = .ok (.iconst 3, 1) := by decide +kernel
theorem dX11_next_409 : decode cX11_next 409 = .ok (.putfield 151, 3) := by decide +kernel
theorem dX11_next_412 : decode cX11_next 412 = .ok (.return_, 1) := by decide +kernel
theorem dX11_step_0 : decode cX11_step 0 = .ok (.sipush 4200, 3) := by decide +kernel
theorem dX11_step_3 : decode cX11_step 3 = .ok (.aload_n 0, 1) := by decide +kernel
theorem dX11_step_4 : decode cX11_step 4 = .ok (.getfield 22, 3) := by decide +kernel
theorem dX11_step_7 : decode cX11_step 7 = .ok (.bipush 14, 2) := by decide +kernel
theorem dX11_step_9 : decode cX11_step 9 = .ok (.iaload, 1) := by decide +kernel
theorem dX11_step_10 : decode cX11_step 10 = .ok (.iadd, 1) := by decide +kernel
theorem dX11_step_11 : decode cX11_step 11 = .ok (.istore_n 3, 1) := by decide +kernel
theorem dX11_step_12 : decode cX11_step 12 = .ok (.aload_n 0, 1) := by decide +kernel
theorem dX11_step_13 : decode cX11_step 13 = .ok (.getfield 13, 3) := by decide +kernel
theorem dX11_step_16 : decode cX11_step 16 = .ok (.iload_n 3, 1) := by decide +kernel
theorem dX11_step_17 : decode cX11_step 17 = .ok (.iload_n 1, 1) := by decide +kernel
theorem dX11_step_18 : decode cX11_step 18 = .ok (.iastore, 1) := by decide +kernel
theorem dX11_step_19 : decode cX11_step 19 = .ok (.aload_n 0, 1) := by decide +kernel
theorem dX11_step_20 : decode cX11_step 20 = .ok (.getfield 16, 3) := by decide +kernel
theorem dX11_step_23 : decode cX11_step 23 = .ok (.iload_n 3, 1) := by decide +kernel
theorem dX11_step_24 : decode cX11_step 24 = .ok (.iload_n 2, 1) := by decide +kernel
theorem dX11_step_25 : decode cX11_step 25 = .ok (.iastore, 1) := by decide +kernel
theorem dX11_step_26 : decode cX11_step 26 = .ok (.aload_n 0, 1) := by decide +kernel
theorem dX11_step_27 : decode cX11_step 27 = .ok (.getfield 22, 3) := by decide +kernel
theorem dX11_step_30 : decode cX11_step 30 = .ok (.bipush 14, 2) := by decide +kernel
theorem dX11_step_32 : decode cX11_step 32 = .ok (.dup2, 1) := by decide +kernel
theorem dX11_step_33 : decode cX11_step 33 = .ok (.iaload, 1) := by decide +kernel
theorem dX11_step_34 : decode cX11_step 34 = .ok (.iconst 1, 1) := by decide +kernel
theorem dX11_step_35 : decode cX11_step 35 = .ok (.iadd, 1) := by decide +kernel
theorem dX11_step_36 : decode cX11_step 36 = .ok (.iastore, 1) := by decide +kernel
theorem dX11_step_37 : decode cX11_step 37 = .ok (.return_, 1) := by decide +kernel
theorem dX11_need_0 : decode cX11_need 0 = .ok (.aload_n 0, 1) := by decide +kernel
theorem dX11_need_1 : decode cX11_need 1 = .ok (.aload_n 0, 1) := by decide +kernel
theorem dX11_need_2 : decode cX11_need 2 = .ok (.getfield 166, 3) := by decide +kernel
theorem dX11_need_5 : decode cX11_need 5 = .ok (.ifCond .ne 11, 3) := by decide +kernel
theorem dX11_need_8 : decode cX11_need 8 = .ok (.aload_n 0, 1) := by decide +kernel
theorem dX11_need_9 : decode cX11_need 9 = .ok (.getfield 151, 3) := by decide +kernel
theorem dX11_need_12 : decode cX11_need 12 = .ok (.iload_n 1, 1) := by decide +kernel
theorem dX11_need_13 : decode cX11_need 13 = .ok (.if_icmp .eq 7, 3) := by decide +kernel
theorem dX11_need_16 : decode cX11_need 16 = .ok (.iconst 1, 1) := by decide +kernel
theorem dX11_need_17 : decode cX11_need 17 = .ok (.goto 4, 3) := by decide +kernel
theorem dX11_need_20 : decode cX11_need 20 = .ok (.iconst 0, 1) := by decide +kernel
theorem dX11_need_21 : decode cX11_need 21 = .ok (.putfield 166, 3) := by decide +kernel
theorem dX11_need_24 : decode cX11_need 24 = .ok (.aload_n 0, 1) := by decide +kernel
theorem dX11_need_25 : decode cX11_need 25 = .ok (.getfield 166, 3) := by decide +kernel
theorem dX11_need_28 : decode cX11_need 28 = .ok (.ifCond .ne 7, 3) := by decide +kernel
theorem dX11_need_31 : decode cX11_need 31 = .ok (.aload_n 0, 1) := by decide +kernel
theorem dX11_need_32 : decode cX11_need 32 = .ok (.invokevirtual 170, 3) := by decide +kernel
theorem dX11_need_35 : decode cX11_need 35 = .ok (.return_, 1) := by decide +kernel
theorem dX11_cellOf_0 : decode cX11_cellOf 0 = .ok (.iload_n 0, 1) := by decide +kernel
theorem dX11_cellOf_1 : decode cX11_cellOf 1 = .ok (.i2l, 1) := by decide +kernel
theorem dX11_cellOf_2 : decode cX11_cellOf 2 = .ok (.ldc2_w 129, 3) := by decide +kernel
theorem dX11_cellOf_5 : decode cX11_cellOf 5 = .ok (.ldc2_w 173, 3) := by decide +kernel
theorem dX11_cellOf_8 : decode cX11_cellOf 8 = .ok (.invokestatic 117, 3) := by decide +kernel
theorem dX11_cellOf_11 : decode cX11_cellOf 11 = .ok (.ifCond .eq 10, 3) := by decide +kernel
theorem dX11_cellOf_14 : decode cX11_cellOf 14 = .ok (.iload_n 0, 1) := by decide +kernel
theorem dX11_cellOf_15 : decode cX11_cellOf 15 = .ok (.bipush 97, 2) := by decide +kernel
theorem dX11_cellOf_17 : decode cX11_cellOf 17 = .ok (.isub, 1) := by decide +kernel
theorem dX11_cellOf_18 : decode cX11_cellOf 18 = .ok (.goto 26, 3) := by decide +kernel
theorem dX11_cellOf_21 : decode cX11_cellOf 21 = .ok (.iload_n 0, 1) := by decide +kernel
theorem dX11_cellOf_22 : decode cX11_cellOf 22 = .ok (.bipush 112, 2) := by decide +kernel
theorem dX11_cellOf_24 : decode cX11_cellOf 24 = .ok (.if_icmp .ne 8, 3) := by decide +kernel
theorem dX11_cellOf_27 : decode cX11_cellOf 27 = .ok (.bipush 6, 2) := by decide +kernel
theorem dX11_cellOf_29 : decode cX11_cellOf 29 = .ok (.goto 15, 3) := by decide +kernel
theorem dX11_cellOf_32 : decode cX11_cellOf 32 = .ok (.iload_n 0, 1) := by decide +kernel
theorem dX11_cellOf_33 : decode cX11_cellOf 33 = .ok (.bipush 113, 2) := by decide +kernel
theorem dX11_cellOf_35 : decode cX11_cellOf 35 = .ok (.if_icmp .ne 8, 3) := by decide +kernel
theorem dX11_cellOf_38 : decode cX11_cellOf 38 = .ok (.bipush 7, 2) := by decide +kernel
theorem dX11_cellOf_40 : decode cX11_cellOf 40 = .ok (.goto 4, 3) := by decide +kernel
theorem dX11_cellOf_43 : decode cX11_cellOf 43 = .ok (.iconst (-1), 1) := by decide +kernel
theorem dX11_cellOf_44 : decode cX11_cellOf 44 = .ok (.ireturn, 1) := by decide +kernel
theorem dX11_strength_0 : decode cX11_strength 0 = .ok (.iload_n 0, 1) := by decide +kernel
theorem dX11_strength_1 : decode cX11_strength 1 = .ok (.bipush 42, 2) := by decide +kernel
theorem dX11_strength_3 : decode cX11_strength 3 = .ok (.if_icmp .eq 15, 3) := by decide +kernel
theorem dX11_strength_6 : decode cX11_strength 6 = .ok (.iload_n 0, 1) := by decide +kernel
theorem dX11_strength_7 : decode cX11_strength 7 = .ok (.bipush 47, 2) := by decide +kernel
theorem dX11_strength_9 : decode cX11_strength 9 = .ok (.if_icmp .eq 9, 3) := by decide +kernel
theorem dX11_strength_12 : decode cX11_strength 12 = .ok (.iload_n 0, 1) := by decide +kernel
theorem dX11_strength_13 : decode cX11_strength 13 = .ok (.bipush 38, 2) := by decide +kernel
theorem dX11_strength_15 : decode cX11_strength 15 = .ok (.if_icmp .ne 7, 3) := by decide +kernel
theorem dX11_strength_18 : decode cX11_strength 18 = .ok (.iconst 3, 1) := by decide +kernel
theorem dX11_strength_19 : decode cX11_strength 19 = .ok (.goto 42, 3) := by decide +kernel
theorem dX11_strength_22 : decode cX11_strength 22 = .ok (.iload_n 0, 1) := by decide +kernel
theorem dX11_strength_23 : decode cX11_strength 23 = .ok (.bipush 43, 2) := by decide +kernel
theorem dX11_strength_25 : decode cX11_strength 25 = .ok (.if_icmp .eq 15, 3) := by decide +kernel
theorem dX11_strength_28 : decode cX11_strength 28 = .ok (.iload_n 0, 1) := by decide +kernel
theorem dX11_strength_29 : decode cX11_strength 29 = .ok (.bipush 45, 2) := by decide +kernel
theorem dX11_strength_31 : decode cX11_strength 31 = .ok (.if_icmp .eq 9, 3) := by decide +kernel
theorem dX11_strength_34 : decode cX11_strength 34 = .ok (.iload_n 0, 1) := by decide +kernel
theorem dX11_strength_35 : decode cX11_strength 35 = .ok (.bipush 124, 2) := by decide +kernel
theorem dX11_strength_37 : decode cX11_strength 37 = .ok (.if_icmp .ne 7, 3) := by decide +kernel
theorem dX11_strength_40 : decode cX11_strength 40 = .ok (.iconst 2, 1) := by decide +kernel
theorem dX11_strength_41 : decode cX11_strength 41 = .ok (.goto 20, 3) := by decide +kernel
theorem dX11_strength_44 : decode cX11_strength 44 = .ok (.iload_n 0, 1) := by decide +kernel
theorem dX11_strength_45 : decode cX11_strength 45 = .ok (.bipush 60, 2) := by decide +kernel
theorem dX11_strength_47 : decode cX11_strength 47 = .ok (.if_icmp .eq 9, 3) := by decide +kernel
theorem dX11_strength_50 : decode cX11_strength 50 = .ok (.iload_n 0, 1) := by decide +kernel
theorem dX11_strength_51 : decode cX11_strength 51 = .ok (.bipush 61, 2) := by decide +kernel
theorem dX11_strength_53 : decode cX11_strength 53 = .ok (.if_icmp .ne 7, 3) := by decide +kernel
theorem dX11_strength_56 : decode cX11_strength 56 = .ok (.iconst 1, 1) := by decide +kernel
theorem dX11_strength_57 : decode cX11_strength 57 = .ok (.goto 4, 3) := by decide +kernel
theorem dX11_strength_60 : decode cX11_strength 60 = .ok (.iconst 0, 1) := by decide +kernel
theorem dX11_strength_61 : decode cX11_strength 61 = .ok (.ireturn, 1) := by decide +kernel
theorem dX11_stepOf_0 : decode cX11_stepOf 0 = .ok (.iload_n 0, 1) := by decide +kernel
theorem dX11_stepOf_1 : decode cX11_stepOf 1 = .ok (.lookupswitch 88 #[(38, 82), (42, 76), (43, 67), (45, 70), (47, 79), (60, 85), (124, 73)], 67) := by decide +kernel
theorem dX11_stepOf_68 : decode cX11_stepOf 68 = .ok (.bipush 11, 2) := by decide +kernel
theorem dX11_stepOf_70 : decode cX11_stepOf 70 = .ok (.ireturn, 1) := by decide +kernel
theorem dX11_stepOf_71 : decode cX11_stepOf 71 = .ok (.bipush 12, 2) := by decide +kernel
theorem dX11_stepOf_73 : decode cX11_stepOf 73 = .ok (.ireturn, 1) := by decide +kernel
theorem dX11_stepOf_74 : decode cX11_stepOf 74 = .ok (.bipush 13, 2) := by decide +kernel
theorem dX11_stepOf_76 : decode cX11_stepOf 76 = .ok (.ireturn, 1) := by decide +kernel
theorem dX11_stepOf_77 : decode cX11_stepOf 77 = .ok (.bipush 14, 2) := by decide +kernel
theorem dX11_stepOf_79 : decode cX11_stepOf 79 = .ok (.ireturn, 1) := by decide +kernel
theorem dX11_stepOf_80 : decode cX11_stepOf 80 = .ok (.bipush 15, 2) := by decide +kernel
theorem dX11_stepOf_82 : decode cX11_stepOf 82 = .ok (.ireturn, 1) := by decide +kernel
theorem dX11_stepOf_83 : decode cX11_stepOf 83 = .ok (.bipush 16, 2) := by decide +kernel
theorem dX11_stepOf_85 : decode cX11_stepOf 85 = .ok (.ireturn, 1) := by decide +kernel
theorem dX11_stepOf_86 : decode cX11_stepOf 86 = .ok (.bipush 17, 2) := by decide +kernel
theorem dX11_stepOf_88 : decode cX11_stepOf 88 = .ok (.ireturn, 1) := by decide +kernel
theorem dX11_stepOf_89 : decode cX11_stepOf 89 = .ok (.bipush 18, 2) := by decide +kernel
theorem dX11_stepOf_91 : decode cX11_stepOf 91 = .ok (.ireturn, 1) := by decide +kernel
theorem dX11_top_0 : decode cX11_top 0 = .ok (.aload_n 0, 1) := by decide +kernel
theorem dX11_top_1 : decode cX11_top 1 = .ok (.getfield 175, 3) := by decide +kernel
theorem dX11_top_4 : decode cX11_top 4 = .ok (.ifCond .ne 7, 3) := by decide +kernel
theorem dX11_top_7 : decode cX11_top 7 = .ok (.iconst 0, 1) := by decide +kernel
theorem dX11_top_8 : decode cX11_top 8 = .ok (.goto 14, 3) := by decide +kernel
theorem dX11_top_11 : decode cX11_top 11 = .ok (.aload_n 0, 1) := by decide +kernel
theorem dX11_top_12 : decode cX11_top 12 = .ok (.getfield 32, 3) := by decide +kernel
theorem dX11_top_15 : decode cX11_top 15 = .ok (.aload_n 0, 1) := by decide +kernel
theorem dX11_top_16 : decode cX11_top 16 = .ok (.getfield 175, 3) := by decide +kernel
theorem dX11_top_19 : decode cX11_top 19 = .ok (.iconst 1, 1) := by decide +kernel
theorem dX11_top_20 : decode cX11_top 20 = .ok (.isub, 1) := by decide +kernel
theorem dX11_top_21 : decode cX11_top 21 = .ok (.iaload, 1) := by decide +kernel
theorem dX11_top_22 : decode cX11_top 22 = .ok (.ireturn, 1) := by decide +kernel
theorem dX11_reduce_0 : decode cX11_reduce 0 = .ok (.aload_n 0, 1) := by decide +kernel
theorem dX11_reduce_1 : decode cX11_reduce 1 = .ok (.invokevirtual 178, 3) := by decide +kernel
theorem dX11_reduce_4 : decode cX11_reduce 4 = .ok (.invokestatic 182, 3) := by decide +kernel
theorem dX11_reduce_7 : decode cX11_reduce 7 = .ok (.iload_n 1, 1) := by decide +kernel
theorem dX11_reduce_8 : decode cX11_reduce 8 = .ok (.if_icmp .lt 38, 3) := by decide +kernel
theorem dX11_reduce_11 : decode cX11_reduce 11 = .ok (.aload_n 0, 1) := by decide +kernel
theorem dX11_reduce_12 : decode cX11_reduce 12 = .ok (.invokevirtual 178, 3) := by decide +kernel
theorem dX11_reduce_15 : decode cX11_reduce 15 = .ok (.invokestatic 182, 3) := by decide +kernel
theorem dX11_reduce_18 : decode cX11_reduce 18 = .ok (.ifCond .le 28, 3) := by decide +kernel
theorem dX11_reduce_21 : decode cX11_reduce 21 = .ok (.aload_n 0, 1) := by decide +kernel
theorem dX11_reduce_22 : decode cX11_reduce 22 = .ok (.aload_n 0, 1) := by decide +kernel
theorem dX11_reduce_23 : decode cX11_reduce 23 = .ok (.invokevirtual 178, 3) := by decide +kernel
theorem dX11_reduce_26 : decode cX11_reduce 26 = .ok (.invokestatic 185, 3) := by decide +kernel
theorem dX11_reduce_29 : decode cX11_reduce 29 = .ok (.iconst 0, 1) := by decide +kernel
theorem dX11_reduce_30 : decode cX11_reduce 30 = .ok (.invokevirtual 188, 3) := by decide +kernel
theorem dX11_reduce_33 : decode cX11_reduce 33 = .ok (.aload_n 0, 1) := by decide +kernel
theorem dX11_reduce_34 : decode cX11_reduce 34 = .ok (.dup, 1) := by decide +kernel
theorem dX11_reduce_35 : decode cX11_reduce 35 = .ok (.getfield 175, 3) := by decide +kernel
theorem dX11_reduce_38 : decode cX11_reduce 38 = .ok (.iconst 1, 1) := by decide +kernel
theorem dX11_reduce_39 : decode cX11_reduce 39 = .ok (.isub, 1) := by decide +kernel
theorem dX11_reduce_40 : decode cX11_reduce 40 = .ok (.putfield 175, 3) := by decide +kernel
theorem dX11_reduce_43 : decode cX11_reduce 43 = .ok (.goto (-43), 3) := by decide +kernel
theorem dX11_reduce_46 : decode cX11_reduce 46 = .ok (.return_, 1) := by decide +kernel
theorem dX11_complete_0 : decode cX11_complete 0 = .ok (.aload_n 0, 1) := by decide +kernel
theorem dX11_complete_1 : decode cX11_complete 1 = .ok (.invokevirtual 178, 3) := by decide +kernel
theorem dX11_complete_4 : decode cX11_complete 4 = .ok (.iconst 1, 1) := by decide +kernel
theorem dX11_complete_5 : decode cX11_complete 5 = .ok (.if_icmp .eq 11, 3) := by decide +kernel
theorem dX11_complete_8 : decode cX11_complete 8 = .ok (.aload_n 0, 1) := by decide +kernel
theorem dX11_complete_9 : decode cX11_complete 9 = .ok (.invokevirtual 178, 3) := by decide +kernel
theorem dX11_complete_12 : decode cX11_complete 12 = .ok (.iconst 2, 1) := by decide +kernel
theorem dX11_complete_13 : decode cX11_complete 13 = .ok (.if_icmp .ne 36, 3) := by decide +kernel
theorem dX11_complete_16 : decode cX11_complete 16 = .ok (.aload_n 0, 1) := by decide +kernel
theorem dX11_complete_17 : decode cX11_complete 17 = .ok (.aload_n 0, 1) := by decide +kernel
theorem dX11_complete_18 : decode cX11_complete 18 = .ok (.invokevirtual 178, 3) := by decide +kernel
theorem dX11_complete_21 : decode cX11_complete 21 = .ok (.iconst 1, 1) := by decide +kernel
theorem dX11_complete_22 : decode cX11_complete 22 = .ok (.if_icmp .ne 8, 3) := by decide +kernel
theorem dX11_complete_25 : decode cX11_complete 25 = .ok (.bipush 10, 2) := by decide +kernel
theorem dX11_complete_27 : decode cX11_complete 27 = .ok (.goto 5, 3) := by decide +kernel
theorem dX11_complete_30 : decode cX11_complete 30 = .ok (.bipush 9, 2) := by decide +kernel
theorem dX11_complete_32 : decode cX11_complete 32 = .ok (.iconst 0, 1) := by decide +kernel
theorem dX11_complete_33 : decode cX11_complete 33 = .ok (.invokevirtual 188, 3) := by decide +kernel
theorem dX11_complete_36 : decode cX11_complete 36 = .ok (.aload_n 0, 1) := by decide +kernel
theorem dX11_complete_37 : decode cX11_complete 37 = .ok (.dup, 1) := by decide +kernel
theorem dX11_complete_38 : decode cX11_complete 38 = .ok (.getfield 175, 3) := by decide +kernel
theorem dX11_complete_41 : decode cX11_complete 41 = .ok (.iconst 1, 1) := by decide +kernel
theorem dX11_complete_42 : decode cX11_complete 42 = .ok (.isub, 1) := by decide +kernel
theorem dX11_complete_43 : decode cX11_complete 43 = .ok (.putfield 175, 3) := by decide +kernel
theorem dX11_complete_46 : decode cX11_complete 46 = .ok (.goto (-46), 3) := by decide +kernel
theorem dX11_complete_49 : decode cX11_complete 49 = .ok (.return_, 1) := by decide +kernel
theorem dX11_isOperand_0 : decode cX11_isOperand 0 = .ok (.aload_n 0, 1) := by decide +kernel
theorem dX11_isOperand_1 : decode cX11_isOperand 1 = .ok (.getfield 160, 3) := by decide +kernel
theorem dX11_isOperand_4 : decode cX11_isOperand 4 = .ok (.invokestatic 192, 3) := by decide +kernel
theorem dX11_isOperand_7 : decode cX11_isOperand 7 = .ok (.istore_n 2, 1) := by decide +kernel
theorem dX11_isOperand_8 : decode cX11_isOperand 8 = .ok (.iload_n 2, 1) := by decide +kernel
theorem dX11_isOperand_9 : decode cX11_isOperand 9 = .ok (.ifCond .lt 21, 3) := by decide +kernel
theorem dX11_isOperand_12 : decode cX11_isOperand 12 = .ok (.iload_n 2, 1) := by decide +kernel
theorem dX11_isOperand_13 : decode cX11_isOperand 13 = .ok (.bipush 6, 2) := by decide +kernel
theorem dX11_isOperand_15 : decode cX11_isOperand 15 = .ok (.if_icmp .lt 7, 3) := by decide +kernel
theorem dX11_isOperand_18 : decode cX11_isOperand 18 = .ok (.iload_n 1, 1) := by decide +kernel
theorem dX11_isOperand_19 : decode cX11_isOperand 19 = .ok (.ifCond .ne 11, 3) := by decide +kernel
theorem dX11_isOperand_22 : decode cX11_isOperand 22 = .ok (.aload_n 0, 1) := by decide +kernel
theorem dX11_isOperand_23 : decode cX11_isOperand 23 = .ok (.iconst 2, 1) := by decide +kernel
theorem dX11_isOperand_24 : decode cX11_isOperand 24 = .ok (.iload_n 2, 1) := by decide +kernel
theorem dX11_isOperand_25 : decode cX11_isOperand 25 = .ok (.invokevirtual 188, 3) := by decide +kernel
theorem dX11_isOperand_28 : decode cX11_isOperand 28 = .ok (.iconst 1, 1) := by decide +kernel
theorem dX11_isOperand_29 : decode cX11_isOperand 29 = .ok (.ireturn, 1) := by decide +kernel
theorem dX11_isOperand_30 : decode cX11_isOperand 30 = .ok (.aload_n 0, 1) := by decide +kernel
theorem dX11_isOperand_31 : decode cX11_isOperand 31 = .ok (.getfield 160, 3) := by decide +kernel
theorem dX11_isOperand_34 : decode cX11_isOperand 34 = .ok (.bipush 104, 2) := by decide +kernel
theorem dX11_isOperand_36 : decode cX11_isOperand 36 = .ok (.if_icmp .ne 8, 3) := by decide +kernel
theorem dX11_isOperand_39 : decode cX11_isOperand 39 = .ok (.bipush 6, 2) := by decide +kernel
theorem dX11_isOperand_41 : decode cX11_isOperand 41 = .ok (.goto 96, 3) := by decide +kernel
theorem dX11_isOperand_44 : decode cX11_isOperand 44 = .ok (.aload_n 0, 1) := by decide +kernel
theorem dX11_isOperand_45 : decode cX11_isOperand 45 = .ok (.getfield 160, 3) := by decide +kernel
theorem dX11_isOperand_48 : decode cX11_isOperand 48 = .ok (.bipush 80, 2) := by decide +kernel
theorem dX11_isOperand_50 : decode cX11_isOperand 50 = .ok (.if_icmp .eq 12, 3) := by decide +kernel
theorem dX11_isOperand_53 : decode cX11_isOperand 53 = .ok (.aload_n 0, 1) := by decide +kernel
theorem dX11_isOperand_54 : decode cX11_isOperand 54 = .ok (.getfield 160, 3) := by decide +kernel
theorem dX11_isOperand_57 : decode cX11_isOperand 57 = .ok (.bipush 81, 2) := by decide +kernel
theorem dX11_isOperand_59 : decode cX11_isOperand 59 = .ok (.if_icmp .ne 8, 3) := by decide +kernel
theorem dX11_isOperand_62 : decode cX11_isOperand 62 = .ok (.bipush 7, 2) := by decide +kernel
theorem dX11_isOperand_64 : decode cX11_isOperand 64 = .ok (.goto 73, 3) := by decide +kernel
theorem dX11_isOperand_67 : decode cX11_isOperand 67 = .ok (.iload_n 1, 1) := by decide +kernel
theorem dX11_isOperand_68 : decode cX11_isOperand 68 = .ok (.ifCond .eq 29, 3) := by decide +kernel
theorem dX11_isOperand_71 : decode cX11_isOperand 71 = .ok (.aload_n 0, 1) := by decide +kernel
theorem dX11_isOperand_72 : decode cX11_isOperand 72 = .ok (.getfield 160, 3) := by decide +kernel
theorem dX11_isOperand_75 : decode cX11_isOperand 75 = .ok (.i2l, 1) := by decide +kernel
theorem dX11_isOperand_76 : decode cX11_isOperand 76 = .ok (.ldc2_w 195, 3) := by decide +kernel
theorem dX11_isOperand_79 : decode cX11_isOperand 79 = .ok (.ldc2_w 197, 3) := by decide +kernel
theorem dX11_isOperand_82 : decode cX11_isOperand 82 = .ok (.invokestatic 117, 3) := by decide +kernel
theorem dX11_isOperand_85 : decode cX11_isOperand 85 = .ok (.ifCond .eq 8, 3) := by decide +kernel
theorem dX11_isOperand_88 : decode cX11_isOperand 88 = .ok (.bipush 8, 2) := by decide +kernel
theorem dX11_isOperand_90 : decode cX11_isOperand 90 = .ok (.goto 47, 3) := by decide +kernel
theorem dX11_isOperand_93 : decode cX11_isOperand 93 = .ok (.iconst 0, 1) := by decide +kernel
theorem dX11_isOperand_94 : decode cX11_isOperand 94 = .ok (.goto 43, 3) := by decide +kernel
theorem dX11_isOperand_97 : decode cX11_isOperand 97 = .ok (.aload_n 0, 1) := by decide +kernel
theorem dX11_isOperand_98 : decode cX11_isOperand 98 = .ok (.getfield 160, 3) := by decide +kernel
theorem dX11_isOperand_101 : decode cX11_isOperand 101 = .ok (.bipush 110, 2) := by decide +kernel
theorem dX11_isOperand_103 : decode cX11_isOperand 103 = .ok (.if_icmp .ne 7, 3) := by decide +kernel
theorem dX11_isOperand_106 : decode cX11_isOperand 106 = .ok (.iconst 3, 1) := by decide +kernel
theorem dX11_isOperand_107 : decode cX11_isOperand 107 = .ok (.goto 30, 3) := by decide +kernel
theorem dX11_isOperand_110 : decode cX11_isOperand 110 = .ok (.aload_n 0, 1) := by decide +kernel
theorem dX11_isOperand_111 : decode cX11_isOperand 111 = .ok (.getfield 160, 3) := by decide +kernel
theorem dX11_isOperand_114 : decode cX11_isOperand 114 = .ok (.bipush 118, 2) := by decide +kernel
theorem dX11_isOperand_116 : decode cX11_isOperand 116 = .ok (.if_icmp .ne 7, 3) := by decide +kernel
theorem dX11_isOperand_119 : decode cX11_isOperand 119 = .ok (.iconst 4, 1) := by decide +kernel
theorem dX11_isOperand_120 : decode cX11_isOperand 120 = .ok (.goto 17, 3) := by decide +kernel
theorem dX11_isOperand_123 : decode cX11_isOperand 123 = .ok (.aload_n 0, 1) := by decide +kernel
theorem dX11_isOperand_124 : decode cX11_isOperand 124 = .ok (.getfield 160, 3) := by decide +kernel
theorem dX11_isOperand_127 : decode cX11_isOperand 127 = .ok (.bipush 119, 2) := by decide +kernel
theorem dX11_isOperand_129 : decode cX11_isOperand 129 = .ok (.if_icmp .ne 7, 3) := by decide +kernel
theorem dX11_isOperand_132 : decode cX11_isOperand 132 = .ok (.iconst 5, 1) := by decide +kernel
theorem dX11_isOperand_133 : decode cX11_isOperand 133 = .ok (.goto 4, 3) := by decide +kernel
theorem dX11_isOperand_136 : decode cX11_isOperand 136 = .ok (.iconst 0, 1) := by decide +kernel
theorem dX11_isOperand_137 : decode cX11_isOperand 137 = .ok (.istore_n 3, 1) := by decide +kernel
theorem dX11_isOperand_138 : decode cX11_isOperand 138 = .ok (.iload_n 3, 1) := by decide +kernel
theorem dX11_isOperand_139 : decode cX11_isOperand 139 = .ok (.ifCond .le 49, 3) := by decide +kernel
theorem dX11_isOperand_142 : decode cX11_isOperand 142 = .ok (.aload_n 0, 1) := by decide +kernel
theorem dX11_isOperand_143 : decode cX11_isOperand 143 = .ok (.iload_n 3, 1) := by decide +kernel
theorem dX11_isOperand_144 : decode cX11_isOperand 144 = .ok (.iload_n 3, 1) := by decide +kernel
theorem dX11_isOperand_145 : decode cX11_isOperand 145 = .ok (.bipush 7, 2) := by decide +kernel
theorem dX11_isOperand_147 : decode cX11_isOperand 147 = .ok (.if_icmp .ne 20, 3) := by decide +kernel
theorem dX11_isOperand_150 : decode cX11_isOperand 150 = .ok (.aload_n 0, 1) := by decide +kernel
theorem dX11_isOperand_151 : decode cX11_isOperand 151 = .ok (.getfield 160, 3) := by decide +kernel
theorem dX11_isOperand_154 : decode cX11_isOperand 154 = .ok (.bipush 80, 2) := by decide +kernel
theorem dX11_isOperand_156 : decode cX11_isOperand 156 = .ok (.if_icmp .ne 7, 3) := by decide +kernel
theorem dX11_isOperand_159 : decode cX11_isOperand 159 = .ok (.iconst 0, 1) := by decide +kernel
theorem dX11_isOperand_160 : decode cX11_isOperand 160 = .ok (.goto 25, 3) := by decide +kernel
theorem dX11_isOperand_163 : decode cX11_isOperand 163 = .ok (.iconst 1, 1) := by decide +kernel
theorem dX11_isOperand_164 : decode cX11_isOperand 164 = .ok (.goto 21, 3) := by decide +kernel
theorem dX11_isOperand_167 : decode cX11_isOperand 167 = .ok (.iload_n 3, 1) := by decide +kernel
theorem dX11_isOperand_168 : decode cX11_isOperand 168 = .ok (.bipush 8, 2) := by decide +kernel
theorem dX11_isOperand_170 : decode cX11_isOperand 170 = .ok (.if_icmp .ne 14, 3) := by decide +kernel
theorem dX11_isOperand_173 : decode cX11_isOperand 173 = .ok (.aload_n 0, 1) := by decide +kernel
theorem dX11_isOperand_174 : decode cX11_isOperand 174 = .ok (.getfield 160, 3) := by decide +kernel
theorem dX11_isOperand_177 : decode cX11_isOperand 177 = .ok (.sipush 27952, 3) := by decide +kernel
theorem dX11_isOperand_180 : decode cX11_isOperand 180 = .ok (.isub, 1) := by decide +kernel
theorem dX11_isOperand_181 : decode cX11_isOperand 181 = .ok (.goto 4, 3) := by decide +kernel
theorem dX11_isOperand_184 : decode cX11_isOperand 184 = .ok (.iconst 0, 1) := by decide +kernel
theorem dX11_isOperand_185 : decode cX11_isOperand 185 = .ok (.invokevirtual 188, 3) := by decide +kernel
theorem dX11_isOperand_188 : decode cX11_isOperand 188 = .ok (.iload_n 3, 1) := by decide +kernel
theorem dX11_isOperand_189 : decode cX11_isOperand 189 = .ok (.ifCond .le 7, 3) := by decide +kernel
theorem dX11_isOperand_192 : decode cX11_isOperand 192 = .ok (.iconst 1, 1) := by decide +kernel
theorem dX11_isOperand_193 : decode cX11_isOperand 193 = .ok (.goto 4, 3) := by decide +kernel
theorem dX11_isOperand_196 : decode cX11_isOperand 196 = .ok (.iconst 0, 1) := by decide +kernel
theorem dX11_isOperand_197 : decode cX11_isOperand 197 = .ok (.ireturn, 1) := by decide +kernel
theorem dX11_expression_0 : decode cX11_expression 0 = .ok (.aload_n 0, 1) := by decide +kernel
theorem dX11_expression_1 : decode cX11_expression 1 = .ok (.iconst 0, 1) := by decide +kernel
theorem dX11_expression_2 : decode cX11_expression 2 = .ok (.putfield 175, 3) := by decide +kernel
theorem dX11_expression_5 : decode cX11_expression 5 = .ok (.aload_n 0, 1) := by decide +kernel
theorem dX11_expression_6 : decode cX11_expression 6 = .ok (.iconst 0, 1) := by decide +kernel
theorem dX11_expression_7 : decode cX11_expression 7 = .ok (.putfield 199, 3) := by decide +kernel
theorem dX11_expression_10 : decode cX11_expression 10 = .ok (.iconst 0, 1) := by decide +kernel
theorem dX11_expression_11 : decode cX11_expression 11 = .ok (.istore_n 2, 1) := by decide +kernel
theorem dX11_expression_12 : decode cX11_expression 12 = .ok (.iconst 1, 1) := by decide +kernel
theorem dX11_expression_13 : decode cX11_expression 13 = .ok (.istore_n 3, 1) := by decide +kernel
theorem dX11_expression_14 : decode cX11_expression 14 = .ok (.aload_n 0, 1) := by decide +kernel
theorem dX11_expression_15 : decode cX11_expression 15 = .ok (.getfield 166, 3) := by decide +kernel
theorem dX11_expression_18 : decode cX11_expression 18 = .ok (.ifCond .ne 7, 3) := by decide +kernel
theorem dX11_expression_21 : decode cX11_expression 21 = .ok (.iconst 1, 1) := by decide +kernel
theorem dX11_expression_22 : decode cX11_expression 22 = .ok (.goto 4, 3) := by decide +kernel
theorem dX11_expression_25 : decode cX11_expression 25 = .ok (.iconst 0, 1) := by decide +kernel
theorem dX11_expression_26 : decode cX11_expression 26 = .ok (.istore 4, 2) := by decide +kernel
theorem dX11_expression_28 : decode cX11_expression 28 = .ok (.iload 4, 2) := by decide +kernel
theorem dX11_expression_30 : decode cX11_expression 30 = .ok (.ifCond .eq 393, 3) := by decide +kernel
theorem dX11_expression_33 : decode cX11_expression 33 = .ok (.iload_n 3, 1) := by decide +kernel
theorem dX11_expression_34 : decode cX11_expression 34 = .ok (.ifCond .eq 210, 3) := by decide +kernel
theorem dX11_expression_37 : decode cX11_expression 37 = .ok (.aload_n 0, 1) := by decide +kernel
theorem dX11_expression_38 : decode cX11_expression 38 = .ok (.getfield 151, 3) := by decide +kernel
theorem dX11_expression_41 : decode cX11_expression 41 = .ok (.bipush 33, 2) := by decide +kernel
theorem dX11_expression_43 : decode cX11_expression 43 = .ok (.if_icmp .eq 12, 3) := by decide +kernel
theorem dX11_expression_46 : decode cX11_expression 46 = .ok (.aload_n 0, 1) := by decide +kernel
theorem dX11_expression_47 : decode cX11_expression 47 = .ok (.getfield 151, 3) := by decide +kernel
theorem dX11_expression_50 : decode cX11_expression 50 = .ok (.bipush 45, 2) := by decide +kernel
theorem dX11_expression_52 : decode cX11_expression 52 = .ok (.if_icmp .ne 57, 3) := by decide +kernel
theorem dX11_expression_55 : decode cX11_expression 55 = .ok (.iinc 2 1, 3) := by decide +kernel
theorem dX11_expression_58 : decode cX11_expression 58 = .ok (.aload_n 0, 1) := by decide +kernel
theorem dX11_expression_59 : decode cX11_expression 59 = .ok (.iload_n 2, 1) := by decide +kernel
theorem dX11_expression_60 : decode cX11_expression 60 = .ok (.bipush 8, 2) := by decide +kernel
theorem dX11_expression_62 : decode cX11_expression 62 = .ok (.if_icmp .le 7, 3) := by decide +kernel
theorem dX11_expression_65 : decode cX11_expression 65 = .ok (.iconst 1, 1) := by decide +kernel
theorem dX11_expression_66 : decode cX11_expression 66 = .ok (.goto 4, 3) := by decide +kernel
theorem dX11_expression_69 : decode cX11_expression 69 = .ok (.iconst 0, 1) := by decide +kernel
theorem dX11_expression_70 : decode cX11_expression 70 = .ok (.putfield 166, 3) := by decide +kernel
theorem dX11_expression_73 : decode cX11_expression 73 = .ok (.aload_n 0, 1) := by decide +kernel
theorem dX11_expression_74 : decode cX11_expression 74 = .ok (.getfield 32, 3) := by decide +kernel
theorem dX11_expression_77 : decode cX11_expression 77 = .ok (.aload_n 0, 1) := by decide +kernel
theorem dX11_expression_78 : decode cX11_expression 78 = .ok (.getfield 175, 3) := by decide +kernel
theorem dX11_expression_81 : decode cX11_expression 81 = .ok (.aload_n 0, 1) := by decide +kernel
theorem dX11_expression_82 : decode cX11_expression 82 = .ok (.getfield 151, 3) := by decide +kernel
theorem dX11_expression_85 : decode cX11_expression 85 = .ok (.bipush 45, 2) := by decide +kernel
theorem dX11_expression_87 : decode cX11_expression 87 = .ok (.if_icmp .ne 7, 3) := by decide +kernel
theorem dX11_expression_90 : decode cX11_expression 90 = .ok (.iconst 1, 1) := by decide +kernel
theorem dX11_expression_91 : decode cX11_expression 91 = .ok (.goto 4, 3) := by decide +kernel
theorem dX11_expression_94 : decode cX11_expression 94 = .ok (.iconst 2, 1) := by decide +kernel
theorem dX11_expression_95 : decode cX11_expression 95 = .ok (.iastore, 1) := by decide +kernel
theorem dX11_expression_96 : decode cX11_expression 96 = .ok (.aload_n 0, 1) := by decide +kernel
theorem dX11_expression_97 : decode cX11_expression 97 = .ok (.dup, 1) := by decide +kernel
theorem dX11_expression_98 : decode cX11_expression 98 = .ok (.getfield 175, 3) := by decide +kernel
theorem dX11_expression_101 : decode cX11_expression 101 = .ok (.iconst 1, 1) := by decide +kernel
theorem dX11_expression_102 : decode cX11_expression 102 = .ok (.iadd, 1) := by decide +kernel
theorem dX11_expression_103 : decode cX11_expression 103 = .ok (.putfield 175, 3) := by decide +kernel
theorem dX11_expression_106 : decode cX11_expression 106 = .ok (.goto 286, 3) := by decide +kernel
theorem dX11_expression_109 : decode cX11_expression 109 = .ok (.aload_n 0, 1) := by decide +kernel
theorem dX11_expression_110 : decode cX11_expression 110 = .ok (.getfield 151, 3) := by decide +kernel
theorem dX11_expression_113 : decode cX11_expression 113 = .ok (.bipush 40, 2) := by decide +kernel
theorem dX11_expression_115 : decode cX11_expression 115 = .ok (.if_icmp .ne 57, 3) := by decide +kernel
theorem dX11_expression_118 : decode cX11_expression 118 = .ok (.iconst 0, 1) := by decide +kernel
theorem dX11_expression_119 : decode cX11_expression 119 = .ok (.istore_n 2, 1) := by decide +kernel
theorem dX11_expression_120 : decode cX11_expression 120 = .ok (.aload_n 0, 1) := by decide +kernel
theorem dX11_expression_121 : decode cX11_expression 121 = .ok (.dup, 1) := by decide +kernel
theorem dX11_expression_122 : decode cX11_expression 122 = .ok (.getfield 199, 3) := by decide +kernel
theorem dX11_expression_125 : decode cX11_expression 125 = .ok (.iconst 1, 1) := by decide +kernel
theorem dX11_expression_126 : decode cX11_expression 126 = .ok (.iadd, 1) := by decide +kernel
theorem dX11_expression_127 : decode cX11_expression 127 = .ok (.putfield 199, 3) := by decide +kernel
theorem dX11_expression_130 : decode cX11_expression 130 = .ok (.aload_n 0, 1) := by decide +kernel
theorem dX11_expression_131 : decode cX11_expression 131 = .ok (.aload_n 0, 1) := by decide +kernel
theorem dX11_expression_132 : decode cX11_expression 132 = .ok (.getfield 199, 3) := by decide +kernel
theorem dX11_expression_135 : decode cX11_expression 135 = .ok (.bipush 8, 2) := by decide +kernel
theorem dX11_expression_137 : decode cX11_expression 137 = .ok (.if_icmp .le 7, 3) := by decide +kernel
theorem dX11_expression_140 : decode cX11_expression 140 = .ok (.iconst 1, 1) := by decide +kernel
theorem dX11_expression_141 : decode cX11_expression 141 = .ok (.goto 4, 3) := by decide +kernel
theorem dX11_expression_144 : decode cX11_expression 144 = .ok (.iconst 0, 1) := by decide +kernel
theorem dX11_expression_145 : decode cX11_expression 145 = .ok (.putfield 166, 3) := by decide +kernel
theorem dX11_expression_148 : decode cX11_expression 148 = .ok (.aload_n 0, 1) := by decide +kernel
theorem dX11_expression_149 : decode cX11_expression 149 = .ok (.getfield 32, 3) := by decide +kernel
theorem dX11_expression_152 : decode cX11_expression 152 = .ok (.aload_n 0, 1) := by decide +kernel
theorem dX11_expression_153 : decode cX11_expression 153 = .ok (.getfield 175, 3) := by decide +kernel
theorem dX11_expression_156 : decode cX11_expression 156 = .ok (.bipush 40, 2) := by decide +kernel
theorem dX11_expression_158 : decode cX11_expression 158 = .ok (.iastore, 1) := by decide +kernel
theorem dX11_expression_159 : decode cX11_expression 159 = .ok (.aload_n 0, 1) := by decide +kernel
theorem dX11_expression_160 : decode cX11_expression 160 = .ok (.dup, 1) := by decide +kernel
theorem dX11_expression_161 : decode cX11_expression 161 = .ok (.getfield 175, 3) := by decide +kernel
theorem dX11_expression_164 : decode cX11_expression 164 = .ok (.iconst 1, 1) := by decide +kernel
theorem dX11_expression_165 : decode cX11_expression 165 = .ok (.iadd, 1) := by decide +kernel
theorem dX11_expression_166 : decode cX11_expression 166 = .ok (.putfield 175, 3) := by decide +kernel
theorem dX11_expression_169 : decode cX11_expression 169 = .ok (.goto 223, 3) := by decide +kernel
theorem dX11_expression_172 : decode cX11_expression 172 = .ok (.aload_n 0, 1) := by decide +kernel
theorem dX11_expression_173 : decode cX11_expression 173 = .ok (.getfield 151, 3) := by decide +kernel
theorem dX11_expression_176 : decode cX11_expression 176 = .ok (.iconst 2, 1) := by decide +kernel
theorem dX11_expression_177 : decode cX11_expression 177 = .ok (.if_icmp .eq 11, 3) := by decide +kernel
theorem dX11_expression_180 : decode cX11_expression 180 = .ok (.aload_n 0, 1) := by decide +kernel
theorem dX11_expression_181 : decode cX11_expression 181 = .ok (.getfield 151, 3) := by decide +kernel
theorem dX11_expression_184 : decode cX11_expression 184 = .ok (.iconst 1, 1) := by decide +kernel
theorem dX11_expression_185 : decode cX11_expression 185 = .ok (.if_icmp .ne 51, 3) := by decide +kernel
theorem dX11_expression_188 : decode cX11_expression 188 = .ok (.iconst 0, 1) := by decide +kernel
theorem dX11_expression_189 : decode cX11_expression 189 = .ok (.istore_n 2, 1) := by decide +kernel
theorem dX11_expression_190 : decode cX11_expression 190 = .ok (.aload_n 0, 1) := by decide +kernel
theorem dX11_expression_191 : decode cX11_expression 191 = .ok (.getfield 151, 3) := by decide +kernel
theorem dX11_expression_194 : decode cX11_expression 194 = .ok (.iconst 2, 1) := by decide +kernel
theorem dX11_expression_195 : decode cX11_expression 195 = .ok (.if_icmp .ne 15, 3) := by decide +kernel
theorem dX11_expression_198 : decode cX11_expression 198 = .ok (.aload_n 0, 1) := by decide +kernel
theorem dX11_expression_199 : decode cX11_expression 199 = .ok (.iconst 1, 1) := by decide +kernel
theorem dX11_expression_200 : decode cX11_expression 200 = .ok (.aload_n 0, 1) := by decide +kernel
theorem dX11_expression_201 : decode cX11_expression 201 = .ok (.getfield 163, 3) := by decide +kernel
theorem dX11_expression_204 : decode cX11_expression 204 = .ok (.invokevirtual 188, 3) := by decide +kernel
theorem dX11_expression_207 : decode cX11_expression 207 = .ok (.goto 20, 3) := by decide +kernel
theorem dX11_expression_210 : decode cX11_expression 210 = .ok (.aload_n 0, 1) := by decide +kernel
theorem dX11_expression_211 : decode cX11_expression 211 = .ok (.aload_n 0, 1) := by decide +kernel
theorem dX11_expression_212 : decode cX11_expression 212 = .ok (.iload_n 1, 1) := by decide +kernel
theorem dX11_expression_213 : decode cX11_expression 213 = .ok (.invokevirtual 202, 3) := by decide +kernel
theorem dX11_expression_216 : decode cX11_expression 216 = .ok (.ifCond .ne 7, 3) := by decide +kernel
theorem dX11_expression_219 : decode cX11_expression 219 = .ok (.iconst 1, 1) := by decide +kernel
theorem dX11_expression_220 : decode cX11_expression 220 = .ok (.goto 4, 3) := by decide +kernel
theorem dX11_expression_223 : decode cX11_expression 223 = .ok (.iconst 0, 1) := by decide +kernel
theorem dX11_expression_224 : decode cX11_expression 224 = .ok (.putfield 166, 3) := by decide +kernel
theorem dX11_expression_227 : decode cX11_expression 227 = .ok (.aload_n 0, 1) := by decide +kernel
theorem dX11_expression_228 : decode cX11_expression 228 = .ok (.invokevirtual 206, 3) := by decide +kernel
theorem dX11_expression_231 : decode cX11_expression 231 = .ok (.iconst 0, 1) := by decide +kernel
theorem dX11_expression_232 : decode cX11_expression 232 = .ok (.istore_n 3, 1) := by decide +kernel
theorem dX11_expression_233 : decode cX11_expression 233 = .ok (.goto 159, 3) := by decide +kernel
theorem dX11_expression_236 : decode cX11_expression 236 = .ok (.aload_n 0, 1) := by decide +kernel
theorem dX11_expression_237 : decode cX11_expression 237 = .ok (.iconst 1, 1) := by decide +kernel
theorem dX11_expression_238 : decode cX11_expression 238 = .ok (.putfield 166, 3) := by decide +kernel
theorem dX11_expression_241 : decode cX11_expression 241 = .ok (.goto 151, 3) := by decide +kernel
theorem dX11_expression_244 : decode cX11_expression 244 = .ok (.aload_n 0, 1) := by decide +kernel
theorem dX11_expression_245 : decode cX11_expression 245 = .ok (.getfield 151, 3) := by decide +kernel
theorem dX11_expression_248 : decode cX11_expression 248 = .ok (.invokestatic 182, 3) := by decide +kernel
theorem dX11_expression_251 : decode cX11_expression 251 = .ok (.istore 5, 2) := by decide +kernel
theorem dX11_expression_253 : decode cX11_expression 253 = .ok (.aload_n 0, 1) := by decide +kernel
theorem dX11_expression_254 : decode cX11_expression 254 = .ok (.iload 5, 2) := by decide +kernel
theorem dX11_expression_256 : decode cX11_expression 256 = .ok (.iconst 1, 1) := by decide +kernel
theorem dX11_expression_257 : decode cX11_expression 257 = .ok (.if_icmp .le 8, 3) := by decide +kernel
theorem dX11_expression_260 : decode cX11_expression 260 = .ok (.iload 5, 2) := by decide +kernel
theorem dX11_expression_262 : decode cX11_expression 262 = .ok (.goto 4, 3) := by decide +kernel
theorem dX11_expression_265 : decode cX11_expression 265 = .ok (.iconst 2, 1) := by decide +kernel
theorem dX11_expression_266 : decode cX11_expression 266 = .ok (.invokevirtual 209, 3) := by decide +kernel
theorem dX11_expression_269 : decode cX11_expression 269 = .ok (.iload 5, 2) := by decide +kernel
theorem dX11_expression_271 : decode cX11_expression 271 = .ok (.iconst 1, 1) := by decide +kernel
theorem dX11_expression_272 : decode cX11_expression 272 = .ok (.if_icmp .gt 20, 3) := by decide +kernel
theorem dX11_expression_275 : decode cX11_expression 275 = .ok (.iload 5, 2) := by decide +kernel
theorem dX11_expression_277 : decode cX11_expression 277 = .ok (.iconst 1, 1) := by decide +kernel
theorem dX11_expression_278 : decode cX11_expression 278 = .ok (.if_icmp .ne 42, 3) := by decide +kernel
theorem dX11_expression_281 : decode cX11_expression 281 = .ok (.aload_n 0, 1) := by decide +kernel
theorem dX11_expression_282 : decode cX11_expression 282 = .ok (.invokevirtual 178, 3) := by decide +kernel
theorem dX11_expression_285 : decode cX11_expression 285 = .ok (.invokestatic 182, 3) := by decide +kernel
theorem dX11_expression_288 : decode cX11_expression 288 = .ok (.iconst 1, 1) := by decide +kernel
theorem dX11_expression_289 : decode cX11_expression 289 = .ok (.if_icmp .eq 31, 3) := by decide +kernel
theorem dX11_expression_292 : decode cX11_expression 292 = .ok (.aload_n 0, 1) := by decide +kernel
theorem dX11_expression_293 : decode cX11_expression 293 = .ok (.getfield 32, 3) := by decide +kernel
theorem dX11_expression_296 : decode cX11_expression 296 = .ok (.aload_n 0, 1) := by decide +kernel
theorem dX11_expression_297 : decode cX11_expression 297 = .ok (.getfield 175, 3) := by decide +kernel
theorem dX11_expression_300 : decode cX11_expression 300 = .ok (.aload_n 0, 1) := by decide +kernel
theorem dX11_expression_301 : decode cX11_expression 301 = .ok (.getfield 151, 3) := by decide +kernel
theorem dX11_expression_304 : decode cX11_expression 304 = .ok (.iastore, 1) := by decide +kernel
theorem dX11_expression_305 : decode cX11_expression 305 = .ok (.aload_n 0, 1) := by decide +kernel
theorem dX11_expression_306 : decode cX11_expression 306 = .ok (.dup, 1) := by decide +kernel
theorem dX11_expression_307 : decode cX11_expression 307 = .ok (.getfield 175, 3) := by decide +kernel
theorem dX11_expression_310 : decode cX11_expression 310 = .ok (.iconst 1, 1) := by decide +kernel
theorem dX11_expression_311 : decode cX11_expression 311 = .ok (.iadd, 1) := by decide +kernel
theorem dX11_expression_312 : decode cX11_expression 312 = .ok (.putfield 175, 3) := by decide +kernel
theorem dX11_expression_315 : decode cX11_expression 315 = .ok (.iconst 1, 1) := by decide +kernel
theorem dX11_expression_316 : decode cX11_expression 316 = .ok (.istore_n 3, 1) := by decide +kernel
theorem dX11_expression_317 : decode cX11_expression 317 = .ok (.goto 75, 3) := by decide +kernel
theorem dX11_expression_320 : decode cX11_expression 320 = .ok (.aload_n 0, 1) := by decide +kernel
theorem dX11_expression_321 : decode cX11_expression 321 = .ok (.getfield 151, 3) := by decide +kernel
theorem dX11_expression_324 : decode cX11_expression 324 = .ok (.bipush 41, 2) := by decide +kernel
theorem dX11_expression_326 : decode cX11_expression 326 = .ok (.if_icmp .ne 42, 3) := by decide +kernel
theorem dX11_expression_329 : decode cX11_expression 329 = .ok (.aload_n 0, 1) := by decide +kernel
theorem dX11_expression_330 : decode cX11_expression 330 = .ok (.getfield 199, 3) := by decide +kernel
theorem dX11_expression_333 : decode cX11_expression 333 = .ok (.ifCond .le 35, 3) := by decide +kernel
theorem dX11_expression_336 : decode cX11_expression 336 = .ok (.aload_n 0, 1) := by decide +kernel
theorem dX11_expression_337 : decode cX11_expression 337 = .ok (.iconst 1, 1) := by decide +kernel
theorem dX11_expression_338 : decode cX11_expression 338 = .ok (.invokevirtual 209, 3) := by decide +kernel
theorem dX11_expression_341 : decode cX11_expression 341 = .ok (.aload_n 0, 1) := by decide +kernel
theorem dX11_expression_342 : decode cX11_expression 342 = .ok (.dup, 1) := by decide +kernel
theorem dX11_expression_343 : decode cX11_expression 343 = .ok (.getfield 175, 3) := by decide +kernel
theorem dX11_expression_346 : decode cX11_expression 346 = .ok (.iconst 1, 1) := by decide +kernel
theorem dX11_expression_347 : decode cX11_expression 347 = .ok (.isub, 1) := by decide +kernel
theorem dX11_expression_348 : decode cX11_expression 348 = .ok (.putfield 175, 3) := by decide +kernel
theorem dX11_expression_351 : decode cX11_expression 351 = .ok (.aload_n 0, 1) := by decide +kernel
theorem dX11_expression_352 : decode cX11_expression 352 = .ok (.dup, 1) := by decide +kernel
theorem dX11_expression_353 : decode cX11_expression 353 = .ok (.getfield 199, 3) := by decide +kernel
theorem dX11_expression_356 : decode cX11_expression 356 = .ok (.iconst 1, 1) := by decide +kernel
theorem dX11_expression_357 : decode cX11_expression 357 = .ok (.isub, 1) := by decide +kernel
theorem dX11_expression_358 : decode cX11_expression 358 = .ok (.putfield 199, 3) := by decide +kernel
theorem dX11_expression_361 : decode cX11_expression 361 = .ok (.aload_n 0, 1) := by decide +kernel
theorem dX11_expression_362 : decode cX11_expression 362 = .ok (.invokevirtual 206, 3) := by decide +kernel
theorem dX11_expression_365 : decode cX11_expression 365 = .ok (.goto 27, 3) := by decide +kernel
theorem dX11_expression_368 : decode cX11_expression 368 = .ok (.aload_n 0, 1) := by decide +kernel
theorem dX11_expression_369 : decode cX11_expression 369 = .ok (.iconst 1, 1) := by decide +kernel
theorem dX11_expression_370 : decode cX11_expression 370 = .ok (.invokevirtual 209, 3) := by decide +kernel
theorem dX11_expression_373 : decode cX11_expression 373 = .ok (.aload_n 0, 1) := by decide +kernel
theorem dX11_expression_374 : decode cX11_expression 374 = .ok (.aload_n 0, 1) := by decide +kernel
theorem dX11_expression_375 : decode cX11_expression 375 = .ok (.getfield 199, 3) := by decide +kernel
theorem dX11_expression_378 : decode cX11_expression 378 = .ok (.ifCond .le 7, 3) := by decide +kernel
theorem dX11_expression_381 : decode cX11_expression 381 = .ok (.iconst 1, 1) := by decide +kernel
theorem dX11_expression_382 : decode cX11_expression 382 = .ok (.goto 4, 3) := by decide +kernel
theorem dX11_expression_385 : decode cX11_expression 385 = .ok (.iconst 0, 1) := by decide +kernel
theorem dX11_expression_386 : decode cX11_expression 386 = .ok (.putfield 166, 3) := by decide +kernel
theorem dX11_expression_389 : decode cX11_expression 389 = .ok (.iconst 0, 1) := by decide +kernel
theorem dX11_expression_390 : decode cX11_expression 390 = .ok (.istore 4, 2) := by decide +kernel
theorem dX11_expression_392 : decode cX11_expression 392 = .ok (.iload 4, 2) := by decide +kernel
theorem dX11_expression_394 : decode cX11_expression 394 = .ok (.ifCond .eq 14, 3) := by decide +kernel
theorem dX11_expression_397 : decode cX11_expression 397 = .ok (.aload_n 0, 1) := by decide +kernel
theorem dX11_expression_398 : decode cX11_expression 398 = .ok (.getfield 166, 3) := by decide +kernel
theorem dX11_expression_401 : decode cX11_expression 401 = .ok (.ifCond .ne 7, 3) := by decide +kernel
theorem dX11_expression_404 : decode cX11_expression 404 = .ok (.iconst 1, 1) := by decide +kernel
theorem dX11_expression_405 : decode cX11_expression 405 = .ok (.goto 4, 3) := by decide +kernel
theorem dX11_expression_408 : decode cX11_expression 408 = .ok (.iconst 0, 1) := by decide +kernel
theorem dX11_expression_409 : decode cX11_expression 409 = .ok (.istore 4, 2) := by decide +kernel
theorem dX11_expression_411 : decode cX11_expression 411 = .ok (.iload 4, 2) := by decide +kernel
theorem dX11_expression_413 : decode cX11_expression 413 = .ok (.ifCond .eq (-385), 3) := by decide +kernel
theorem dX11_expression_416 : decode cX11_expression 416 = .ok (.aload_n 0, 1) := by decide +kernel
theorem dX11_expression_417 : decode cX11_expression 417 = .ok (.invokevirtual 170, 3) := by decide +kernel
theorem dX11_expression_420 : decode cX11_expression 420 = .ok (.goto (-392), 3) := by decide +kernel
theorem dX11_expression_423 : decode cX11_expression 423 = .ok (.return_, 1) := by decide +kernel
theorem dX11_statement_0 : decode cX11_statement 0 = .ok (.aload_n 0, 1) := by decide +kernel
theorem dX11_statement_1 : decode cX11_statement 1 = .ok (.dup, 1) := by decide +kernel
theorem dX11_statement_2 : decode cX11_statement 2 = .ok (.getfield 213, 3) := by decide +kernel
theorem dX11_statement_5 : decode cX11_statement 5 = .ok (.iconst 1, 1) := by decide +kernel
theorem dX11_statement_6 : decode cX11_statement 6 = .ok (.iadd, 1) := by decide +kernel
theorem dX11_statement_7 : decode cX11_statement 7 = .ok (.putfield 213, 3) := by decide +kernel
theorem dX11_statement_10 : decode cX11_statement 10 = .ok (.aload_n 0, 1) := by decide +kernel
theorem dX11_statement_11 : decode cX11_statement 11 = .ok (.aload_n 0, 1) := by decide +kernel
theorem dX11_statement_12 : decode cX11_statement 12 = .ok (.getfield 213, 3) := by decide +kernel
theorem dX11_statement_15 : decode cX11_statement 15 = .ok (.bipush 12, 2) := by decide +kernel
theorem dX11_statement_17 : decode cX11_statement 17 = .ok (.if_icmp .gt 11, 3) := by decide +kernel
theorem dX11_statement_20 : decode cX11_statement 20 = .ok (.aload_n 0, 1) := by decide +kernel
theorem dX11_statement_21 : decode cX11_statement 21 = .ok (.getfield 151, 3) := by decide +kernel
theorem dX11_statement_24 : decode cX11_statement 24 = .ok (.iconst 1, 1) := by decide +kernel
theorem dX11_statement_25 : decode cX11_statement 25 = .ok (.if_icmp .eq 7, 3) := by decide +kernel
theorem dX11_statement_28 : decode cX11_statement 28 = .ok (.iconst 1, 1) := by decide +kernel
theorem dX11_statement_29 : decode cX11_statement 29 = .ok (.goto 4, 3) := by decide +kernel
theorem dX11_statement_32 : decode cX11_statement 32 = .ok (.iconst 0, 1) := by decide +kernel
theorem dX11_statement_33 : decode cX11_statement 33 = .ok (.putfield 166, 3) := by decide +kernel
theorem dX11_statement_36 : decode cX11_statement 36 = .ok (.aload_n 0, 1) := by decide +kernel
theorem dX11_statement_37 : decode cX11_statement 37 = .ok (.getfield 160, 3) := by decide +kernel
theorem dX11_statement_40 : decode cX11_statement 40 = .ok (.istore_n 1, 1) := by decide +kernel
theorem dX11_statement_41 : decode cX11_statement 41 = .ok (.iload_n 1, 1) := by decide +kernel
theorem dX11_statement_42 : decode cX11_statement 42 = .ok (.invokestatic 192, 3) := by decide +kernel
theorem dX11_statement_45 : decode cX11_statement 45 = .ok (.istore_n 2, 1) := by decide +kernel
theorem dX11_statement_46 : decode cX11_statement 46 = .ok (.aload_n 0, 1) := by decide +kernel
theorem dX11_statement_47 : decode cX11_statement 47 = .ok (.getfield 166, 3) := by decide +kernel
theorem dX11_statement_50 : decode cX11_statement 50 = .ok (.ifCond .eq 4, 3) := by decide +kernel
theorem dX11_statement_53 : decode cX11_statement 53 = .ok (.return_, 1) := by decide +kernel
theorem dX11_statement_54 : decode cX11_statement 54 = .ok (.iload_n 1, 1) := by decide +kernel
theorem dX11_statement_55 : decode cX11_statement 55 = .ok (.ldc 216, 2) := by decide +kernel
theorem dX11_statement_57 : decode cX11_statement 57 = .ok (.if_icmp .eq 9, 3) := by decide +kernel
theorem dX11_statement_60 : decode cX11_statement 60 = .ok (.iload_n 1, 1) := by decide +kernel
theorem dX11_statement_61 : decode cX11_statement 61 = .ok (.ldc 217, 2) := by decide +kernel
theorem dX11_statement_63 : decode cX11_statement 63 = .ok (.if_icmp .ne 62, 3) := by decide +kernel
theorem dX11_statement_66 : decode cX11_statement 66 = .ok (.aload_n 0, 1) := by decide +kernel
theorem dX11_statement_67 : decode cX11_statement 67 = .ok (.invokevirtual 170, 3) := by decide +kernel
theorem dX11_statement_70 : decode cX11_statement 70 = .ok (.aload_n 0, 1) := by decide +kernel
theorem dX11_statement_71 : decode cX11_statement 71 = .ok (.iconst 0, 1) := by decide +kernel
theorem dX11_statement_72 : decode cX11_statement 72 = .ok (.invokevirtual 218, 3) := by decide +kernel
theorem dX11_statement_75 : decode cX11_statement 75 = .ok (.aload_n 0, 1) := by decide +kernel
theorem dX11_statement_76 : decode cX11_statement 76 = .ok (.iload_n 1, 1) := by decide +kernel
theorem dX11_statement_77 : decode cX11_statement 77 = .ok (.ldc 216, 2) := by decide +kernel
theorem dX11_statement_79 : decode cX11_statement 79 = .ok (.if_icmp .ne 8, 3) := by decide +kernel
theorem dX11_statement_82 : decode cX11_statement 82 = .ok (.bipush 20, 2) := by decide +kernel
theorem dX11_statement_84 : decode cX11_statement 84 = .ok (.goto 5, 3) := by decide +kernel
theorem dX11_statement_87 : decode cX11_statement 87 = .ok (.bipush 22, 2) := by decide +kernel
theorem dX11_statement_89 : decode cX11_statement 89 = .ok (.aload_n 0, 1) := by decide +kernel
theorem dX11_statement_90 : decode cX11_statement 90 = .ok (.getfield 222, 3) := by decide +kernel
theorem dX11_statement_93 : decode cX11_statement 93 = .ok (.invokevirtual 188, 3) := by decide +kernel
theorem dX11_statement_96 : decode cX11_statement 96 = .ok (.aload_n 0, 1) := by decide +kernel
theorem dX11_statement_97 : decode cX11_statement 97 = .ok (.dup, 1) := by decide +kernel
theorem dX11_statement_98 : decode cX11_statement 98 = .ok (.getfield 222, 3) := by decide +kernel
theorem dX11_statement_101 : decode cX11_statement 101 = .ok (.iload_n 1, 1) := by decide +kernel
theorem dX11_statement_102 : decode cX11_statement 102 = .ok (.ldc 216, 2) := by decide +kernel
theorem dX11_statement_104 : decode cX11_statement 104 = .ok (.if_icmp .ne 7, 3) := by decide +kernel
theorem dX11_statement_107 : decode cX11_statement 107 = .ok (.iconst 1, 1) := by decide +kernel
theorem dX11_statement_108 : decode cX11_statement 108 = .ok (.goto 4, 3) := by decide +kernel
theorem dX11_statement_111 : decode cX11_statement 111 = .ok (.iconst 0, 1) := by decide +kernel
theorem dX11_statement_112 : decode cX11_statement 112 = .ok (.iadd, 1) := by decide +kernel
theorem dX11_statement_113 : decode cX11_statement 113 = .ok (.putfield 222, 3) := by decide +kernel
theorem dX11_statement_116 : decode cX11_statement 116 = .ok (.aload_n 0, 1) := by decide +kernel
theorem dX11_statement_117 : decode cX11_statement 117 = .ok (.bipush 59, 2) := by decide +kernel
theorem dX11_statement_119 : decode cX11_statement 119 = .ok (.invokevirtual 225, 3) := by decide +kernel
theorem dX11_statement_122 : decode cX11_statement 122 = .ok (.goto 146, 3) := by decide +kernel
theorem dX11_statement_125 : decode cX11_statement 125 = .ok (.iload_n 1, 1) := by decide +kernel
theorem dX11_statement_126 : decode cX11_statement 126 = .ok (.sipush 26982, 3) := by decide +kernel
theorem dX11_statement_129 : decode cX11_statement 129 = .ok (.if_icmp .ne 91, 3) := by decide +kernel
theorem dX11_statement_132 : decode cX11_statement 132 = .ok (.aload_n 0, 1) := by decide +kernel
theorem dX11_statement_133 : decode cX11_statement 133 = .ok (.aload_n 0, 1) := by decide +kernel
theorem dX11_statement_134 : decode cX11_statement 134 = .ok (.getfield 228, 3) := by decide +kernel
theorem dX11_statement_137 : decode cX11_statement 137 = .ok (.iconst 4, 1) := by decide +kernel
theorem dX11_statement_138 : decode cX11_statement 138 = .ok (.if_icmp .ne 7, 3) := by decide +kernel
theorem dX11_statement_141 : decode cX11_statement 141 = .ok (.iconst 1, 1) := by decide +kernel
theorem dX11_statement_142 : decode cX11_statement 142 = .ok (.goto 4, 3) := by decide +kernel
theorem dX11_statement_145 : decode cX11_statement 145 = .ok (.iconst 0, 1) := by decide +kernel
theorem dX11_statement_146 : decode cX11_statement 146 = .ok (.putfield 166, 3) := by decide +kernel
theorem dX11_statement_149 : decode cX11_statement 149 = .ok (.aload_n 0, 1) := by decide +kernel
theorem dX11_statement_150 : decode cX11_statement 150 = .ok (.getfield 166, 3) := by decide +kernel
theorem dX11_statement_153 : decode cX11_statement 153 = .ok (.ifCond .ne 115, 3) := by decide +kernel
theorem dX11_statement_156 : decode cX11_statement 156 = .ok (.aload_n 0, 1) := by decide +kernel
theorem dX11_statement_157 : decode cX11_statement 157 = .ok (.invokevirtual 170, 3) := by decide +kernel
theorem dX11_statement_160 : decode cX11_statement 160 = .ok (.aload_n 0, 1) := by decide +kernel
theorem dX11_statement_161 : decode cX11_statement 161 = .ok (.iconst 0, 1) := by decide +kernel
theorem dX11_statement_162 : decode cX11_statement 162 = .ok (.invokevirtual 218, 3) := by decide +kernel
theorem dX11_statement_165 : decode cX11_statement 165 = .ok (.aload_n 0, 1) := by decide +kernel
theorem dX11_statement_166 : decode cX11_statement 166 = .ok (.getfield 35, 3) := by decide +kernel
theorem dX11_statement_169 : decode cX11_statement 169 = .ok (.aload_n 0, 1) := by decide +kernel
theorem dX11_statement_170 : decode cX11_statement 170 = .ok (.getfield 228, 3) := by decide +kernel
theorem dX11_statement_173 : decode cX11_statement 173 = .ok (.aload_n 0, 1) := by decide +kernel
theorem dX11_statement_174 : decode cX11_statement 174 = .ok (.getfield 22, 3) := by decide +kernel
theorem dX11_statement_177 : decode cX11_statement 177 = .ok (.bipush 14, 2) := by decide +kernel
theorem dX11_statement_179 : decode cX11_statement 179 = .ok (.iaload, 1) := by decide +kernel
theorem dX11_statement_180 : decode cX11_statement 180 = .ok (.iastore, 1) := by decide +kernel
theorem dX11_statement_181 : decode cX11_statement 181 = .ok (.aload_n 0, 1) := by decide +kernel
theorem dX11_statement_182 : decode cX11_statement 182 = .ok (.dup, 1) := by decide +kernel
theorem dX11_statement_183 : decode cX11_statement 183 = .ok (.getfield 228, 3) := by decide +kernel
theorem dX11_statement_186 : decode cX11_statement 186 = .ok (.iconst 1, 1) := by decide +kernel
theorem dX11_statement_187 : decode cX11_statement 187 = .ok (.iadd, 1) := by decide +kernel
theorem dX11_statement_188 : decode cX11_statement 188 = .ok (.putfield 228, 3) := by decide +kernel
theorem dX11_statement_191 : decode cX11_statement 191 = .ok (.aload_n 0, 1) := by decide +kernel
theorem dX11_statement_192 : decode cX11_statement 192 = .ok (.bipush 23, 2) := by decide +kernel
theorem dX11_statement_194 : decode cX11_statement 194 = .ok (.aload_n 0, 1) := by decide +kernel
theorem dX11_statement_195 : decode cX11_statement 195 = .ok (.getfield 222, 3) := by decide +kernel
theorem dX11_statement_198 : decode cX11_statement 198 = .ok (.invokevirtual 188, 3) := by decide +kernel
theorem dX11_statement_201 : decode cX11_statement 201 = .ok (.aload_n 0, 1) := by decide +kernel
theorem dX11_statement_202 : decode cX11_statement 202 = .ok (.dup, 1) := by decide +kernel
theorem dX11_statement_203 : decode cX11_statement 203 = .ok (.getfield 222, 3) := by decide +kernel
theorem dX11_statement_206 : decode cX11_statement 206 = .ok (.iconst 1, 1) := by decide +kernel
theorem dX11_statement_207 : decode cX11_statement 207 = .ok (.iadd, 1) := by decide +kernel
theorem dX11_statement_208 : decode cX11_statement 208 = .ok (.putfield 222, 3) := by decide +kernel
theorem dX11_statement_211 : decode cX11_statement 211 = .ok (.aload_n 0, 1) := by decide +kernel
theorem dX11_statement_212 : decode cX11_statement 212 = .ok (.bipush 123, 2) := by decide +kernel
theorem dX11_statement_214 : decode cX11_statement 214 = .ok (.invokevirtual 225, 3) := by decide +kernel
theorem dX11_statement_217 : decode cX11_statement 217 = .ok (.goto 51, 3) := by decide +kernel
theorem dX11_statement_220 : decode cX11_statement 220 = .ok (.aload_n 0, 1) := by decide +kernel
theorem dX11_statement_221 : decode cX11_statement 221 = .ok (.iload_n 2, 1) := by decide +kernel
theorem dX11_statement_222 : decode cX11_statement 222 = .ok (.ifCond .ge 7, 3) := by decide +kernel
theorem dX11_statement_225 : decode cX11_statement 225 = .ok (.iconst 1, 1) := by decide +kernel
theorem dX11_statement_226 : decode cX11_statement 226 = .ok (.goto 4, 3) := by decide +kernel
theorem dX11_statement_229 : decode cX11_statement 229 = .ok (.iconst 0, 1) := by decide +kernel
theorem dX11_statement_230 : decode cX11_statement 230 = .ok (.putfield 166, 3) := by decide +kernel
theorem dX11_statement_233 : decode cX11_statement 233 = .ok (.aload_n 0, 1) := by decide +kernel
theorem dX11_statement_234 : decode cX11_statement 234 = .ok (.getfield 166, 3) := by decide +kernel
theorem dX11_statement_237 : decode cX11_statement 237 = .ok (.ifCond .ne 31, 3) := by decide +kernel
theorem dX11_statement_240 : decode cX11_statement 240 = .ok (.aload_n 0, 1) := by decide +kernel
theorem dX11_statement_241 : decode cX11_statement 241 = .ok (.invokevirtual 170, 3) := by decide +kernel
theorem dX11_statement_244 : decode cX11_statement 244 = .ok (.aload_n 0, 1) := by decide +kernel
theorem dX11_statement_245 : decode cX11_statement 245 = .ok (.bipush 61, 2) := by decide +kernel
theorem dX11_statement_247 : decode cX11_statement 247 = .ok (.invokevirtual 225, 3) := by decide +kernel
theorem dX11_statement_250 : decode cX11_statement 250 = .ok (.aload_n 0, 1) := by decide +kernel
theorem dX11_statement_251 : decode cX11_statement 251 = .ok (.iconst 0, 1) := by decide +kernel
theorem dX11_statement_252 : decode cX11_statement 252 = .ok (.invokevirtual 218, 3) := by decide +kernel
theorem dX11_statement_255 : decode cX11_statement 255 = .ok (.aload_n 0, 1) := by decide +kernel
theorem dX11_statement_256 : decode cX11_statement 256 = .ok (.bipush 21, 2) := by decide +kernel
theorem dX11_statement_258 : decode cX11_statement 258 = .ok (.iload_n 2, 1) := by decide +kernel
theorem dX11_statement_259 : decode cX11_statement 259 = .ok (.invokevirtual 188, 3) := by decide +kernel
theorem dX11_statement_262 : decode cX11_statement 262 = .ok (.aload_n 0, 1) := by decide +kernel
theorem dX11_statement_263 : decode cX11_statement 263 = .ok (.bipush 59, 2) := by decide +kernel
theorem dX11_statement_265 : decode cX11_statement 265 = .ok (.invokevirtual 225, 3) := by decide +kernel
theorem dX11_statement_268 : decode cX11_statement 268 = .ok (.return_, 1) := by decide +kernel
theorem dX11_begin_0 : decode cX11_begin 0 = .ok (.aload_n 0, 1) := by decide +kernel
theorem dX11_begin_1 : decode cX11_begin 1 = .ok (.iconst 0, 1) := by decide +kernel
theorem dX11_begin_2 : decode cX11_begin 2 = .ok (.putfield 141, 3) := by decide +kernel
theorem dX11_begin_5 : decode cX11_begin 5 = .ok (.aload_n 0, 1) := by decide +kernel
theorem dX11_begin_6 : decode cX11_begin 6 = .ok (.getfield 22, 3) := by decide +kernel
theorem dX11_begin_9 : decode cX11_begin 9 = .ok (.bipush 14, 2) := by decide +kernel
theorem dX11_begin_11 : decode cX11_begin 11 = .ok (.iconst 0, 1) := by decide +kernel
theorem dX11_begin_12 : decode cX11_begin 12 = .ok (.iastore, 1) := by decide +kernel
theorem dX11_begin_13 : decode cX11_begin 13 = .ok (.aload_n 0, 1) := by decide +kernel
theorem dX11_begin_14 : decode cX11_begin 14 = .ok (.iconst 0, 1) := by decide +kernel
theorem dX11_begin_15 : decode cX11_begin 15 = .ok (.putfield 166, 3) := by decide +kernel
theorem dX11_begin_18 : decode cX11_begin 18 = .ok (.aload_n 0, 1) := by decide +kernel
theorem dX11_begin_19 : decode cX11_begin 19 = .ok (.invokevirtual 170, 3) := by decide +kernel
theorem dX11_begin_22 : decode cX11_begin 22 = .ok (.return_, 1) := by decide +kernel
theorem dX11_end_0 : decode cX11_end 0 = .ok (.aload_n 0, 1) := by decide +kernel
theorem dX11_end_1 : decode cX11_end 1 = .ok (.getfield 166, 3) := by decide +kernel
theorem dX11_end_4 : decode cX11_end 4 = .ok (.ifCond .eq 13, 3) := by decide +kernel
theorem dX11_end_7 : decode cX11_end 7 = .ok (.bipush (-10), 2) := by decide +kernel
theorem dX11_end_9 : decode cX11_end 9 = .ok (.aload_n 0, 1) := by decide +kernel
theorem dX11_end_10 : decode cX11_end 10 = .ok (.getfield 148, 3) := by decide +kernel
theorem dX11_end_13 : decode cX11_end 13 = .ok (.isub, 1) := by decide +kernel
theorem dX11_end_14 : decode cX11_end 14 = .ok (.goto 4, 3) := by decide +kernel
theorem dX11_end_17 : decode cX11_end 17 = .ok (.iconst 0, 1) := by decide +kernel
theorem dX11_end_18 : decode cX11_end 18 = .ok (.istore_n 1, 1) := by decide +kernel
theorem dX11_end_19 : decode cX11_end 19 = .ok (.aload_n 0, 1) := by decide +kernel
theorem dX11_end_20 : decode cX11_end 20 = .ok (.iconst 0, 1) := by decide +kernel
theorem dX11_end_21 : decode cX11_end 21 = .ok (.putfield 125, 3) := by decide +kernel
theorem dX11_end_24 : decode cX11_end 24 = .ok (.iload_n 1, 1) := by decide +kernel
theorem dX11_end_25 : decode cX11_end 25 = .ok (.ireturn, 1) := by decide +kernel
theorem dX11_keep_0 : decode cX11_keep 0 = .ok (.iconst 0, 1) := by decide +kernel
theorem dX11_keep_1 : decode cX11_keep 1 = .ok (.istore_n 2, 1) := by decide +kernel
theorem dX11_keep_2 : decode cX11_keep 2 = .ok (.iload_n 2, 1) := by decide +kernel
theorem dX11_keep_3 : decode cX11_keep 3 = .ok (.aload_n 0, 1) := by decide +kernel
theorem dX11_keep_4 : decode cX11_keep 4 = .ok (.getfield 22, 3) := by decide +kernel
theorem dX11_keep_7 : decode cX11_keep 7 = .ok (.bipush 14, 2) := by decide +kernel
theorem dX11_keep_9 : decode cX11_keep 9 = .ok (.iaload, 1) := by decide +kernel
theorem dX11_keep_10 : decode cX11_keep 10 = .ok (.if_icmp .ge 75, 3) := by decide +kernel
theorem dX11_keep_13 : decode cX11_keep 13 = .ok (.aload_n 0, 1) := by decide +kernel
theorem dX11_keep_14 : decode cX11_keep 14 = .ok (.getfield 13, 3) := by decide +kernel
theorem dX11_keep_17 : decode cX11_keep 17 = .ok (.sipush 300, 3) := by decide +kernel
theorem dX11_keep_20 : decode cX11_keep 20 = .ok (.iload_n 1, 1) := by decide +kernel
theorem dX11_keep_21 : decode cX11_keep 21 = .ok (.imul, 1) := by decide +kernel
theorem dX11_keep_22 : decode cX11_keep 22 = .ok (.iload_n 2, 1) := by decide +kernel
theorem dX11_keep_23 : decode cX11_keep 23 = .ok (.iadd, 1) := by decide +kernel
theorem dX11_keep_24 : decode cX11_keep 24 = .ok (.aload_n 0, 1) := by decide +kernel
theorem dX11_keep_25 : decode cX11_keep 25 = .ok (.getfield 13, 3) := by decide +kernel
theorem dX11_keep_28 : decode cX11_keep 28 = .ok (.sipush 4200, 3) := by decide +kernel
theorem dX11_keep_31 : decode cX11_keep 31 = .ok (.iload_n 2, 1) := by decide +kernel
theorem dX11_keep_32 : decode cX11_keep 32 = .ok (.iadd, 1) := by decide +kernel
theorem dX11_keep_33 : decode cX11_keep 33 = .ok (.iaload, 1) := by decide +kernel
theorem dX11_keep_34 : decode cX11_keep 34 = .ok (.iastore, 1) := by decide +kernel
theorem dX11_keep_35 : decode cX11_keep 35 = .ok (.aload_n 0, 1) := by decide +kernel
theorem dX11_keep_36 : decode cX11_keep 36 = .ok (.getfield 16, 3) := by decide +kernel
theorem dX11_keep_39 : decode cX11_keep 39 = .ok (.sipush 300, 3) := by decide +kernel
theorem dX11_keep_42 : decode cX11_keep 42 = .ok (.iload_n 1, 1) := by decide +kernel
theorem dX11_keep_43 : decode cX11_keep 43 = .ok (.imul, 1) := by decide +kernel
