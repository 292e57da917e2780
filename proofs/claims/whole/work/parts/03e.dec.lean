theorem dX9_startsReading_6 : decode cX9_startsReading 6 = .ok (.iconst 0, 1) := by decide +kernel
theorem dX9_startsReading_7 : decode cX9_startsReading 7 = .ok (.putfield 139, 3) := by decide +kernel
theorem dX9_startsReading_10 : decode cX9_startsReading 10 = .ok (.aload_n 0, 1) := by decide +kernel
theorem dX9_startsReading_11 : decode cX9_startsReading 11 = .ok (.iconst 0, 1) := by decide +kernel
theorem dX9_startsReading_12 : decode cX9_startsReading 12 = .ok (.putfield 150, 3) := by decide +kernel
theorem dX9_startsReading_15 : decode cX9_startsReading 15 = .ok (.aload_n 0, 1) := by decide +kernel
theorem dX9_startsReading_16 : decode cX9_startsReading 16 = .ok (.iconst 0, 1) := by decide +kernel
theorem dX9_startsReading_17 : decode cX9_startsReading 17 = .ok (.putfield 147, 3) := by decide +kernel
theorem dX9_startsReading_20 : decode cX9_startsReading 20 = .ok (.aload_n 0, 1) := by decide +kernel
theorem dX9_startsReading_21 : decode cX9_startsReading 21 = .ok (.iconst 0, 1) := by decide +kernel
theorem dX9_startsReading_22 : decode cX9_startsReading 22 = .ok (.putfield 168, 3) := by decide +kernel
theorem dX9_startsReading_25 : decode cX9_startsReading 25 = .ok (.iconst 0, 1) := by decide +kernel
theorem dX9_startsReading_26 : decode cX9_startsReading 26 = .ok (.istore_n 1, 1) := by decide +kernel
theorem dX9_startsReading_27 : decode cX9_startsReading 27 = .ok (.iload_n 1, 1) := by decide +kernel
theorem dX9_startsReading_28 : decode cX9_startsReading 28 = .ok (.bipush 112, 2) := by decide +kernel
theorem dX9_startsReading_30 : decode cX9_startsReading 30 = .ok (.if_icmp .ge 16, 3) := by decide +kernel
theorem dX9_startsReading_33 : decode cX9_startsReading 33 = .ok (.aload_n 0, 1) := by decide +kernel
theorem dX9_startsReading_34 : decode cX9_startsReading 34 = .ok (.getfield 95, 3) := by decide +kernel
theorem dX9_startsReading_37 : decode cX9_startsReading 37 = .ok (.iload_n 1, 1) := by decide +kernel
theorem dX9_startsReading_38 : decode cX9_startsReading 38 = .ok (.iconst 0, 1) := by decide +kernel
theorem dX9_startsReading_39 : decode cX9_startsReading 39 = .ok (.iastore, 1) := by decide +kernel
theorem dX9_startsReading_40 : decode cX9_startsReading 40 = .ok (.iinc 1 1, 3) := by decide +kernel
theorem dX9_startsReading_43 : decode cX9_startsReading 43 = .ok (.goto (-16), 3) := by decide +kernel
theorem dX9_startsReading_46 : decode cX9_startsReading 46 = .ok (.return_, 1) := by decide +kernel
theorem dX9_program_0 : decode cX9_program 0 = .ok (.aload_n 0, 1) := by decide +kernel
theorem dX9_program_1 : decode cX9_program 1 = .ok (.invokevirtual 203, 3) := by decide +kernel
theorem dX9_program_4 : decode cX9_program 4 = .ok (.aload_n 0, 1) := by decide +kernel
theorem dX9_program_5 : decode cX9_program 5 = .ok (.getfield 139, 3) := by decide +kernel
theorem dX9_program_8 : decode cX9_program 8 = .ok (.ifCond .ne 17, 3) := by decide +kernel
theorem dX9_program_11 : decode cX9_program 11 = .ok (.aload_n 0, 1) := by decide +kernel
theorem dX9_program_12 : decode cX9_program 12 = .ok (.invokevirtual 143, 3) := by decide +kernel
theorem dX9_program_15 : decode cX9_program 15 = .ok (.ifCond .lt 10, 3) := by decide +kernel
theorem dX9_program_18 : decode cX9_program 18 = .ok (.aload_n 0, 1) := by decide +kernel
theorem dX9_program_19 : decode cX9_program 19 = .ok (.invokevirtual 206, 3) := by decide +kernel
theorem dX9_program_22 : decode cX9_program 22 = .ok (.goto (-18), 3) := by decide +kernel
theorem dX9_program_25 : decode cX9_program 25 = .ok (.aload_n 0, 1) := by decide +kernel
theorem dX9_program_26 : decode cX9_program 26 = .ok (.getfield 139, 3) := by decide +kernel
theorem dX9_program_29 : decode cX9_program 29 = .ok (.ifCond .ne 37, 3) := by decide +kernel
theorem dX9_program_32 : decode cX9_program 32 = .ok (.aload_n 0, 1) := by decide +kernel
theorem dX9_program_33 : decode cX9_program 33 = .ok (.getfield 168, 3) := by decide +kernel
theorem dX9_program_36 : decode cX9_program 36 = .ok (.ifCond .ne 17, 3) := by decide +kernel
theorem dX9_program_39 : decode cX9_program 39 = .ok (.aload_n 0, 1) := by decide +kernel
theorem dX9_program_40 : decode cX9_program 40 = .ok (.getfield 147, 3) := by decide +kernel
theorem dX9_program_43 : decode cX9_program 43 = .ok (.ifCond .eq 10, 3) := by decide +kernel
theorem dX9_program_46 : decode cX9_program 46 = .ok (.aload_n 0, 1) := by decide +kernel
theorem dX9_program_47 : decode cX9_program 47 = .ok (.invokevirtual 209, 3) := by decide +kernel
theorem dX9_program_50 : decode cX9_program 50 = .ok (.ifCond .ne 16, 3) := by decide +kernel
theorem dX9_program_53 : decode cX9_program 53 = .ok (.aload_n 0, 1) := by decide +kernel
theorem dX9_program_54 : decode cX9_program 54 = .ok (.iconst 1, 1) := by decide +kernel
theorem dX9_program_55 : decode cX9_program 55 = .ok (.putfield 139, 3) := by decide +kernel
theorem dX9_program_58 : decode cX9_program 58 = .ok (.aload_n 0, 1) := by decide +kernel
theorem dX9_program_59 : decode cX9_program 59 = .ok (.aload_n 0, 1) := by decide +kernel
theorem dX9_program_60 : decode cX9_program 60 = .ok (.getfield 133, 3) := by decide +kernel
theorem dX9_program_63 : decode cX9_program 63 = .ok (.putfield 136, 3) := by decide +kernel
theorem dX9_program_66 : decode cX9_program 66 = .ok (.aload_n 0, 1) := by decide +kernel
theorem dX9_program_67 : decode cX9_program 67 = .ok (.getfield 139, 3) := by decide +kernel
theorem dX9_program_70 : decode cX9_program 70 = .ok (.ifCond .eq 11, 3) := by decide +kernel
theorem dX9_program_73 : decode cX9_program 73 = .ok (.bipush (-10), 2) := by decide +kernel
theorem dX9_program_75 : decode cX9_program 75 = .ok (.aload_n 0, 1) := by decide +kernel
theorem dX9_program_76 : decode cX9_program 76 = .ok (.getfield 136, 3) := by decide +kernel
theorem dX9_program_79 : decode cX9_program 79 = .ok (.isub, 1) := by decide +kernel
theorem dX9_program_80 : decode cX9_program 80 = .ok (.ireturn, 1) := by decide +kernel
theorem dX9_program_81 : decode cX9_program 81 = .ok (.aload_n 0, 1) := by decide +kernel
theorem dX9_program_82 : decode cX9_program 82 = .ok (.getfield 86, 3) := by decide +kernel
theorem dX9_program_85 : decode cX9_program 85 = .ok (.aload_n 0, 1) := by decide +kernel
theorem dX9_program_86 : decode cX9_program 86 = .ok (.getfield 147, 3) := by decide +kernel
theorem dX9_program_89 : decode cX9_program 89 = .ok (.aload_n 0, 1) := by decide +kernel
theorem dX9_program_90 : decode cX9_program 90 = .ok (.getfield 150, 3) := by decide +kernel
theorem dX9_program_93 : decode cX9_program 93 = .ok (.iastore, 1) := by decide +kernel
theorem dX9_program_94 : decode cX9_program 94 = .ok (.aload_n 0, 1) := by decide +kernel
theorem dX9_program_95 : decode cX9_program 95 = .ok (.iconst 0, 1) := by decide +kernel
theorem dX9_program_96 : decode cX9_program 96 = .ok (.putfield 133, 3) := by decide +kernel
theorem dX9_program_99 : decode cX9_program 99 = .ok (.aload_n 0, 1) := by decide +kernel
theorem dX9_program_100 : decode cX9_program 100 = .ok (.aload_n 0, 1) := by decide +kernel
theorem dX9_program_101 : decode cX9_program 101 = .ok (.getfield 150, 3) := by decide +kernel
theorem dX9_program_104 : decode cX9_program 104 = .ok (.putfield 122, 3) := by decide +kernel
theorem dX9_program_107 : decode cX9_program 107 = .ok (.aload_n 0, 1) := by decide +kernel
theorem dX9_program_108 : decode cX9_program 108 = .ok (.aload_n 0, 1) := by decide +kernel
theorem dX9_program_109 : decode cX9_program 109 = .ok (.getfield 147, 3) := by decide +kernel
theorem dX9_program_112 : decode cX9_program 112 = .ok (.putfield 130, 3) := by decide +kernel
theorem dX9_program_115 : decode cX9_program 115 = .ok (.aload_n 0, 1) := by decide +kernel
theorem dX9_program_116 : decode cX9_program 116 = .ok (.getfield 62, 3) := by decide +kernel
theorem dX9_program_119 : decode cX9_program 119 = .ok (.iconst 0, 1) := by decide +kernel
theorem dX9_program_120 : decode cX9_program 120 = .ok (.aload_n 0, 1) := by decide +kernel
theorem dX9_program_121 : decode cX9_program 121 = .ok (.getfield 13, 3) := by decide +kernel
theorem dX9_program_124 : decode cX9_program 124 = .ok (.iconst 0, 1) := by decide +kernel
theorem dX9_program_125 : decode cX9_program 125 = .ok (.bipush 24, 2) := by decide +kernel
theorem dX9_program_127 : decode cX9_program 127 = .ok (.invokestatic 212, 3) := by decide +kernel
theorem dX9_program_130 : decode cX9_program 130 = .ok (.aload_n 0, 1) := by decide +kernel
theorem dX9_program_131 : decode cX9_program 131 = .ok (.getfield 65, 3) := by decide +kernel
theorem dX9_program_134 : decode cX9_program 134 = .ok (.iconst 0, 1) := by decide +kernel
theorem dX9_program_135 : decode cX9_program 135 = .ok (.aload_n 0, 1) := by decide +kernel
theorem dX9_program_136 : decode cX9_program 136 = .ok (.getfield 16, 3) := by decide +kernel
theorem dX9_program_139 : decode cX9_program 139 = .ok (.iconst 0, 1) := by decide +kernel
theorem dX9_program_140 : decode cX9_program 140 = .ok (.bipush 24, 2) := by decide +kernel
theorem dX9_program_142 : decode cX9_program 142 = .ok (.invokestatic 212, 3) := by decide +kernel
theorem dX9_program_145 : decode cX9_program 145 = .ok (.aload_n 0, 1) := by decide +kernel
theorem dX9_program_146 : decode cX9_program 146 = .ok (.getfield 68, 3) := by decide +kernel
theorem dX9_program_149 : decode cX9_program 149 = .ok (.iconst 0, 1) := by decide +kernel
theorem dX9_program_150 : decode cX9_program 150 = .ok (.aload_n 0, 1) := by decide +kernel
theorem dX9_program_151 : decode cX9_program 151 = .ok (.getfield 19, 3) := by decide +kernel
theorem dX9_program_154 : decode cX9_program 154 = .ok (.iconst 0, 1) := by decide +kernel
theorem dX9_program_155 : decode cX9_program 155 = .ok (.bipush 24, 2) := by decide +kernel
theorem dX9_program_157 : decode cX9_program 157 = .ok (.invokestatic 212, 3) := by decide +kernel
theorem dX9_program_160 : decode cX9_program 160 = .ok (.aload_n 0, 1) := by decide +kernel
theorem dX9_program_161 : decode cX9_program 161 = .ok (.getfield 71, 3) := by decide +kernel
theorem dX9_program_164 : decode cX9_program 164 = .ok (.iconst 0, 1) := by decide +kernel
theorem dX9_program_165 : decode cX9_program 165 = .ok (.aload_n 0, 1) := by decide +kernel
theorem dX9_program_166 : decode cX9_program 166 = .ok (.getfield 22, 3) := by decide +kernel
theorem dX9_program_169 : decode cX9_program 169 = .ok (.iconst 0, 1) := by decide +kernel
theorem dX9_program_170 : decode cX9_program 170 = .ok (.bipush 24, 2) := by decide +kernel
theorem dX9_program_172 : decode cX9_program 172 = .ok (.invokestatic 212, 3) := by decide +kernel
theorem dX9_program_175 : decode cX9_program 175 = .ok (.aload_n 0, 1) := by decide +kernel
theorem dX9_program_176 : decode cX9_program 176 = .ok (.getfield 74, 3) := by decide +kernel
theorem dX9_program_179 : decode cX9_program 179 = .ok (.iconst 0, 1) := by decide +kernel
theorem dX9_program_180 : decode cX9_program 180 = .ok (.aload_n 0, 1) := by decide +kernel
theorem dX9_program_181 : decode cX9_program 181 = .ok (.getfield 25, 3) := by decide +kernel
theorem dX9_program_184 : decode cX9_program 184 = .ok (.iconst 0, 1) := by decide +kernel
theorem dX9_program_185 : decode cX9_program 185 = .ok (.bipush 24, 2) := by decide +kernel
theorem dX9_program_187 : decode cX9_program 187 = .ok (.invokestatic 212, 3) := by decide +kernel
theorem dX9_program_190 : decode cX9_program 190 = .ok (.aload_n 0, 1) := by decide +kernel
theorem dX9_program_191 : decode cX9_program 191 = .ok (.getfield 77, 3) := by decide +kernel
theorem dX9_program_194 : decode cX9_program 194 = .ok (.iconst 0, 1) := by decide +kernel
theorem dX9_program_195 : decode cX9_program 195 = .ok (.aload_n 0, 1) := by decide +kernel
theorem dX9_program_196 : decode cX9_program 196 = .ok (.getfield 28, 3) := by decide +kernel
theorem dX9_program_199 : decode cX9_program 199 = .ok (.iconst 0, 1) := by decide +kernel
theorem dX9_program_200 : decode cX9_program 200 = .ok (.bipush 24, 2) := by decide +kernel
theorem dX9_program_202 : decode cX9_program 202 = .ok (.invokestatic 212, 3) := by decide +kernel
theorem dX9_program_205 : decode cX9_program 205 = .ok (.aload_n 0, 1) := by decide +kernel
theorem dX9_program_206 : decode cX9_program 206 = .ok (.getfield 80, 3) := by decide +kernel
theorem dX9_program_209 : decode cX9_program 209 = .ok (.iconst 0, 1) := by decide +kernel
theorem dX9_program_210 : decode cX9_program 210 = .ok (.aload_n 0, 1) := by decide +kernel
theorem dX9_program_211 : decode cX9_program 211 = .ok (.getfield 31, 3) := by decide +kernel
theorem dX9_program_214 : decode cX9_program 214 = .ok (.iconst 0, 1) := by decide +kernel
theorem dX9_program_215 : decode cX9_program 215 = .ok (.bipush 72, 2) := by decide +kernel
theorem dX9_program_217 : decode cX9_program 217 = .ok (.invokestatic 212, 3) := by decide +kernel
theorem dX9_program_220 : decode cX9_program 220 = .ok (.aload_n 0, 1) := by decide +kernel
theorem dX9_program_221 : decode cX9_program 221 = .ok (.getfield 83, 3) := by decide +kernel
theorem dX9_program_224 : decode cX9_program 224 = .ok (.iconst 0, 1) := by decide +kernel
theorem dX9_program_225 : decode cX9_program 225 = .ok (.aload_n 0, 1) := by decide +kernel
theorem dX9_program_226 : decode cX9_program 226 = .ok (.getfield 34, 3) := by decide +kernel
theorem dX9_program_229 : decode cX9_program 229 = .ok (.iconst 0, 1) := by decide +kernel
theorem dX9_program_230 : decode cX9_program 230 = .ok (.bipush 72, 2) := by decide +kernel
theorem dX9_program_232 : decode cX9_program 232 = .ok (.invokestatic 212, 3) := by decide +kernel
theorem dX9_program_235 : decode cX9_program 235 = .ok (.aload_n 0, 1) := by decide +kernel
theorem dX9_program_236 : decode cX9_program 236 = .ok (.getfield 86, 3) := by decide +kernel
theorem dX9_program_239 : decode cX9_program 239 = .ok (.iconst 0, 1) := by decide +kernel
theorem dX9_program_240 : decode cX9_program 240 = .ok (.aload_n 0, 1) := by decide +kernel
theorem dX9_program_241 : decode cX9_program 241 = .ok (.getfield 37, 3) := by decide +kernel
theorem dX9_program_244 : decode cX9_program 244 = .ok (.iconst 0, 1) := by decide +kernel
theorem dX9_program_245 : decode cX9_program 245 = .ok (.bipush 9, 2) := by decide +kernel
theorem dX9_program_247 : decode cX9_program 247 = .ok (.invokestatic 212, 3) := by decide +kernel
theorem dX9_program_250 : decode cX9_program 250 = .ok (.aload_n 0, 1) := by decide +kernel
theorem dX9_program_251 : decode cX9_program 251 = .ok (.getfield 89, 3) := by decide +kernel
theorem dX9_program_254 : decode cX9_program 254 = .ok (.iconst 0, 1) := by decide +kernel
theorem dX9_program_255 : decode cX9_program 255 = .ok (.aload_n 0, 1) := by decide +kernel
theorem dX9_program_256 : decode cX9_program 256 = .ok (.getfield 40, 3) := by decide +kernel
theorem dX9_program_259 : decode cX9_program 259 = .ok (.iconst 0, 1) := by decide +kernel
theorem dX9_program_260 : decode cX9_program 260 = .ok (.bipush 8, 2) := by decide +kernel
theorem dX9_program_262 : decode cX9_program 262 = .ok (.invokestatic 212, 3) := by decide +kernel
theorem dX9_program_265 : decode cX9_program 265 = .ok (.aload_n 0, 1) := by decide +kernel
theorem dX9_program_266 : decode cX9_program 266 = .ok (.getfield 92, 3) := by decide +kernel
theorem dX9_program_269 : decode cX9_program 269 = .ok (.iconst 0, 1) := by decide +kernel
theorem dX9_program_270 : decode cX9_program 270 = .ok (.aload_n 0, 1) := by decide +kernel
theorem dX9_program_271 : decode cX9_program 271 = .ok (.getfield 43, 3) := by decide +kernel
theorem dX9_program_274 : decode cX9_program 274 = .ok (.iconst 0, 1) := by decide +kernel
theorem dX9_program_275 : decode cX9_program 275 = .ok (.bipush 8, 2) := by decide +kernel
theorem dX9_program_277 : decode cX9_program 277 = .ok (.invokestatic 212, 3) := by decide +kernel
theorem dX9_program_280 : decode cX9_program 280 = .ok (.aload_n 0, 1) := by decide +kernel
theorem dX9_program_281 : decode cX9_program 281 = .ok (.getfield 98, 3) := by decide +kernel
theorem dX9_program_284 : decode cX9_program 284 = .ok (.iconst 0, 1) := by decide +kernel
theorem dX9_program_285 : decode cX9_program 285 = .ok (.aload_n 0, 1) := by decide +kernel
theorem dX9_program_286 : decode cX9_program 286 = .ok (.getfield 46, 3) := by decide +kernel
theorem dX9_program_289 : decode cX9_program 289 = .ok (.iconst 0, 1) := by decide +kernel
theorem dX9_program_290 : decode cX9_program 290 = .ok (.bipush 8, 2) := by decide +kernel
theorem dX9_program_292 : decode cX9_program 292 = .ok (.invokestatic 212, 3) := by decide +kernel
theorem dX9_program_295 : decode cX9_program 295 = .ok (.aload_n 0, 1) := by decide +kernel
theorem dX9_program_296 : decode cX9_program 296 = .ok (.getfield 95, 3) := by decide +kernel
theorem dX9_program_299 : decode cX9_program 299 = .ok (.iconst 0, 1) := by decide +kernel
theorem dX9_program_300 : decode cX9_program 300 = .ok (.aload_n 0, 1) := by decide +kernel
theorem dX9_program_301 : decode cX9_program 301 = .ok (.getfield 49, 3) := by decide +kernel
theorem dX9_program_304 : decode cX9_program 304 = .ok (.iconst 0, 1) := by decide +kernel
theorem dX9_program_305 : decode cX9_program 305 = .ok (.bipush 112, 2) := by decide +kernel
theorem dX9_program_307 : decode cX9_program 307 = .ok (.invokestatic 212, 3) := by decide +kernel
theorem dX9_program_310 : decode cX9_program 310 = .ok (.aload_n 0, 1) := by decide +kernel
theorem dX9_program_311 : decode cX9_program 311 = .ok (.iconst 0, 1) := by decide +kernel
theorem dX9_program_312 : decode cX9_program 312 = .ok (.putfield 216, 3) := by decide +kernel
theorem dX9_program_315 : decode cX9_program 315 = .ok (.aload_n 0, 1) := by decide +kernel
theorem dX9_program_316 : decode cX9_program 316 = .ok (.getfield 58, 3) := by decide +kernel
theorem dX9_program_319 : decode cX9_program 319 = .ok (.iconst 0, 1) := by decide +kernel
theorem dX9_program_320 : decode cX9_program 320 = .ok (.iconst 0, 1) := by decide +kernel
theorem dX9_program_321 : decode cX9_program 321 = .ok (.bastore, 1) := by decide +kernel
theorem dX9_program_322 : decode cX9_program 322 = .ok (.aload_n 0, 1) := by decide +kernel
theorem dX9_program_323 : decode cX9_program 323 = .ok (.getfield 58, 3) := by decide +kernel
theorem dX9_program_326 : decode cX9_program 326 = .ok (.iconst 1, 1) := by decide +kernel
theorem dX9_program_327 : decode cX9_program 327 = .ok (.iconst 0, 1) := by decide +kernel
theorem dX9_program_328 : decode cX9_program 328 = .ok (.bastore, 1) := by decide +kernel
theorem dX9_program_329 : decode cX9_program 329 = .ok (.aload_n 0, 1) := by decide +kernel
theorem dX9_program_330 : decode cX9_program 330 = .ok (.getfield 122, 3) := by decide +kernel
theorem dX9_program_333 : decode cX9_program 333 = .ok (.ireturn, 1) := by decide +kernel
theorem dX9_doneBy_0 : decode cX9_doneBy 0 = .ok (.aload_n 0, 1) := by decide +kernel
theorem dX9_doneBy_1 : decode cX9_doneBy 1 = .ok (.iload_n 1, 1) := by decide +kernel
theorem dX9_doneBy_2 : decode cX9_doneBy 2 = .ok (.bipush 47, 2) := by decide +kernel
theorem dX9_doneBy_4 : decode cX9_doneBy 4 = .ok (.if_icmp .eq 9, 3) := by decide +kernel
theorem dX9_doneBy_7 : decode cX9_doneBy 7 = .ok (.iload_n 1, 1) := by decide +kernel
theorem dX9_doneBy_8 : decode cX9_doneBy 8 = .ok (.bipush 37, 2) := by decide +kernel
theorem dX9_doneBy_10 : decode cX9_doneBy 10 = .ok (.if_icmp .ne 11, 3) := by decide +kernel
theorem dX9_doneBy_13 : decode cX9_doneBy 13 = .ok (.iload_n 3, 1) := by decide +kernel
theorem dX9_doneBy_14 : decode cX9_doneBy 14 = .ok (.ifCond .ne 7, 3) := by decide +kernel
theorem dX9_doneBy_17 : decode cX9_doneBy 17 = .ok (.iconst 1, 1) := by decide +kernel
theorem dX9_doneBy_18 : decode cX9_doneBy 18 = .ok (.goto 4, 3) := by decide +kernel
theorem dX9_doneBy_21 : decode cX9_doneBy 21 = .ok (.iconst 0, 1) := by decide +kernel
theorem dX9_doneBy_22 : decode cX9_doneBy 22 = .ok (.putfield 219, 3) := by decide +kernel
theorem dX9_doneBy_25 : decode cX9_doneBy 25 = .ok (.iload_n 1, 1) := by decide +kernel
theorem dX9_doneBy_26 : decode cX9_doneBy 26 = .ok (.lookupswitch 129 #[(37, 98), (38, 110), (42, 82), (43, 74), (45, 78), (47, 86), (60, 118), (94, 114)], 74) := by decide +kernel
theorem dX9_doneBy_100 : decode cX9_doneBy 100 = .ok (.iload_n 2, 1) := by decide +kernel
theorem dX9_doneBy_101 : decode cX9_doneBy 101 = .ok (.iload_n 3, 1) := by decide +kernel
theorem dX9_doneBy_102 : decode cX9_doneBy 102 = .ok (.iadd, 1) := by decide +kernel
theorem dX9_doneBy_103 : decode cX9_doneBy 103 = .ok (.ireturn, 1) := by decide +kernel
theorem dX9_doneBy_104 : decode cX9_doneBy 104 = .ok (.iload_n 2, 1) := by decide +kernel
theorem dX9_doneBy_105 : decode cX9_doneBy 105 = .ok (.iload_n 3, 1) := by decide +kernel
theorem dX9_doneBy_106 : decode cX9_doneBy 106 = .ok (.isub, 1) := by decide +kernel
theorem dX9_doneBy_107 : decode cX9_doneBy 107 = .ok (.ireturn, 1) := by decide +kernel
theorem dX9_doneBy_108 : decode cX9_doneBy 108 = .ok (.iload_n 2, 1) := by decide +kernel
theorem dX9_doneBy_109 : decode cX9_doneBy 109 = .ok (.iload_n 3, 1) := by decide +kernel
theorem dX9_doneBy_110 : decode cX9_doneBy 110 = .ok (.imul, 1) := by decide +kernel
theorem dX9_doneBy_111 : decode cX9_doneBy 111 = .ok (.ireturn, 1) := by decide +kernel
theorem dX9_doneBy_112 : decode cX9_doneBy 112 = .ok (.iload_n 3, 1) := by decide +kernel
theorem dX9_doneBy_113 : decode cX9_doneBy 113 = .ok (.ifCond .ne 7, 3) := by decide +kernel
theorem dX9_doneBy_116 : decode cX9_doneBy 116 = .ok (.iconst 0, 1) := by decide +kernel
theorem dX9_doneBy_117 : decode cX9_doneBy 117 = .ok (.goto 6, 3) := by decide +kernel
theorem dX9_doneBy_120 : decode cX9_doneBy 120 = .ok (.iload_n 2, 1) := by decide +kernel
theorem dX9_doneBy_121 : decode cX9_doneBy 121 = .ok (.iload_n 3, 1) := by decide +kernel
theorem dX9_doneBy_122 : decode cX9_doneBy 122 = .ok (.idiv, 1) := by decide +kernel
theorem dX9_doneBy_123 : decode cX9_doneBy 123 = .ok (.ireturn, 1) := by decide +kernel
theorem dX9_doneBy_124 : decode cX9_doneBy 124 = .ok (.iload_n 3, 1) := by decide +kernel
theorem dX9_doneBy_125 : decode cX9_doneBy 125 = .ok (.ifCond .ne 7, 3) := by decide +kernel
theorem dX9_doneBy_128 : decode cX9_doneBy 128 = .ok (.iconst 0, 1) := by decide +kernel
theorem dX9_doneBy_129 : decode cX9_doneBy 129 = .ok (.goto 6, 3) := by decide +kernel
theorem dX9_doneBy_132 : decode cX9_doneBy 132 = .ok (.iload_n 2, 1) := by decide +kernel
theorem dX9_doneBy_133 : decode cX9_doneBy 133 = .ok (.iload_n 3, 1) := by decide +kernel
theorem dX9_doneBy_134 : decode cX9_doneBy 134 = .ok (.irem, 1) := by decide +kernel
theorem dX9_doneBy_135 : decode cX9_doneBy 135 = .ok (.ireturn, 1) := by decide +kernel
theorem dX9_doneBy_136 : decode cX9_doneBy 136 = .ok (.iload_n 2, 1) := by decide +kernel
theorem dX9_doneBy_137 : decode cX9_doneBy 137 = .ok (.iload_n 3, 1) := by decide +kernel
theorem dX9_doneBy_138 : decode cX9_doneBy 138 = .ok (.iand, 1) := by decide +kernel
theorem dX9_doneBy_139 : decode cX9_doneBy 139 = .ok (.ireturn, 1) := by decide +kernel
theorem dX9_doneBy_140 : decode cX9_doneBy 140 = .ok (.iload_n 2, 1) := by decide +kernel
theorem dX9_doneBy_141 : decode cX9_doneBy 141 = .ok (.iload_n 3, 1) := by decide +kernel
theorem dX9_doneBy_142 : decode cX9_doneBy 142 = .ok (.ixor, 1) := by decide +kernel
theorem dX9_doneBy_143 : decode cX9_doneBy 143 = .ok (.ireturn, 1) := by decide +kernel
theorem dX9_doneBy_144 : decode cX9_doneBy 144 = .ok (.iload_n 2, 1) := by decide +kernel
theorem dX9_doneBy_145 : decode cX9_doneBy 145 = .ok (.iload_n 3, 1) := by decide +kernel
theorem dX9_doneBy_146 : decode cX9_doneBy 146 = .ok (.if_icmp .ge 7, 3) := by decide +kernel
theorem dX9_doneBy_149 : decode cX9_doneBy 149 = .ok (.iconst 1, 1) := by decide +kernel
theorem dX9_doneBy_150 : decode cX9_doneBy 150 = .ok (.goto 4, 3) := by decide +kernel
theorem dX9_doneBy_153 : decode cX9_doneBy 153 = .ok (.iconst 0, 1) := by decide +kernel
theorem dX9_doneBy_154 : decode cX9_doneBy 154 = .ok (.ireturn, 1) := by decide +kernel
theorem dX9_doneBy_155 : decode cX9_doneBy 155 = .ok (.iload_n 2, 1) := by decide +kernel
theorem dX9_doneBy_156 : decode cX9_doneBy 156 = .ok (.iload_n 3, 1) := by decide +kernel
theorem dX9_doneBy_157 : decode cX9_doneBy 157 = .ok (.if_icmp .ne 7, 3) := by decide +kernel
theorem dX9_doneBy_160 : decode cX9_doneBy 160 = .ok (.iconst 1, 1) := by decide +kernel
theorem dX9_doneBy_161 : decode cX9_doneBy 161 = .ok (.goto 4, 3) := by decide +kernel
theorem dX9_doneBy_164 : decode cX9_doneBy 164 = .ok (.iconst 0, 1) := by decide +kernel
theorem dX9_doneBy_165 : decode cX9_doneBy 165 = .ok (.ireturn, 1) := by decide +kernel
theorem dX9_isEdge_0 : decode cX9_isEdge 0 = .ok (.aload_n 0, 1) := by decide +kernel
theorem dX9_isEdge_1 : decode cX9_isEdge 1 = .ok (.getfield 49, 3) := by decide +kernel
theorem dX9_isEdge_4 : decode cX9_isEdge 4 = .ok (.bipush 96, 2) := by decide +kernel
theorem dX9_isEdge_6 : decode cX9_isEdge 6 = .ok (.iconst 2, 1) := by decide +kernel
theorem dX9_isEdge_7 : decode cX9_isEdge 7 = .ok (.iload_n 1, 1) := by decide +kernel
theorem dX9_isEdge_8 : decode cX9_isEdge 8 = .ok (.imul, 1) := by decide +kernel
theorem dX9_isEdge_9 : decode cX9_isEdge 9 = .ok (.iadd, 1) := by decide +kernel
theorem dX9_isEdge_10 : decode cX9_isEdge 10 = .ok (.iload_n 2, 1) := by decide +kernel
theorem dX9_isEdge_11 : decode cX9_isEdge 11 = .ok (.iadd, 1) := by decide +kernel
theorem dX9_isEdge_12 : decode cX9_isEdge 12 = .ok (.iaload, 1) := by decide +kernel
theorem dX9_isEdge_13 : decode cX9_isEdge 13 = .ok (.bipush (-9), 2) := by decide +kernel
theorem dX9_isEdge_15 : decode cX9_isEdge 15 = .ok (.if_icmp .eq 12, 3) := by decide +kernel
theorem dX9_isEdge_18 : decode cX9_isEdge 18 = .ok (.aload_n 0, 1) := by decide +kernel
theorem dX9_isEdge_19 : decode cX9_isEdge 19 = .ok (.getfield 107, 3) := by decide +kernel
theorem dX9_isEdge_22 : decode cX9_isEdge 22 = .ok (.iload_n 1, 1) := by decide +kernel
theorem dX9_isEdge_23 : decode cX9_isEdge 23 = .ok (.baload, 1) := by decide +kernel
theorem dX9_isEdge_24 : decode cX9_isEdge 24 = .ok (.ifCond .ne 5, 3) := by decide +kernel
theorem dX9_isEdge_27 : decode cX9_isEdge 27 = .ok (.iconst 0, 1) := by decide +kernel
theorem dX9_isEdge_28 : decode cX9_isEdge 28 = .ok (.ireturn, 1) := by decide +kernel
theorem dX9_isEdge_29 : decode cX9_isEdge 29 = .ok (.aload_n 0, 1) := by decide +kernel
theorem dX9_isEdge_30 : decode cX9_isEdge 30 = .ok (.getfield 40, 3) := by decide +kernel
theorem dX9_isEdge_33 : decode cX9_isEdge 33 = .ok (.iload_n 1, 1) := by decide +kernel
theorem dX9_isEdge_34 : decode cX9_isEdge 34 = .ok (.iaload, 1) := by decide +kernel
theorem dX9_isEdge_35 : decode cX9_isEdge 35 = .ok (.ifCond .eq 7, 3) := by decide +kernel
theorem dX9_isEdge_38 : decode cX9_isEdge 38 = .ok (.iload_n 3, 1) := by decide +kernel
theorem dX9_isEdge_39 : decode cX9_isEdge 39 = .ok (.ifCond .eq 5, 3) := by decide +kernel
theorem dX9_isEdge_42 : decode cX9_isEdge 42 = .ok (.iconst 1, 1) := by decide +kernel
theorem dX9_isEdge_43 : decode cX9_isEdge 43 = .ok (.ireturn, 1) := by decide +kernel
theorem dX9_isEdge_44 : decode cX9_isEdge 44 = .ok (.aload_n 0, 1) := by decide +kernel
theorem dX9_isEdge_45 : decode cX9_isEdge 45 = .ok (.getfield 43, 3) := by decide +kernel
theorem dX9_isEdge_48 : decode cX9_isEdge 48 = .ok (.iload_n 1, 1) := by decide +kernel
theorem dX9_isEdge_49 : decode cX9_isEdge 49 = .ok (.iaload, 1) := by decide +kernel
theorem dX9_isEdge_50 : decode cX9_isEdge 50 = .ok (.istore 4, 2) := by decide +kernel
theorem dX9_isEdge_52 : decode cX9_isEdge 52 = .ok (.aload_n 0, 1) := by decide +kernel
theorem dX9_isEdge_53 : decode cX9_isEdge 53 = .ok (.getfield 101, 3) := by decide +kernel
theorem dX9_isEdge_56 : decode cX9_isEdge 56 = .ok (.iload 4, 2) := by decide +kernel
theorem dX9_isEdge_58 : decode cX9_isEdge 58 = .ok (.iaload, 1) := by decide +kernel
theorem dX9_isEdge_59 : decode cX9_isEdge 59 = .ok (.iconst 2, 1) := by decide +kernel
theorem dX9_isEdge_60 : decode cX9_isEdge 60 = .ok (.if_icmp .eq 41, 3) := by decide +kernel
theorem dX9_isEdge_63 : decode cX9_isEdge 63 = .ok (.aload_n 0, 1) := by decide +kernel
theorem dX9_isEdge_64 : decode cX9_isEdge 64 = .ok (.getfield 101, 3) := by decide +kernel
theorem dX9_isEdge_67 : decode cX9_isEdge 67 = .ok (.iload 4, 2) := by decide +kernel
theorem dX9_isEdge_69 : decode cX9_isEdge 69 = .ok (.iaload, 1) := by decide +kernel
theorem dX9_isEdge_70 : decode cX9_isEdge 70 = .ok (.iconst 1, 1) := by decide +kernel
theorem dX9_isEdge_71 : decode cX9_isEdge 71 = .ok (.if_icmp .ne 34, 3) := by decide +kernel
theorem dX9_isEdge_74 : decode cX9_isEdge 74 = .ok (.aload_n 0, 1) := by decide +kernel
theorem dX9_isEdge_75 : decode cX9_isEdge 75 = .ok (.getfield 104, 3) := by decide +kernel
theorem dX9_isEdge_78 : decode cX9_isEdge 78 = .ok (.iload 4, 2) := by decide +kernel
theorem dX9_isEdge_80 : decode cX9_isEdge 80 = .ok (.iaload, 1) := by decide +kernel
theorem dX9_isEdge_81 : decode cX9_isEdge 81 = .ok (.ifCond .eq 7, 3) := by decide +kernel
theorem dX9_isEdge_84 : decode cX9_isEdge 84 = .ok (.iconst 1, 1) := by decide +kernel
theorem dX9_isEdge_85 : decode cX9_isEdge 85 = .ok (.goto 4, 3) := by decide +kernel
theorem dX9_isEdge_88 : decode cX9_isEdge 88 = .ok (.iconst 0, 1) := by decide +kernel
theorem dX9_isEdge_89 : decode cX9_isEdge 89 = .ok (.iload_n 2, 1) := by decide +kernel
theorem dX9_isEdge_90 : decode cX9_isEdge 90 = .ok (.ifCond .ne 7, 3) := by decide +kernel
theorem dX9_isEdge_93 : decode cX9_isEdge 93 = .ok (.iconst 1, 1) := by decide +kernel
theorem dX9_isEdge_94 : decode cX9_isEdge 94 = .ok (.goto 4, 3) := by decide +kernel
theorem dX9_isEdge_97 : decode cX9_isEdge 97 = .ok (.iconst 0, 1) := by decide +kernel
theorem dX9_isEdge_98 : decode cX9_isEdge 98 = .ok (.if_icmp .ne 7, 3) := by decide +kernel
theorem dX9_isEdge_101 : decode cX9_isEdge 101 = .ok (.iconst 1, 1) := by decide +kernel
theorem dX9_isEdge_102 : decode cX9_isEdge 102 = .ok (.goto 4, 3) := by decide +kernel
theorem dX9_isEdge_105 : decode cX9_isEdge 105 = .ok (.iconst 0, 1) := by decide +kernel
theorem dX9_isEdge_106 : decode cX9_isEdge 106 = .ok (.ireturn, 1) := by decide +kernel
theorem dX9_isWay_0 : decode cX9_isWay 0 = .ok (.aload_n 0, 1) := by decide +kernel
theorem dX9_isWay_1 : decode cX9_isWay 1 = .ok (.getfield 49, 3) := by decide +kernel
theorem dX9_isWay_4 : decode cX9_isWay 4 = .ok (.bipush 96, 2) := by decide +kernel
theorem dX9_isWay_6 : decode cX9_isWay 6 = .ok (.iconst 2, 1) := by decide +kernel
theorem dX9_isWay_7 : decode cX9_isWay 7 = .ok (.iload_n 1, 1) := by decide +kernel
theorem dX9_isWay_8 : decode cX9_isWay 8 = .ok (.imul, 1) := by decide +kernel
theorem dX9_isWay_9 : decode cX9_isWay 9 = .ok (.iadd, 1) := by decide +kernel
theorem dX9_isWay_10 : decode cX9_isWay 10 = .ok (.iaload, 1) := by decide +kernel
theorem dX9_isWay_11 : decode cX9_isWay 11 = .ok (.iload_n 2, 1) := by decide +kernel
theorem dX9_isWay_12 : decode cX9_isWay 12 = .ok (.if_icmp .ne 13, 3) := by decide +kernel
theorem dX9_isWay_15 : decode cX9_isWay 15 = .ok (.aload_n 0, 1) := by decide +kernel
theorem dX9_isWay_16 : decode cX9_isWay 16 = .ok (.iload_n 1, 1) := by decide +kernel
theorem dX9_isWay_17 : decode cX9_isWay 17 = .ok (.iconst 0, 1) := by decide +kernel
theorem dX9_isWay_18 : decode cX9_isWay 18 = .ok (.iload_n 3, 1) := by decide +kernel
theorem dX9_isWay_19 : decode cX9_isWay 19 = .ok (.invokevirtual 222, 3) := by decide +kernel
theorem dX9_isWay_22 : decode cX9_isWay 22 = .ok (.ifCond .ne 30, 3) := by decide +kernel
theorem dX9_isWay_25 : decode cX9_isWay 25 = .ok (.aload_n 0, 1) := by decide +kernel
theorem dX9_isWay_26 : decode cX9_isWay 26 = .ok (.getfield 49, 3) := by decide +kernel
theorem dX9_isWay_29 : decode cX9_isWay 29 = .ok (.bipush 96, 2) := by decide +kernel
theorem dX9_isWay_31 : decode cX9_isWay 31 = .ok (.iconst 2, 1) := by decide +kernel
theorem dX9_isWay_32 : decode cX9_isWay 32 = .ok (.iload_n 1, 1) := by decide +kernel
theorem dX9_isWay_33 : decode cX9_isWay 33 = .ok (.imul, 1) := by decide +kernel
theorem dX9_isWay_34 : decode cX9_isWay 34 = .ok (.iadd, 1) := by decide +kernel
theorem dX9_isWay_35 : decode cX9_isWay 35 = .ok (.iconst 1, 1) := by decide +kernel
theorem dX9_isWay_36 : decode cX9_isWay 36 = .ok (.iadd, 1) := by decide +kernel
theorem dX9_isWay_37 : decode cX9_isWay 37 = .ok (.iaload, 1) := by decide +kernel
theorem dX9_isWay_38 : decode cX9_isWay 38 = .ok (.iload_n 2, 1) := by decide +kernel
theorem dX9_isWay_39 : decode cX9_isWay 39 = .ok (.if_icmp .ne 17, 3) := by decide +kernel
theorem dX9_isWay_42 : decode cX9_isWay 42 = .ok (.aload_n 0, 1) := by decide +kernel
theorem dX9_isWay_43 : decode cX9_isWay 43 = .ok (.iload_n 1, 1) := by decide +kernel
theorem dX9_isWay_44 : decode cX9_isWay 44 = .ok (.iconst 1, 1) := by decide +kernel
theorem dX9_isWay_45 : decode cX9_isWay 45 = .ok (.iload_n 3, 1) := by decide +kernel
theorem dX9_isWay_46 : decode cX9_isWay 46 = .ok (.invokevirtual 222, 3) := by decide +kernel
theorem dX9_isWay_49 : decode cX9_isWay 49 = .ok (.ifCond .eq 7, 3) := by decide +kernel
theorem dX9_isWay_52 : decode cX9_isWay 52 = .ok (.iconst 1, 1) := by decide +kernel
theorem dX9_isWay_53 : decode cX9_isWay 53 = .ok (.goto 4, 3) := by decide +kernel
theorem dX9_isWay_56 : decode cX9_isWay 56 = .ok (.iconst 0, 1) := by decide +kernel
theorem dX9_isWay_57 : decode cX9_isWay 57 = .ok (.ireturn, 1) := by decide +kernel
theorem dX9_climbsOperation_0 : decode cX9_climbsOperation 0 = .ok (.aload_n 0, 1) := by decide +kernel
theorem dX9_climbsOperation_1 : decode cX9_climbsOperation 1 = .ok (.getfield 22, 3) := by decide +kernel
theorem dX9_climbsOperation_4 : decode cX9_climbsOperation 4 = .ok (.iload_n 1, 1) := by decide +kernel
theorem dX9_climbsOperation_5 : decode cX9_climbsOperation 5 = .ok (.iaload, 1) := by decide +kernel
theorem dX9_climbsOperation_6 : decode cX9_climbsOperation 6 = .ok (.istore_n 2, 1) := by decide +kernel
theorem dX9_climbsOperation_7 : decode cX9_climbsOperation 7 = .ok (.aload_n 0, 1) := by decide +kernel
theorem dX9_climbsOperation_8 : decode cX9_climbsOperation 8 = .ok (.getfield 25, 3) := by decide +kernel
theorem dX9_climbsOperation_11 : decode cX9_climbsOperation 11 = .ok (.iload_n 1, 1) := by decide +kernel
theorem dX9_climbsOperation_12 : decode cX9_climbsOperation 12 = .ok (.iaload, 1) := by decide +kernel
theorem dX9_climbsOperation_13 : decode cX9_climbsOperation 13 = .ok (.istore_n 3, 1) := by decide +kernel
theorem dX9_climbsOperation_14 : decode cX9_climbsOperation 14 = .ok (.aload_n 0, 1) := by decide +kernel
theorem dX9_climbsOperation_15 : decode cX9_climbsOperation 15 = .ok (.getfield 101, 3) := by decide +kernel
theorem dX9_climbsOperation_18 : decode cX9_climbsOperation 18 = .ok (.iload_n 2, 1) := by decide +kernel
theorem dX9_climbsOperation_19 : decode cX9_climbsOperation 19 = .ok (.iaload, 1) := by decide +kernel
theorem dX9_climbsOperation_20 : decode cX9_climbsOperation 20 = .ok (.ifCond .eq 12, 3) := by decide +kernel
theorem dX9_climbsOperation_23 : decode cX9_climbsOperation 23 = .ok (.aload_n 0, 1) := by decide +kernel
theorem dX9_climbsOperation_24 : decode cX9_climbsOperation 24 = .ok (.getfield 101, 3) := by decide +kernel
theorem dX9_climbsOperation_27 : decode cX9_climbsOperation 27 = .ok (.iload_n 3, 1) := by decide +kernel
theorem dX9_climbsOperation_28 : decode cX9_climbsOperation 28 = .ok (.iaload, 1) := by decide +kernel
theorem dX9_climbsOperation_29 : decode cX9_climbsOperation 29 = .ok (.ifCond .ne 4, 3) := by decide +kernel
theorem dX9_climbsOperation_32 : decode cX9_climbsOperation 32 = .ok (.return_, 1) := by decide +kernel
theorem dX9_climbsOperation_33 : decode cX9_climbsOperation 33 = .ok (.aload_n 0, 1) := by decide +kernel
theorem dX9_climbsOperation_34 : decode cX9_climbsOperation 34 = .ok (.getfield 101, 3) := by decide +kernel
theorem dX9_climbsOperation_37 : decode cX9_climbsOperation 37 = .ok (.iload_n 1, 1) := by decide +kernel
theorem dX9_climbsOperation_38 : decode cX9_climbsOperation 38 = .ok (.iconst 2, 1) := by decide +kernel
theorem dX9_climbsOperation_39 : decode cX9_climbsOperation 39 = .ok (.iastore, 1) := by decide +kernel
theorem dX9_climbsOperation_40 : decode cX9_climbsOperation 40 = .ok (.aload_n 0, 1) := by decide +kernel
theorem dX9_climbsOperation_41 : decode cX9_climbsOperation 41 = .ok (.getfield 101, 3) := by decide +kernel
theorem dX9_climbsOperation_44 : decode cX9_climbsOperation 44 = .ok (.iload_n 2, 1) := by decide +kernel
theorem dX9_climbsOperation_45 : decode cX9_climbsOperation 45 = .ok (.iaload, 1) := by decide +kernel
theorem dX9_climbsOperation_46 : decode cX9_climbsOperation 46 = .ok (.iconst 1, 1) := by decide +kernel
theorem dX9_climbsOperation_47 : decode cX9_climbsOperation 47 = .ok (.if_icmp .ne 59, 3) := by decide +kernel
theorem dX9_climbsOperation_50 : decode cX9_climbsOperation 50 = .ok (.aload_n 0, 1) := by decide +kernel
theorem dX9_climbsOperation_51 : decode cX9_climbsOperation 51 = .ok (.getfield 101, 3) := by decide +kernel
theorem dX9_climbsOperation_54 : decode cX9_climbsOperation 54 = .ok (.iload_n 3, 1) := by decide +kernel
theorem dX9_climbsOperation_55 : decode cX9_climbsOperation 55 = .ok (.iaload, 1) := by decide +kernel
theorem dX9_climbsOperation_56 : decode cX9_climbsOperation 56 = .ok (.iconst 1, 1) := by decide +kernel
theorem dX9_climbsOperation_57 : decode cX9_climbsOperation 57 = .ok (.if_icmp .ne 49, 3) := by decide +kernel
theorem dX9_climbsOperation_60 : decode cX9_climbsOperation 60 = .ok (.aload_n 0, 1) := by decide +kernel
theorem dX9_climbsOperation_61 : decode cX9_climbsOperation 61 = .ok (.getfield 104, 3) := by decide +kernel
theorem dX9_climbsOperation_64 : decode cX9_climbsOperation 64 = .ok (.iload_n 1, 1) := by decide +kernel
theorem dX9_climbsOperation_65 : decode cX9_climbsOperation 65 = .ok (.aload_n 0, 1) := by decide +kernel
theorem dX9_climbsOperation_66 : decode cX9_climbsOperation 66 = .ok (.aload_n 0, 1) := by decide +kernel
theorem dX9_climbsOperation_67 : decode cX9_climbsOperation 67 = .ok (.getfield 19, 3) := by decide +kernel
theorem dX9_climbsOperation_70 : decode cX9_climbsOperation 70 = .ok (.iload_n 1, 1) := by decide +kernel
theorem dX9_climbsOperation_71 : decode cX9_climbsOperation 71 = .ok (.iaload, 1) := by decide +kernel
theorem dX9_climbsOperation_72 : decode cX9_climbsOperation 72 = .ok (.aload_n 0, 1) := by decide +kernel
theorem dX9_climbsOperation_73 : decode cX9_climbsOperation 73 = .ok (.getfield 104, 3) := by decide +kernel
theorem dX9_climbsOperation_76 : decode cX9_climbsOperation 76 = .ok (.iload_n 2, 1) := by decide +kernel
theorem dX9_climbsOperation_77 : decode cX9_climbsOperation 77 = .ok (.iaload, 1) := by decide +kernel
theorem dX9_climbsOperation_78 : decode cX9_climbsOperation 78 = .ok (.aload_n 0, 1) := by decide +kernel
theorem dX9_climbsOperation_79 : decode cX9_climbsOperation 79 = .ok (.getfield 104, 3) := by decide +kernel
theorem dX9_climbsOperation_82 : decode cX9_climbsOperation 82 = .ok (.iload_n 3, 1) := by decide +kernel
theorem dX9_climbsOperation_83 : decode cX9_climbsOperation 83 = .ok (.iaload, 1) := by decide +kernel
theorem dX9_climbsOperation_84 : decode cX9_climbsOperation 84 = .ok (.invokevirtual 226, 3) := by decide +kernel
theorem dX9_climbsOperation_87 : decode cX9_climbsOperation 87 = .ok (.iastore, 1) := by decide +kernel
theorem dX9_climbsOperation_88 : decode cX9_climbsOperation 88 = .ok (.aload_n 0, 1) := by decide +kernel
theorem dX9_climbsOperation_89 : decode cX9_climbsOperation 89 = .ok (.getfield 101, 3) := by decide +kernel
theorem dX9_climbsOperation_92 : decode cX9_climbsOperation 92 = .ok (.iload_n 1, 1) := by decide +kernel
theorem dX9_climbsOperation_93 : decode cX9_climbsOperation 93 = .ok (.aload_n 0, 1) := by decide +kernel
theorem dX9_climbsOperation_94 : decode cX9_climbsOperation 94 = .ok (.getfield 219, 3) := by decide +kernel
theorem dX9_climbsOperation_97 : decode cX9_climbsOperation 97 = .ok (.ifCond .eq 7, 3) := by decide +kernel
theorem dX9_climbsOperation_100 : decode cX9_climbsOperation 100 = .ok (.iconst 2, 1) := by decide +kernel
theorem dX9_climbsOperation_101 : decode cX9_climbsOperation 101 = .ok (.goto 4, 3) := by decide +kernel
theorem dX9_climbsOperation_104 : decode cX9_climbsOperation 104 = .ok (.iconst 1, 1) := by decide +kernel
theorem dX9_climbsOperation_105 : decode cX9_climbsOperation 105 = .ok (.iastore, 1) := by decide +kernel
theorem dX9_climbsOperation_106 : decode cX9_climbsOperation 106 = .ok (.return_, 1) := by decide +kernel
theorem dX9_climbsJoin_0 : decode cX9_climbsJoin 0 = .ok (.iconst 0, 1) := by decide +kernel
theorem dX9_climbsJoin_1 : decode cX9_climbsJoin 1 = .ok (.istore_n 3, 1) := by decide +kernel
theorem dX9_climbsJoin_2 : decode cX9_climbsJoin 2 = .ok (.iload_n 3, 1) := by decide +kernel
theorem dX9_climbsJoin_3 : decode cX9_climbsJoin 3 = .ok (.aload_n 0, 1) := by decide +kernel
theorem dX9_climbsJoin_4 : decode cX9_climbsJoin 4 = .ok (.getfield 28, 3) := by decide +kernel
theorem dX9_climbsJoin_7 : decode cX9_climbsJoin 7 = .ok (.iload_n 1, 1) := by decide +kernel
theorem dX9_climbsJoin_8 : decode cX9_climbsJoin 8 = .ok (.iaload, 1) := by decide +kernel
theorem dX9_climbsJoin_9 : decode cX9_climbsJoin 9 = .ok (.if_icmp .ge 137, 3) := by decide +kernel
theorem dX9_climbsJoin_12 : decode cX9_climbsJoin 12 = .ok (.aload_n 0, 1) := by decide +kernel
theorem dX9_climbsJoin_13 : decode cX9_climbsJoin 13 = .ok (.getfield 34, 3) := by decide +kernel
theorem dX9_climbsJoin_16 : decode cX9_climbsJoin 16 = .ok (.iconst 3, 1) := by decide +kernel
theorem dX9_climbsJoin_17 : decode cX9_climbsJoin 17 = .ok (.iload_n 1, 1) := by decide +kernel
theorem dX9_climbsJoin_18 : decode cX9_climbsJoin 18 = .ok (.imul, 1) := by decide +kernel
theorem dX9_climbsJoin_19 : decode cX9_climbsJoin 19 = .ok (.iload_n 3, 1) := by decide +kernel
theorem dX9_climbsJoin_20 : decode cX9_climbsJoin 20 = .ok (.iadd, 1) := by decide +kernel
theorem dX9_climbsJoin_21 : decode cX9_climbsJoin 21 = .ok (.iaload, 1) := by decide +kernel
theorem dX9_climbsJoin_22 : decode cX9_climbsJoin 22 = .ok (.istore 4, 2) := by decide +kernel
theorem dX9_climbsJoin_24 : decode cX9_climbsJoin 24 = .ok (.aload_n 0, 1) := by decide +kernel
theorem dX9_climbsJoin_25 : decode cX9_climbsJoin 25 = .ok (.aload_n 0, 1) := by decide +kernel
theorem dX9_climbsJoin_26 : decode cX9_climbsJoin 26 = .ok (.getfield 31, 3) := by decide +kernel
theorem dX9_climbsJoin_29 : decode cX9_climbsJoin 29 = .ok (.iconst 3, 1) := by decide +kernel
theorem dX9_climbsJoin_30 : decode cX9_climbsJoin 30 = .ok (.iload_n 1, 1) := by decide +kernel
theorem dX9_climbsJoin_31 : decode cX9_climbsJoin 31 = .ok (.imul, 1) := by decide +kernel
theorem dX9_climbsJoin_32 : decode cX9_climbsJoin 32 = .ok (.iload_n 3, 1) := by decide +kernel
theorem dX9_climbsJoin_33 : decode cX9_climbsJoin 33 = .ok (.iadd, 1) := by decide +kernel
theorem dX9_climbsJoin_34 : decode cX9_climbsJoin 34 = .ok (.iaload, 1) := by decide +kernel
theorem dX9_climbsJoin_35 : decode cX9_climbsJoin 35 = .ok (.aload_n 0, 1) := by decide +kernel
theorem dX9_climbsJoin_36 : decode cX9_climbsJoin 36 = .ok (.getfield 16, 3) := by decide +kernel
theorem dX9_climbsJoin_39 : decode cX9_climbsJoin 39 = .ok (.iload_n 1, 1) := by decide +kernel
theorem dX9_climbsJoin_40 : decode cX9_climbsJoin 40 = .ok (.iaload, 1) := by decide +kernel
theorem dX9_climbsJoin_41 : decode cX9_climbsJoin 41 = .ok (.iload_n 2, 1) := by decide +kernel
theorem dX9_climbsJoin_42 : decode cX9_climbsJoin 42 = .ok (.invokevirtual 230, 3) := by decide +kernel
theorem dX9_climbsJoin_45 : decode cX9_climbsJoin 45 = .ok (.ifCond .eq 95, 3) := by decide +kernel
theorem dX9_climbsJoin_48 : decode cX9_climbsJoin 48 = .ok (.aload_n 0, 1) := by decide +kernel
theorem dX9_climbsJoin_49 : decode cX9_climbsJoin 49 = .ok (.getfield 101, 3) := by decide +kernel
theorem dX9_climbsJoin_52 : decode cX9_climbsJoin 52 = .ok (.iload 4, 2) := by decide +kernel
theorem dX9_climbsJoin_54 : decode cX9_climbsJoin 54 = .ok (.iaload, 1) := by decide +kernel
theorem dX9_climbsJoin_55 : decode cX9_climbsJoin 55 = .ok (.ifCond .eq 85, 3) := by decide +kernel
theorem dX9_climbsJoin_58 : decode cX9_climbsJoin 58 = .ok (.aload_n 0, 1) := by decide +kernel
theorem dX9_climbsJoin_59 : decode cX9_climbsJoin 59 = .ok (.getfield 101, 3) := by decide +kernel
theorem dX9_climbsJoin_62 : decode cX9_climbsJoin 62 = .ok (.iload 4, 2) := by decide +kernel
theorem dX9_climbsJoin_64 : decode cX9_climbsJoin 64 = .ok (.iaload, 1) := by decide +kernel
theorem dX9_climbsJoin_65 : decode cX9_climbsJoin 65 = .ok (.iconst 1, 1) := by decide +kernel
theorem dX9_climbsJoin_66 : decode cX9_climbsJoin 66 = .ok (.if_icmp .ne 42, 3) := by decide +kernel
theorem dX9_climbsJoin_69 : decode cX9_climbsJoin 69 = .ok (.aload_n 0, 1) := by decide +kernel
theorem dX9_climbsJoin_70 : decode cX9_climbsJoin 70 = .ok (.getfield 101, 3) := by decide +kernel
theorem dX9_climbsJoin_73 : decode cX9_climbsJoin 73 = .ok (.iload_n 1, 1) := by decide +kernel
theorem dX9_climbsJoin_74 : decode cX9_climbsJoin 74 = .ok (.iaload, 1) := by decide +kernel
theorem dX9_climbsJoin_75 : decode cX9_climbsJoin 75 = .ok (.ifCond .eq 29, 3) := by decide +kernel
theorem dX9_climbsJoin_78 : decode cX9_climbsJoin 78 = .ok (.aload_n 0, 1) := by decide +kernel
theorem dX9_climbsJoin_79 : decode cX9_climbsJoin 79 = .ok (.getfield 101, 3) := by decide +kernel
theorem dX9_climbsJoin_82 : decode cX9_climbsJoin 82 = .ok (.iload_n 1, 1) := by decide +kernel
theorem dX9_climbsJoin_83 : decode cX9_climbsJoin 83 = .ok (.iaload, 1) := by decide +kernel
theorem dX9_climbsJoin_84 : decode cX9_climbsJoin 84 = .ok (.iconst 1, 1) := by decide +kernel
theorem dX9_climbsJoin_85 : decode cX9_climbsJoin 85 = .ok (.if_icmp .ne 23, 3) := by decide +kernel
theorem dX9_climbsJoin_88 : decode cX9_climbsJoin 88 = .ok (.aload_n 0, 1) := by decide +kernel
theorem dX9_climbsJoin_89 : decode cX9_climbsJoin 89 = .ok (.getfield 104, 3) := by decide +kernel
theorem dX9_climbsJoin_92 : decode cX9_climbsJoin 92 = .ok (.iload_n 1, 1) := by decide +kernel
theorem dX9_climbsJoin_93 : decode cX9_climbsJoin 93 = .ok (.iaload, 1) := by decide +kernel
theorem dX9_climbsJoin_94 : decode cX9_climbsJoin 94 = .ok (.aload_n 0, 1) := by decide +kernel
theorem dX9_climbsJoin_95 : decode cX9_climbsJoin 95 = .ok (.getfield 104, 3) := by decide +kernel
theorem dX9_climbsJoin_98 : decode cX9_climbsJoin 98 = .ok (.iload 4, 2) := by decide +kernel
theorem dX9_climbsJoin_100 : decode cX9_climbsJoin 100 = .ok (.iaload, 1) := by decide +kernel
theorem dX9_climbsJoin_101 : decode cX9_climbsJoin 101 = .ok (.if_icmp .ne 7, 3) := by decide +kernel
theorem dX9_climbsJoin_104 : decode cX9_climbsJoin 104 = .ok (.iconst 1, 1) := by decide +kernel
theorem dX9_climbsJoin_105 : decode cX9_climbsJoin 105 = .ok (.goto 4, 3) := by decide +kernel
theorem dX9_climbsJoin_108 : decode cX9_climbsJoin 108 = .ok (.iconst 0, 1) := by decide +kernel
theorem dX9_climbsJoin_109 : decode cX9_climbsJoin 109 = .ok (.istore 5, 2) := by decide +kernel
theorem dX9_climbsJoin_111 : decode cX9_climbsJoin 111 = .ok (.aload_n 0, 1) := by decide +kernel
theorem dX9_climbsJoin_112 : decode cX9_climbsJoin 112 = .ok (.getfield 101, 3) := by decide +kernel
theorem dX9_climbsJoin_115 : decode cX9_climbsJoin 115 = .ok (.iload_n 1, 1) := by decide +kernel
theorem dX9_climbsJoin_116 : decode cX9_climbsJoin 116 = .ok (.iload 5, 2) := by decide +kernel
theorem dX9_climbsJoin_118 : decode cX9_climbsJoin 118 = .ok (.ifCond .eq 7, 3) := by decide +kernel
theorem dX9_climbsJoin_121 : decode cX9_climbsJoin 121 = .ok (.iconst 1, 1) := by decide +kernel
theorem dX9_climbsJoin_122 : decode cX9_climbsJoin 122 = .ok (.goto 4, 3) := by decide +kernel
theorem dX9_climbsJoin_125 : decode cX9_climbsJoin 125 = .ok (.iconst 2, 1) := by decide +kernel
theorem dX9_climbsJoin_126 : decode cX9_climbsJoin 126 = .ok (.iastore, 1) := by decide +kernel
theorem dX9_climbsJoin_127 : decode cX9_climbsJoin 127 = .ok (.aload_n 0, 1) := by decide +kernel
theorem dX9_climbsJoin_128 : decode cX9_climbsJoin 128 = .ok (.getfield 104, 3) := by decide +kernel
theorem dX9_climbsJoin_131 : decode cX9_climbsJoin 131 = .ok (.iload_n 1, 1) := by decide +kernel
theorem dX9_climbsJoin_132 : decode cX9_climbsJoin 132 = .ok (.aload_n 0, 1) := by decide +kernel
theorem dX9_climbsJoin_133 : decode cX9_climbsJoin 133 = .ok (.getfield 104, 3) := by decide +kernel
theorem dX9_climbsJoin_136 : decode cX9_climbsJoin 136 = .ok (.iload 4, 2) := by decide +kernel
theorem dX9_climbsJoin_138 : decode cX9_climbsJoin 138 = .ok (.iaload, 1) := by decide +kernel
theorem dX9_climbsJoin_139 : decode cX9_climbsJoin 139 = .ok (.iastore, 1) := by decide +kernel
theorem dX9_climbsJoin_140 : decode cX9_climbsJoin 140 = .ok (.iinc 3 1, 3) := by decide +kernel
theorem dX9_climbsJoin_143 : decode cX9_climbsJoin 143 = .ok (.goto (-141), 3) := by decide +kernel
theorem dX9_climbsJoin_146 : decode cX9_climbsJoin 146 = .ok (.return_, 1) := by decide +kernel
theorem dX9_climbs_0 : decode cX9_climbs 0 = .ok (.aload_n 0, 1) := by decide +kernel
theorem dX9_climbs_1 : decode cX9_climbs 1 = .ok (.getfield 13, 3) := by decide +kernel
theorem dX9_climbs_4 : decode cX9_climbs 4 = .ok (.iload_n 1, 1) := by decide +kernel
theorem dX9_climbs_5 : decode cX9_climbs 5 = .ok (.iaload, 1) := by decide +kernel
theorem dX9_climbs_6 : decode cX9_climbs 6 = .ok (.tableswitch 100 0 2 #[26, 51, 92], 26) := by decide +kernel
theorem dX9_climbs_32 : decode cX9_climbs 32 = .ok (.aload_n 0, 1) := by decide +kernel
theorem dX9_climbs_33 : decode cX9_climbs 33 = .ok (.getfield 101, 3) := by decide +kernel
theorem dX9_climbs_36 : decode cX9_climbs 36 = .ok (.iload_n 1, 1) := by decide +kernel
theorem dX9_climbs_37 : decode cX9_climbs 37 = .ok (.iconst 1, 1) := by decide +kernel
theorem dX9_climbs_38 : decode cX9_climbs 38 = .ok (.iastore, 1) := by decide +kernel
theorem dX9_climbs_39 : decode cX9_climbs 39 = .ok (.aload_n 0, 1) := by decide +kernel
theorem dX9_climbs_40 : decode cX9_climbs 40 = .ok (.getfield 104, 3) := by decide +kernel
theorem dX9_climbs_43 : decode cX9_climbs 43 = .ok (.iload_n 1, 1) := by decide +kernel
theorem dX9_climbs_44 : decode cX9_climbs 44 = .ok (.aload_n 0, 1) := by decide +kernel
theorem dX9_climbs_45 : decode cX9_climbs 45 = .ok (.getfield 49, 3) := by decide +kernel
theorem dX9_climbs_48 : decode cX9_climbs 48 = .ok (.bipush 72, 2) := by decide +kernel
theorem dX9_climbs_50 : decode cX9_climbs 50 = .ok (.iload_n 1, 1) := by decide +kernel
theorem dX9_climbs_51 : decode cX9_climbs 51 = .ok (.iadd, 1) := by decide +kernel
theorem dX9_climbs_52 : decode cX9_climbs 52 = .ok (.iaload, 1) := by decide +kernel
theorem dX9_climbs_53 : decode cX9_climbs 53 = .ok (.iastore, 1) := by decide +kernel
theorem dX9_climbs_54 : decode cX9_climbs 54 = .ok (.goto 58, 3) := by decide +kernel
theorem dX9_climbs_57 : decode cX9_climbs 57 = .ok (.aload_n 0, 1) := by decide +kernel
theorem dX9_climbs_58 : decode cX9_climbs 58 = .ok (.getfield 101, 3) := by decide +kernel
theorem dX9_climbs_61 : decode cX9_climbs 61 = .ok (.iload_n 1, 1) := by decide +kernel
theorem dX9_climbs_62 : decode cX9_climbs 62 = .ok (.aload_n 0, 1) := by decide +kernel
theorem dX9_climbs_63 : decode cX9_climbs 63 = .ok (.getfield 49, 3) := by decide +kernel
theorem dX9_climbs_66 : decode cX9_climbs 66 = .ok (.iconst 0, 1) := by decide +kernel
theorem dX9_climbs_67 : decode cX9_climbs 67 = .ok (.iload_n 1, 1) := by decide +kernel
theorem dX9_climbs_68 : decode cX9_climbs 68 = .ok (.iadd, 1) := by decide +kernel
theorem dX9_climbs_69 : decode cX9_climbs 69 = .ok (.iaload, 1) := by decide +kernel
theorem dX9_climbs_70 : decode cX9_climbs 70 = .ok (.iconst 1, 1) := by decide +kernel
theorem dX9_climbs_71 : decode cX9_climbs 71 = .ok (.if_icmp .ne 7, 3) := by decide +kernel
theorem dX9_climbs_74 : decode cX9_climbs 74 = .ok (.iconst 1, 1) := by decide +kernel
theorem dX9_climbs_75 : decode cX9_climbs 75 = .ok (.goto 4, 3) := by decide +kernel
theorem dX9_climbs_78 : decode cX9_climbs 78 = .ok (.iconst 2, 1) := by decide +kernel
theorem dX9_climbs_79 : decode cX9_climbs 79 = .ok (.iastore, 1) := by decide +kernel
theorem dX9_climbs_80 : decode cX9_climbs 80 = .ok (.aload_n 0, 1) := by decide +kernel
theorem dX9_climbs_81 : decode cX9_climbs 81 = .ok (.getfield 104, 3) := by decide +kernel
theorem dX9_climbs_84 : decode cX9_climbs 84 = .ok (.iload_n 1, 1) := by decide +kernel
theorem dX9_climbs_85 : decode cX9_climbs 85 = .ok (.aload_n 0, 1) := by decide +kernel
theorem dX9_climbs_86 : decode cX9_climbs 86 = .ok (.getfield 49, 3) := by decide +kernel
theorem dX9_climbs_89 : decode cX9_climbs 89 = .ok (.bipush 24, 2) := by decide +kernel
theorem dX9_climbs_91 : decode cX9_climbs 91 = .ok (.iload_n 1, 1) := by decide +kernel
theorem dX9_climbs_92 : decode cX9_climbs 92 = .ok (.iadd, 1) := by decide +kernel
theorem dX9_climbs_93 : decode cX9_climbs 93 = .ok (.iaload, 1) := by decide +kernel
theorem dX9_climbs_94 : decode cX9_climbs 94 = .ok (.iastore, 1) := by decide +kernel
theorem dX9_climbs_95 : decode cX9_climbs 95 = .ok (.goto 17, 3) := by decide +kernel
theorem dX9_climbs_98 : decode cX9_climbs 98 = .ok (.aload_n 0, 1) := by decide +kernel
theorem dX9_climbs_99 : decode cX9_climbs 99 = .ok (.iload_n 1, 1) := by decide +kernel
theorem dX9_climbs_100 : decode cX9_climbs 100 = .ok (.invokevirtual 233, 3) := by decide +kernel
theorem dX9_climbs_103 : decode cX9_climbs 103 = .ok (.goto 9, 3) := by decide +kernel
theorem dX9_climbs_106 : decode cX9_climbs 106 = .ok (.aload_n 0, 1) := by decide +kernel
theorem dX9_climbs_107 : decode cX9_climbs 107 = .ok (.iload_n 1, 1) := by decide +kernel
theorem dX9_climbs_108 : decode cX9_climbs 108 = .ok (.iload_n 2, 1) := by decide +kernel
theorem dX9_climbs_109 : decode cX9_climbs 109 = .ok (.invokevirtual 236, 3) := by decide +kernel
theorem dX9_climbs_112 : decode cX9_climbs 112 = .ok (.return_, 1) := by decide +kernel
theorem dX9_finds_0 : decode cX9_finds 0 = .ok (.iconst 0, 1) := by decide +kernel
theorem dX9_finds_1 : decode cX9_finds 1 = .ok (.istore_n 2, 1) := by decide +kernel
theorem dX9_finds_2 : decode cX9_finds 2 = .ok (.iload_n 2, 1) := by decide +kernel
theorem dX9_finds_3 : decode cX9_finds 3 = .ok (.bipush 24, 2) := by decide +kernel
theorem dX9_finds_5 : decode cX9_finds 5 = .ok (.if_icmp .ge 16, 3) := by decide +kernel
theorem dX9_finds_8 : decode cX9_finds 8 = .ok (.aload_n 0, 1) := by decide +kernel
theorem dX9_finds_9 : decode cX9_finds 9 = .ok (.getfield 101, 3) := by decide +kernel
theorem dX9_finds_12 : decode cX9_finds 12 = .ok (.iload_n 2, 1) := by decide +kernel
theorem dX9_finds_13 : decode cX9_finds 13 = .ok (.iconst 0, 1) := by decide +kernel
theorem dX9_finds_14 : decode cX9_finds 14 = .ok (.iastore, 1) := by decide +kernel
theorem dX9_finds_15 : decode cX9_finds 15 = .ok (.iinc 2 1, 3) := by decide +kernel
theorem dX9_finds_18 : decode cX9_finds 18 = .ok (.goto (-16), 3) := by decide +kernel
theorem dX9_finds_21 : decode cX9_finds 21 = .ok (.iconst 0, 1) := by decide +kernel
theorem dX9_finds_22 : decode cX9_finds 22 = .ok (.istore_n 2, 1) := by decide +kernel
theorem dX9_finds_23 : decode cX9_finds 23 = .ok (.iload_n 2, 1) := by decide +kernel
theorem dX9_finds_24 : decode cX9_finds 24 = .ok (.bipush 8, 2) := by decide +kernel
theorem dX9_finds_26 : decode cX9_finds 26 = .ok (.if_icmp .ge 31, 3) := by decide +kernel
theorem dX9_finds_29 : decode cX9_finds 29 = .ok (.aload_n 0, 1) := by decide +kernel
theorem dX9_finds_30 : decode cX9_finds 30 = .ok (.getfield 107, 3) := by decide +kernel
theorem dX9_finds_33 : decode cX9_finds 33 = .ok (.iload_n 2, 1) := by decide +kernel
theorem dX9_finds_34 : decode cX9_finds 34 = .ok (.iload_n 2, 1) := by decide +kernel
theorem dX9_finds_35 : decode cX9_finds 35 = .ok (.ifCond .ne 14, 3) := by decide +kernel
theorem dX9_finds_38 : decode cX9_finds 38 = .ok (.aload_n 0, 1) := by decide +kernel
theorem dX9_finds_39 : decode cX9_finds 39 = .ok (.getfield 130, 3) := by decide +kernel
theorem dX9_finds_42 : decode cX9_finds 42 = .ok (.ifCond .le 7, 3) := by decide +kernel
theorem dX9_finds_45 : decode cX9_finds 45 = .ok (.iconst 1, 1) := by decide +kernel
theorem dX9_finds_46 : decode cX9_finds 46 = .ok (.goto 4, 3) := by decide +kernel
theorem dX9_finds_49 : decode cX9_finds 49 = .ok (.iconst 0, 1) := by decide +kernel
theorem dX9_finds_50 : decode cX9_finds 50 = .ok (.bastore, 1) := by decide +kernel
theorem dX9_finds_51 : decode cX9_finds 51 = .ok (.iinc 2 1, 3) := by decide +kernel
theorem dX9_finds_54 : decode cX9_finds 54 = .ok (.goto (-31), 3) := by decide +kernel
theorem dX9_finds_57 : decode cX9_finds 57 = .ok (.iconst 1, 1) := by decide +kernel
theorem dX9_finds_58 : decode cX9_finds 58 = .ok (.istore_n 2, 1) := by decide +kernel
theorem dX9_finds_59 : decode cX9_finds 59 = .ok (.iload_n 2, 1) := by decide +kernel
theorem dX9_finds_60 : decode cX9_finds 60 = .ok (.ifCond .eq 144, 3) := by decide +kernel
theorem dX9_finds_63 : decode cX9_finds 63 = .ok (.iconst 0, 1) := by decide +kernel
theorem dX9_finds_64 : decode cX9_finds 64 = .ok (.istore_n 2, 1) := by decide +kernel
theorem dX9_finds_65 : decode cX9_finds 65 = .ok (.iconst 0, 1) := by decide +kernel
theorem dX9_finds_66 : decode cX9_finds 66 = .ok (.istore_n 3, 1) := by decide +kernel
theorem dX9_finds_67 : decode cX9_finds 67 = .ok (.iload_n 3, 1) := by decide +kernel
theorem dX9_finds_68 : decode cX9_finds 68 = .ok (.aload_n 0, 1) := by decide +kernel
theorem dX9_finds_69 : decode cX9_finds 69 = .ok (.getfield 122, 3) := by decide +kernel
theorem dX9_finds_72 : decode cX9_finds 72 = .ok (.if_icmp .ge 64, 3) := by decide +kernel
theorem dX9_finds_75 : decode cX9_finds 75 = .ok (.aload_n 0, 1) := by decide +kernel
theorem dX9_finds_76 : decode cX9_finds 76 = .ok (.getfield 101, 3) := by decide +kernel
theorem dX9_finds_79 : decode cX9_finds 79 = .ok (.iload_n 3, 1) := by decide +kernel
theorem dX9_finds_80 : decode cX9_finds 80 = .ok (.iaload, 1) := by decide +kernel
theorem dX9_finds_81 : decode cX9_finds 81 = .ok (.istore 4, 2) := by decide +kernel
theorem dX9_finds_83 : decode cX9_finds 83 = .ok (.aload_n 0, 1) := by decide +kernel
theorem dX9_finds_84 : decode cX9_finds 84 = .ok (.getfield 107, 3) := by decide +kernel
theorem dX9_finds_87 : decode cX9_finds 87 = .ok (.aload_n 0, 1) := by decide +kernel
theorem dX9_finds_88 : decode cX9_finds 88 = .ok (.getfield 16, 3) := by decide +kernel
theorem dX9_finds_91 : decode cX9_finds 91 = .ok (.iload_n 3, 1) := by decide +kernel
theorem dX9_finds_92 : decode cX9_finds 92 = .ok (.iaload, 1) := by decide +kernel
theorem dX9_finds_93 : decode cX9_finds 93 = .ok (.baload, 1) := by decide +kernel
theorem dX9_finds_94 : decode cX9_finds 94 = .ok (.ifCond .eq 15, 3) := by decide +kernel
theorem dX9_finds_97 : decode cX9_finds 97 = .ok (.iload 4, 2) := by decide +kernel
theorem dX9_finds_99 : decode cX9_finds 99 = .ok (.iconst 2, 1) := by decide +kernel
theorem dX9_finds_100 : decode cX9_finds 100 = .ok (.if_icmp .eq 9, 3) := by decide +kernel
theorem dX9_finds_103 : decode cX9_finds 103 = .ok (.aload_n 0, 1) := by decide +kernel
theorem dX9_finds_104 : decode cX9_finds 104 = .ok (.iload_n 3, 1) := by decide +kernel
theorem dX9_finds_105 : decode cX9_finds 105 = .ok (.iload_n 1, 1) := by decide +kernel
theorem dX9_finds_106 : decode cX9_finds 106 = .ok (.invokevirtual 240, 3) := by decide +kernel
theorem dX9_finds_109 : decode cX9_finds 109 = .ok (.iload_n 2, 1) := by decide +kernel
theorem dX9_finds_110 : decode cX9_finds 110 = .ok (.ifCond .ne 14, 3) := by decide +kernel
theorem dX9_finds_113 : decode cX9_finds 113 = .ok (.aload_n 0, 1) := by decide +kernel
theorem dX9_finds_114 : decode cX9_finds 114 = .ok (.getfield 101, 3) := by decide +kernel
theorem dX9_finds_117 : decode cX9_finds 117 = .ok (.iload_n 3, 1) := by decide +kernel
theorem dX9_finds_118 : decode cX9_finds 118 = .ok (.iaload, 1) := by decide +kernel
theorem dX9_finds_119 : decode cX9_finds 119 = .ok (.iload 4, 2) := by decide +kernel
theorem dX9_finds_121 : decode cX9_finds 121 = .ok (.if_icmp .eq 7, 3) := by decide +kernel
theorem dX9_finds_124 : decode cX9_finds 124 = .ok (.iconst 1, 1) := by decide +kernel
theorem dX9_finds_125 : decode cX9_finds 125 = .ok (.goto 4, 3) := by decide +kernel
theorem dX9_finds_128 : decode cX9_finds 128 = .ok (.iconst 0, 1) := by decide +kernel
theorem dX9_finds_129 : decode cX9_finds 129 = .ok (.istore_n 2, 1) := by decide +kernel
theorem dX9_finds_130 : decode cX9_finds 130 = .ok (.iinc 3 1, 3) := by decide +kernel
theorem dX9_finds_133 : decode cX9_finds 133 = .ok (.goto (-66), 3) := by decide +kernel
theorem dX9_finds_136 : decode cX9_finds 136 = .ok (.iconst 0, 1) := by decide +kernel
theorem dX9_finds_137 : decode cX9_finds 137 = .ok (.istore_n 3, 1) := by decide +kernel
theorem dX9_finds_138 : decode cX9_finds 138 = .ok (.iload_n 3, 1) := by decide +kernel
theorem dX9_finds_139 : decode cX9_finds 139 = .ok (.aload_n 0, 1) := by decide +kernel
theorem dX9_finds_140 : decode cX9_finds 140 = .ok (.getfield 130, 3) := by decide +kernel
theorem dX9_finds_143 : decode cX9_finds 143 = .ok (.if_icmp .ge 58, 3) := by decide +kernel
theorem dX9_finds_146 : decode cX9_finds 146 = .ok (.iconst 0, 1) := by decide +kernel
theorem dX9_finds_147 : decode cX9_finds 147 = .ok (.istore 4, 2) := by decide +kernel
theorem dX9_finds_149 : decode cX9_finds 149 = .ok (.iload 4, 2) := by decide +kernel
theorem dX9_finds_151 : decode cX9_finds 151 = .ok (.aload_n 0, 1) := by decide +kernel
theorem dX9_finds_152 : decode cX9_finds 152 = .ok (.getfield 130, 3) := by decide +kernel
theorem dX9_finds_155 : decode cX9_finds 155 = .ok (.if_icmp .ge 40, 3) := by decide +kernel
theorem dX9_finds_158 : decode cX9_finds 158 = .ok (.aload_n 0, 1) := by decide +kernel
theorem dX9_finds_159 : decode cX9_finds 159 = .ok (.getfield 107, 3) := by decide +kernel
theorem dX9_finds_162 : decode cX9_finds 162 = .ok (.iload 4, 2) := by decide +kernel
theorem dX9_finds_164 : decode cX9_finds 164 = .ok (.baload, 1) := by decide +kernel
theorem dX9_finds_165 : decode cX9_finds 165 = .ok (.ifCond .ne 24, 3) := by decide +kernel
theorem dX9_finds_168 : decode cX9_finds 168 = .ok (.aload_n 0, 1) := by decide +kernel
theorem dX9_finds_169 : decode cX9_finds 169 = .ok (.iload_n 3, 1) := by decide +kernel
theorem dX9_finds_170 : decode cX9_finds 170 = .ok (.iload 4, 2) := by decide +kernel
theorem dX9_finds_172 : decode cX9_finds 172 = .ok (.iload_n 1, 1) := by decide +kernel
theorem dX9_finds_173 : decode cX9_finds 173 = .ok (.invokevirtual 230, 3) := by decide +kernel
theorem dX9_finds_176 : decode cX9_finds 176 = .ok (.ifCond .eq 13, 3) := by decide +kernel
theorem dX9_finds_179 : decode cX9_finds 179 = .ok (.aload_n 0, 1) := by decide +kernel
theorem dX9_finds_180 : decode cX9_finds 180 = .ok (.getfield 107, 3) := by decide +kernel
theorem dX9_finds_183 : decode cX9_finds 183 = .ok (.iload 4, 2) := by decide +kernel
theorem dX9_finds_185 : decode cX9_finds 185 = .ok (.iconst 1, 1) := by decide +kernel
theorem dX9_finds_186 : decode cX9_finds 186 = .ok (.bastore, 1) := by decide +kernel
theorem dX9_finds_187 : decode cX9_finds 187 = .ok (.iconst 1, 1) := by decide +kernel
theorem dX9_finds_188 : decode cX9_finds 188 = .ok (.istore_n 2, 1) := by decide +kernel
theorem dX9_finds_189 : decode cX9_finds 189 = .ok (.iinc 4 1, 3) := by decide +kernel
theorem dX9_finds_192 : decode cX9_finds 192 = .ok (.goto (-43), 3) := by decide +kernel
theorem dX9_finds_195 : decode cX9_finds 195 = .ok (.iinc 3 1, 3) := by decide +kernel
theorem dX9_finds_198 : decode cX9_finds 198 = .ok (.goto (-60), 3) := by decide +kernel
theorem dX9_finds_201 : decode cX9_finds 201 = .ok (.goto (-142), 3) := by decide +kernel
theorem dX9_finds_204 : decode cX9_finds 204 = .ok (.return_, 1) := by decide +kernel
theorem dX9_those_0 : decode cX9_those 0 = .ok (.iconst 0, 1) := by decide +kernel
theorem dX9_those_1 : decode cX9_those 1 = .ok (.istore_n 2, 1) := by decide +kernel
theorem dX9_those_2 : decode cX9_those 2 = .ok (.iconst 0, 1) := by decide +kernel
theorem dX9_those_3 : decode cX9_those 3 = .ok (.istore_n 3, 1) := by decide +kernel
theorem dX9_those_4 : decode cX9_those 4 = .ok (.iload_n 3, 1) := by decide +kernel
theorem dX9_those_5 : decode cX9_those 5 = .ok (.aload_n 0, 1) := by decide +kernel
theorem dX9_those_6 : decode cX9_those 6 = .ok (.getfield 122, 3) := by decide +kernel
theorem dX9_those_9 : decode cX9_those 9 = .ok (.if_icmp .ge 27, 3) := by decide +kernel
theorem dX9_those_12 : decode cX9_those 12 = .ok (.iload_n 2, 1) := by decide +kernel
theorem dX9_those_13 : decode cX9_those 13 = .ok (.aload_n 0, 1) := by decide +kernel
theorem dX9_those_14 : decode cX9_those 14 = .ok (.getfield 101, 3) := by decide +kernel
theorem dX9_those_17 : decode cX9_those 17 = .ok (.iload_n 3, 1) := by decide +kernel
theorem dX9_those_18 : decode cX9_those 18 = .ok (.iaload, 1) := by decide +kernel
theorem dX9_those_19 : decode cX9_those 19 = .ok (.iload_n 1, 1) := by decide +kernel
theorem dX9_those_20 : decode cX9_those 20 = .ok (.if_icmp .ne 7, 3) := by decide +kernel
theorem dX9_those_23 : decode cX9_those 23 = .ok (.iconst 1, 1) := by decide +kernel
theorem dX9_those_24 : decode cX9_those 24 = .ok (.goto 4, 3) := by decide +kernel
theorem dX9_those_27 : decode cX9_those 27 = .ok (.iconst 0, 1) := by decide +kernel
theorem dX9_those_28 : decode cX9_those 28 = .ok (.iadd, 1) := by decide +kernel
theorem dX9_those_29 : decode cX9_those 29 = .ok (.istore_n 2, 1) := by decide +kernel
theorem dX9_those_30 : decode cX9_those 30 = .ok (.iinc 3 1, 3) := by decide +kernel
theorem dX9_those_33 : decode cX9_those 33 = .ok (.goto (-29), 3) := by decide +kernel
theorem dX9_those_36 : decode cX9_those 36 = .ok (.iload_n 2, 1) := by decide +kernel
theorem dX9_those_37 : decode cX9_those 37 = .ok (.ireturn, 1) := by decide +kernel
theorem dX9_liveBlocks_0 : decode cX9_liveBlocks 0 = .ok (.iconst 0, 1) := by decide +kernel
theorem dX9_liveBlocks_1 : decode cX9_liveBlocks 1 = .ok (.istore_n 1, 1) := by decide +kernel
theorem dX9_liveBlocks_2 : decode cX9_liveBlocks 2 = .ok (.iconst 0, 1) := by decide +kernel
theorem dX9_liveBlocks_3 : decode cX9_liveBlocks 3 = .ok (.istore_n 2, 1) := by decide +kernel
theorem dX9_liveBlocks_4 : decode cX9_liveBlocks 4 = .ok (.iload_n 2, 1) := by decide +kernel
theorem dX9_liveBlocks_5 : decode cX9_liveBlocks 5 = .ok (.aload_n 0, 1) := by decide +kernel
theorem dX9_liveBlocks_6 : decode cX9_liveBlocks 6 = .ok (.getfield 130, 3) := by decide +kernel
theorem dX9_liveBlocks_9 : decode cX9_liveBlocks 9 = .ok (.if_icmp .ge 26, 3) := by decide +kernel
theorem dX9_liveBlocks_12 : decode cX9_liveBlocks 12 = .ok (.iload_n 1, 1) := by decide +kernel
theorem dX9_liveBlocks_13 : decode cX9_liveBlocks 13 = .ok (.aload_n 0, 1) := by decide +kernel
theorem dX9_liveBlocks_14 : decode cX9_liveBlocks 14 = .ok (.getfield 107, 3) := by decide +kernel
theorem dX9_liveBlocks_17 : decode cX9_liveBlocks 17 = .ok (.iload_n 2, 1) := by decide +kernel
theorem dX9_liveBlocks_18 : decode cX9_liveBlocks 18 = .ok (.baload, 1) := by decide +kernel
theorem dX9_liveBlocks_19 : decode cX9_liveBlocks 19 = .ok (.ifCond .eq 7, 3) := by decide +kernel
theorem dX9_liveBlocks_22 : decode cX9_liveBlocks 22 = .ok (.iconst 1, 1) := by decide +kernel
theorem dX9_liveBlocks_23 : decode cX9_liveBlocks 23 = .ok (.goto 4, 3) := by decide +kernel
theorem dX9_liveBlocks_26 : decode cX9_liveBlocks 26 = .ok (.iconst 0, 1) := by decide +kernel
theorem dX9_liveBlocks_27 : decode cX9_liveBlocks 27 = .ok (.iadd, 1) := by decide +kernel
theorem dX9_liveBlocks_28 : decode cX9_liveBlocks 28 = .ok (.istore_n 1, 1) := by decide +kernel
theorem dX9_liveBlocks_29 : decode cX9_liveBlocks 29 = .ok (.iinc 2 1, 3) := by decide +kernel
theorem dX9_liveBlocks_32 : decode cX9_liveBlocks 32 = .ok (.goto (-28), 3) := by decide +kernel
theorem dX9_liveBlocks_35 : decode cX9_liveBlocks 35 = .ok (.iload_n 1, 1) := by decide +kernel
theorem dX9_liveBlocks_36 : decode cX9_liveBlocks 36 = .ok (.ireturn, 1) := by decide +kernel
theorem dX9_tells_0 : decode cX9_tells 0 = .ok (.aload_n 0, 1) := by decide +kernel
theorem dX9_tells_1 : decode cX9_tells 1 = .ok (.iload_n 1, 1) := by decide +kernel
theorem dX9_tells_2 : decode cX9_tells 2 = .ok (.putfield 243, 3) := by decide +kernel
theorem dX9_tells_5 : decode cX9_tells 5 = .ok (.iload_n 2, 1) := by decide +kernel
theorem dX9_tells_6 : decode cX9_tells 6 = .ok (.ireturn, 1) := by decide +kernel
theorem dX9_name_0 : decode cX9_name 0 = .ok (.aload_n 0, 1) := by decide +kernel
theorem dX9_name_1 : decode cX9_name 1 = .ok (.iload_n 1, 1) := by decide +kernel
theorem dX9_name_2 : decode cX9_name 2 = .ok (.invokevirtual 246, 3) := by decide +kernel
theorem dX9_name_5 : decode cX9_name 5 = .ok (.ifCond .eq 13, 3) := by decide +kernel
theorem dX9_name_8 : decode cX9_name 8 = .ok (.iload_n 2, 1) := by decide +kernel
theorem dX9_name_9 : decode cX9_name 9 = .ok (.iconst 0, 1) := by decide +kernel
theorem dX9_name_10 : decode cX9_name 10 = .ok (.bipush 7, 2) := by decide +kernel
theorem dX9_name_12 : decode cX9_name 12 = .ok (.invokestatic 126, 3) := by decide +kernel
theorem dX9_name_15 : decode cX9_name 15 = .ok (.ifCond .ne 5, 3) := by decide +kernel
theorem dX9_name_18 : decode cX9_name 18 = .ok (.iconst (-1), 1) := by decide +kernel
theorem dX9_name_19 : decode cX9_name 19 = .ok (.ireturn, 1) := by decide +kernel
theorem dX9_name_20 : decode cX9_name 20 = .ok (.aload_n 0, 1) := by decide +kernel
theorem dX9_name_21 : decode cX9_name 21 = .ok (.getfield 13, 3) := by decide +kernel
theorem dX9_name_24 : decode cX9_name 24 = .ok (.iload_n 1, 1) := by decide +kernel
theorem dX9_name_25 : decode cX9_name 25 = .ok (.iaload, 1) := by decide +kernel
theorem dX9_name_26 : decode cX9_name 26 = .ok (.iconst 2, 1) := by decide +kernel
theorem dX9_name_27 : decode cX9_name 27 = .ok (.if_icmp .ne 7, 3) := by decide +kernel
theorem dX9_name_30 : decode cX9_name 30 = .ok (.iconst 1, 1) := by decide +kernel
theorem dX9_name_31 : decode cX9_name 31 = .ok (.goto 4, 3) := by decide +kernel
theorem dX9_name_34 : decode cX9_name 34 = .ok (.iconst 0, 1) := by decide +kernel
theorem dX9_name_35 : decode cX9_name 35 = .ok (.istore_n 3, 1) := by decide +kernel
theorem dX9_name_36 : decode cX9_name 36 = .ok (.iload_n 2, 1) := by decide +kernel
theorem dX9_name_37 : decode cX9_name 37 = .ok (.tableswitch 114 0 5 #[39, 46, 53, 73, 89, 105], 39) := by decide +kernel
theorem dX9_name_76 : decode cX9_name 76 = .ok (.aload_n 0, 1) := by decide +kernel
theorem dX9_name_77 : decode cX9_name 77 = .ok (.getfield 16, 3) := by decide +kernel
theorem dX9_name_80 : decode cX9_name 80 = .ok (.iload_n 1, 1) := by decide +kernel
theorem dX9_name_81 : decode cX9_name 81 = .ok (.iaload, 1) := by decide +kernel
theorem dX9_name_82 : decode cX9_name 82 = .ok (.ireturn, 1) := by decide +kernel
theorem dX9_name_83 : decode cX9_name 83 = .ok (.aload_n 0, 1) := by decide +kernel
theorem dX9_name_84 : decode cX9_name 84 = .ok (.getfield 13, 3) := by decide +kernel
theorem dX9_name_87 : decode cX9_name 87 = .ok (.iload_n 1, 1) := by decide +kernel
theorem dX9_name_88 : decode cX9_name 88 = .ok (.iaload, 1) := by decide +kernel
theorem dX9_name_89 : decode cX9_name 89 = .ok (.ireturn, 1) := by decide +kernel
theorem dX9_name_90 : decode cX9_name 90 = .ok (.iload_n 3, 1) := by decide +kernel
theorem dX9_name_91 : decode cX9_name 91 = .ok (.ifCond .eq 12, 3) := by decide +kernel
theorem dX9_name_94 : decode cX9_name 94 = .ok (.aload_n 0, 1) := by decide +kernel
theorem dX9_name_95 : decode cX9_name 95 = .ok (.getfield 19, 3) := by decide +kernel
theorem dX9_name_98 : decode cX9_name 98 = .ok (.iload_n 1, 1) := by decide +kernel
theorem dX9_name_99 : decode cX9_name 99 = .ok (.iaload, 1) := by decide +kernel
theorem dX9_name_100 : decode cX9_name 100 = .ok (.goto 9, 3) := by decide +kernel
theorem dX9_name_103 : decode cX9_name 103 = .ok (.aload_n 0, 1) := by decide +kernel
theorem dX9_name_104 : decode cX9_name 104 = .ok (.getfield 28, 3) := by decide +kernel
theorem dX9_name_107 : decode cX9_name 107 = .ok (.iload_n 1, 1) := by decide +kernel
theorem dX9_name_108 : decode cX9_name 108 = .ok (.iaload, 1) := by decide +kernel
theorem dX9_name_109 : decode cX9_name 109 = .ok (.ireturn, 1) := by decide +kernel
theorem dX9_name_110 : decode cX9_name 110 = .ok (.iload_n 3, 1) := by decide +kernel
theorem dX9_name_111 : decode cX9_name 111 = .ok (.ifCond .eq 12, 3) := by decide +kernel
theorem dX9_name_114 : decode cX9_name 114 = .ok (.aload_n 0, 1) := by decide +kernel
theorem dX9_name_115 : decode cX9_name 115 = .ok (.getfield 22, 3) := by decide +kernel
theorem dX9_name_118 : decode cX9_name 118 = .ok (.iload_n 1, 1) := by decide +kernel
theorem dX9_name_119 : decode cX9_name 119 = .ok (.iaload, 1) := by decide +kernel
theorem dX9_name_120 : decode cX9_name 120 = .ok (.goto 5, 3) := by decide +kernel
theorem dX9_name_123 : decode cX9_name 123 = .ok (.bipush (-9), 2) := by decide +kernel
theorem dX9_name_125 : decode cX9_name 125 = .ok (.ireturn, 1) := by decide +kernel
theorem dX9_name_126 : decode cX9_name 126 = .ok (.iload_n 3, 1) := by decide +kernel
theorem dX9_name_127 : decode cX9_name 127 = .ok (.ifCond .eq 12, 3) := by decide +kernel
theorem dX9_name_130 : decode cX9_name 130 = .ok (.aload_n 0, 1) := by decide +kernel
theorem dX9_name_131 : decode cX9_name 131 = .ok (.getfield 25, 3) := by decide +kernel
theorem dX9_name_134 : decode cX9_name 134 = .ok (.iload_n 1, 1) := by decide +kernel
theorem dX9_name_135 : decode cX9_name 135 = .ok (.iaload, 1) := by decide +kernel
theorem dX9_name_136 : decode cX9_name 136 = .ok (.goto 5, 3) := by decide +kernel
theorem dX9_name_139 : decode cX9_name 139 = .ok (.bipush (-9), 2) := by decide +kernel
theorem dX9_name_141 : decode cX9_name 141 = .ok (.ireturn, 1) := by decide +kernel
theorem dX9_name_142 : decode cX9_name 142 = .ok (.aload_n 0, 1) := by decide +kernel
theorem dX9_name_143 : decode cX9_name 143 = .ok (.getfield 49, 3) := by decide +kernel
theorem dX9_name_146 : decode cX9_name 146 = .ok (.iconst 0, 1) := by decide +kernel
theorem dX9_name_147 : decode cX9_name 147 = .ok (.iload_n 1, 1) := by decide +kernel
theorem dX9_name_148 : decode cX9_name 148 = .ok (.iadd, 1) := by decide +kernel
theorem dX9_name_149 : decode cX9_name 149 = .ok (.iaload, 1) := by decide +kernel
theorem dX9_name_150 : decode cX9_name 150 = .ok (.ireturn, 1) := by decide +kernel
theorem dX9_name_151 : decode cX9_name 151 = .ok (.aload_n 0, 1) := by decide +kernel
theorem dX9_name_152 : decode cX9_name 152 = .ok (.iload_n 2, 1) := by decide +kernel
theorem dX9_name_153 : decode cX9_name 153 = .ok (.bipush 7, 2) := by decide +kernel
theorem dX9_name_155 : decode cX9_name 155 = .ok (.if_icmp .ne 7, 3) := by decide +kernel
theorem dX9_name_158 : decode cX9_name 158 = .ok (.iconst 1, 1) := by decide +kernel
theorem dX9_name_159 : decode cX9_name 159 = .ok (.goto 4, 3) := by decide +kernel
theorem dX9_name_162 : decode cX9_name 162 = .ok (.iconst 0, 1) := by decide +kernel
theorem dX9_name_163 : decode cX9_name 163 = .ok (.invokevirtual 249, 3) := by decide +kernel
theorem dX9_name_166 : decode cX9_name 166 = .ok (.aload_n 0, 1) := by decide +kernel
theorem dX9_name_167 : decode cX9_name 167 = .ok (.getfield 101, 3) := by decide +kernel
theorem dX9_name_170 : decode cX9_name 170 = .ok (.iload_n 1, 1) := by decide +kernel
theorem dX9_name_171 : decode cX9_name 171 = .ok (.iaload, 1) := by decide +kernel
theorem dX9_name_172 : decode cX9_name 172 = .ok (.ireturn, 1) := by decide +kernel
theorem dX9_found_0 : decode cX9_found 0 = .ok (.aload_n 0, 1) := by decide +kernel
theorem dX9_found_1 : decode cX9_found 1 = .ok (.iload_n 1, 1) := by decide +kernel
theorem dX9_found_2 : decode cX9_found 2 = .ok (.invokevirtual 246, 3) := by decide +kernel
theorem dX9_found_5 : decode cX9_found 5 = .ok (.ifCond .ne 5, 3) := by decide +kernel
theorem dX9_found_8 : decode cX9_found 8 = .ok (.iconst (-1), 1) := by decide +kernel
theorem dX9_found_9 : decode cX9_found 9 = .ok (.ireturn, 1) := by decide +kernel
theorem dX9_found_10 : decode cX9_found 10 = .ok (.aload_n 0, 1) := by decide +kernel
theorem dX9_found_11 : decode cX9_found 11 = .ok (.iconst 0, 1) := by decide +kernel
theorem dX9_found_12 : decode cX9_found 12 = .ok (.invokevirtual 249, 3) := by decide +kernel
theorem dX9_found_15 : decode cX9_found 15 = .ok (.aload_n 0, 1) := by decide +kernel
theorem dX9_found_16 : decode cX9_found 16 = .ok (.getfield 101, 3) := by decide +kernel
theorem dX9_found_19 : decode cX9_found 19 = .ok (.iload_n 1, 1) := by decide +kernel
theorem dX9_found_20 : decode cX9_found 20 = .ok (.iaload, 1) := by decide +kernel
theorem dX9_found_21 : decode cX9_found 21 = .ok (.iconst 1, 1) := by decide +kernel
theorem dX9_found_22 : decode cX9_found 22 = .ok (.if_icmp .ne 17, 3) := by decide +kernel
theorem dX9_found_25 : decode cX9_found 25 = .ok (.aload_n 0, 1) := by decide +kernel
theorem dX9_found_26 : decode cX9_found 26 = .ok (.aload_n 0, 1) := by decide +kernel
theorem dX9_found_27 : decode cX9_found 27 = .ok (.getfield 104, 3) := by decide +kernel
theorem dX9_found_30 : decode cX9_found 30 = .ok (.iload_n 1, 1) := by decide +kernel
theorem dX9_found_31 : decode cX9_found 31 = .ok (.iaload, 1) := by decide +kernel
theorem dX9_found_32 : decode cX9_found 32 = .ok (.iconst 1, 1) := by decide +kernel
theorem dX9_found_33 : decode cX9_found 33 = .ok (.invokevirtual 253, 3) := by decide +kernel
theorem dX9_found_36 : decode cX9_found 36 = .ok (.goto 5, 3) := by decide +kernel
theorem dX9_found_39 : decode cX9_found 39 = .ok (.bipush (-2), 2) := by decide +kernel
theorem dX9_found_41 : decode cX9_found 41 = .ok (.ireturn, 1) := by decide +kernel
theorem dX9_block_0 : decode cX9_block 0 = .ok (.aload_n 0, 1) := by decide +kernel
theorem dX9_block_1 : decode cX9_block 1 = .ok (.iload_n 1, 1) := by decide +kernel
theorem dX9_block_2 : decode cX9_block 2 = .ok (.invokevirtual 257, 3) := by decide +kernel
theorem dX9_block_5 : decode cX9_block 5 = .ok (.ifCond .eq 13, 3) := by decide +kernel
theorem dX9_block_8 : decode cX9_block 8 = .ok (.iload_n 2, 1) := by decide +kernel
theorem dX9_block_9 : decode cX9_block 9 = .ok (.iconst 0, 1) := by decide +kernel
theorem dX9_block_10 : decode cX9_block 10 = .ok (.bipush 8, 2) := by decide +kernel
theorem dX9_block_12 : decode cX9_block 12 = .ok (.invokestatic 126, 3) := by decide +kernel
theorem dX9_block_15 : decode cX9_block 15 = .ok (.ifCond .ne 5, 3) := by decide +kernel
theorem dX9_block_18 : decode cX9_block 18 = .ok (.iconst (-1), 1) := by decide +kernel
theorem dX9_block_19 : decode cX9_block 19 = .ok (.ireturn, 1) := by decide +kernel
theorem dX9_block_20 : decode cX9_block 20 = .ok (.aload_n 0, 1) := by decide +kernel
theorem dX9_block_21 : decode cX9_block 21 = .ok (.iconst 0, 1) := by decide +kernel
theorem dX9_block_22 : decode cX9_block 22 = .ok (.invokevirtual 249, 3) := by decide +kernel
theorem dX9_block_25 : decode cX9_block 25 = .ok (.iload_n 2, 1) := by decide +kernel
theorem dX9_block_26 : decode cX9_block 26 = .ok (.tableswitch 126 0 7 #[46, 61, 77, 84, 91, 91, 107, 107], 46) := by decide +kernel
theorem dX9_block_72 : decode cX9_block 72 = .ok (.aload_n 0, 1) := by decide +kernel
theorem dX9_block_73 : decode cX9_block 73 = .ok (.getfield 107, 3) := by decide +kernel
theorem dX9_block_76 : decode cX9_block 76 = .ok (.iload_n 1, 1) := by decide +kernel
theorem dX9_block_77 : decode cX9_block 77 = .ok (.baload, 1) := by decide +kernel
theorem dX9_block_78 : decode cX9_block 78 = .ok (.ifCond .eq 7, 3) := by decide +kernel
theorem dX9_block_81 : decode cX9_block 81 = .ok (.iconst 1, 1) := by decide +kernel
theorem dX9_block_82 : decode cX9_block 82 = .ok (.goto 4, 3) := by decide +kernel
theorem dX9_block_85 : decode cX9_block 85 = .ok (.iconst 0, 1) := by decide +kernel
theorem dX9_block_86 : decode cX9_block 86 = .ok (.ireturn, 1) := by decide +kernel
theorem dX9_block_87 : decode cX9_block 87 = .ok (.aload_n 0, 1) := by decide +kernel
theorem dX9_block_88 : decode cX9_block 88 = .ok (.getfield 37, 3) := by decide +kernel
theorem dX9_block_91 : decode cX9_block 91 = .ok (.iload_n 1, 1) := by decide +kernel
theorem dX9_block_92 : decode cX9_block 92 = .ok (.iconst 1, 1) := by decide +kernel
theorem dX9_block_93 : decode cX9_block 93 = .ok (.iadd, 1) := by decide +kernel
theorem dX9_block_94 : decode cX9_block 94 = .ok (.iaload, 1) := by decide +kernel
theorem dX9_block_95 : decode cX9_block 95 = .ok (.aload_n 0, 1) := by decide +kernel
theorem dX9_block_96 : decode cX9_block 96 = .ok (.getfield 37, 3) := by decide +kernel
theorem dX9_block_99 : decode cX9_block 99 = .ok (.iload_n 1, 1) := by decide +kernel
theorem dX9_block_100 : decode cX9_block 100 = .ok (.iaload, 1) := by decide +kernel
theorem dX9_block_101 : decode cX9_block 101 = .ok (.isub, 1) := by decide +kernel
theorem dX9_block_102 : decode cX9_block 102 = .ok (.ireturn, 1) := by decide +kernel
theorem dX9_block_103 : decode cX9_block 103 = .ok (.aload_n 0, 1) := by decide +kernel
theorem dX9_block_104 : decode cX9_block 104 = .ok (.getfield 40, 3) := by decide +kernel
theorem dX9_block_107 : decode cX9_block 107 = .ok (.iload_n 1, 1) := by decide +kernel
theorem dX9_block_108 : decode cX9_block 108 = .ok (.iaload, 1) := by decide +kernel
theorem dX9_block_109 : decode cX9_block 109 = .ok (.ireturn, 1) := by decide +kernel
theorem dX9_block_110 : decode cX9_block 110 = .ok (.aload_n 0, 1) := by decide +kernel
theorem dX9_block_111 : decode cX9_block 111 = .ok (.getfield 43, 3) := by decide +kernel
theorem dX9_block_114 : decode cX9_block 114 = .ok (.iload_n 1, 1) := by decide +kernel
theorem dX9_block_115 : decode cX9_block 115 = .ok (.iaload, 1) := by decide +kernel
theorem dX9_block_116 : decode cX9_block 116 = .ok (.ireturn, 1) := by decide +kernel
theorem dX9_block_117 : decode cX9_block 117 = .ok (.aload_n 0, 1) := by decide +kernel
theorem dX9_block_118 : decode cX9_block 118 = .ok (.getfield 49, 3) := by decide +kernel
theorem dX9_block_121 : decode cX9_block 121 = .ok (.bipush 96, 2) := by decide +kernel
theorem dX9_block_123 : decode cX9_block 123 = .ok (.iconst 2, 1) := by decide +kernel
theorem dX9_block_124 : decode cX9_block 124 = .ok (.iload_n 1, 1) := by decide +kernel
theorem dX9_block_125 : decode cX9_block 125 = .ok (.imul, 1) := by decide +kernel
theorem dX9_block_126 : decode cX9_block 126 = .ok (.iadd, 1) := by decide +kernel
theorem dX9_block_127 : decode cX9_block 127 = .ok (.iload_n 2, 1) := by decide +kernel
theorem dX9_block_128 : decode cX9_block 128 = .ok (.iadd, 1) := by decide +kernel
theorem dX9_block_129 : decode cX9_block 129 = .ok (.iconst 4, 1) := by decide +kernel
theorem dX9_block_130 : decode cX9_block 130 = .ok (.isub, 1) := by decide +kernel
theorem dX9_block_131 : decode cX9_block 131 = .ok (.iaload, 1) := by decide +kernel
theorem dX9_block_132 : decode cX9_block 132 = .ok (.ireturn, 1) := by decide +kernel
theorem dX9_block_133 : decode cX9_block 133 = .ok (.aload_n 0, 1) := by decide +kernel
theorem dX9_block_134 : decode cX9_block 134 = .ok (.iload_n 1, 1) := by decide +kernel
theorem dX9_block_135 : decode cX9_block 135 = .ok (.iload_n 2, 1) := by decide +kernel
theorem dX9_block_136 : decode cX9_block 136 = .ok (.bipush 6, 2) := by decide +kernel
theorem dX9_block_138 : decode cX9_block 138 = .ok (.isub, 1) := by decide +kernel
theorem dX9_block_139 : decode cX9_block 139 = .ok (.iconst 0, 1) := by decide +kernel
theorem dX9_block_140 : decode cX9_block 140 = .ok (.invokevirtual 222, 3) := by decide +kernel
theorem dX9_block_143 : decode cX9_block 143 = .ok (.ifCond .eq 7, 3) := by decide +kernel
theorem dX9_block_146 : decode cX9_block 146 = .ok (.iconst 1, 1) := by decide +kernel
theorem dX9_block_147 : decode cX9_block 147 = .ok (.goto 4, 3) := by decide +kernel
theorem dX9_block_150 : decode cX9_block 150 = .ok (.iconst 0, 1) := by decide +kernel
theorem dX9_block_151 : decode cX9_block 151 = .ok (.ireturn, 1) := by decide +kernel
theorem dX9_block_152 : decode cX9_block 152 = .ok (.aload_n 0, 1) := by decide +kernel
theorem dX9_block_153 : decode cX9_block 153 = .ok (.getfield 46, 3) := by decide +kernel
theorem dX9_block_156 : decode cX9_block 156 = .ok (.iload_n 1, 1) := by decide +kernel
theorem dX9_block_157 : decode cX9_block 157 = .ok (.iaload, 1) := by decide +kernel
theorem dX9_block_158 : decode cX9_block 158 = .ok (.ireturn, 1) := by decide +kernel
theorem dX9_notes_0 : decode cX9_notes 0 = .ok (.aload_n 0, 1) := by decide +kernel
theorem dX9_notes_1 : decode cX9_notes 1 = .ok (.getfield 216, 3) := by decide +kernel
theorem dX9_notes_4 : decode cX9_notes 4 = .ok (.bipush 10, 2) := by decide +kernel
theorem dX9_notes_6 : decode cX9_notes 6 = .ok (.if_icmp .ne 30, 3) := by decide +kernel
theorem dX9_notes_9 : decode cX9_notes 9 = .ok (.aload_n 0, 1) := by decide +kernel
theorem dX9_notes_10 : decode cX9_notes 10 = .ok (.getfield 52, 3) := by decide +kernel
theorem dX9_notes_13 : decode cX9_notes 13 = .ok (.bipush 112, 2) := by decide +kernel
theorem dX9_notes_15 : decode cX9_notes 15 = .ok (.aload_n 0, 1) := by decide +kernel
theorem dX9_notes_16 : decode cX9_notes 16 = .ok (.getfield 52, 3) := by decide +kernel
theorem dX9_notes_19 : decode cX9_notes 19 = .ok (.iconst 0, 1) := by decide +kernel
theorem dX9_notes_20 : decode cX9_notes 20 = .ok (.sipush 1008, 3) := by decide +kernel
theorem dX9_notes_23 : decode cX9_notes 23 = .ok (.invokestatic 212, 3) := by decide +kernel
theorem dX9_notes_26 : decode cX9_notes 26 = .ok (.aload_n 0, 1) := by decide +kernel
theorem dX9_notes_27 : decode cX9_notes 27 = .ok (.dup, 1) := by decide +kernel
theorem dX9_notes_28 : decode cX9_notes 28 = .ok (.getfield 216, 3) := by decide +kernel
theorem dX9_notes_31 : decode cX9_notes 31 = .ok (.iconst 1, 1) := by decide +kernel
theorem dX9_notes_32 : decode cX9_notes 32 = .ok (.isub, 1) := by decide +kernel
theorem dX9_notes_33 : decode cX9_notes 33 = .ok (.putfield 216, 3) := by decide +kernel
theorem dX9_notes_36 : decode cX9_notes 36 = .ok (.aload_n 0, 1) := by decide +kernel
theorem dX9_notes_37 : decode cX9_notes 37 = .ok (.getfield 49, 3) := by decide +kernel
theorem dX9_notes_40 : decode cX9_notes 40 = .ok (.iconst 0, 1) := by decide +kernel
theorem dX9_notes_41 : decode cX9_notes 41 = .ok (.aload_n 0, 1) := by decide +kernel
theorem dX9_notes_42 : decode cX9_notes 42 = .ok (.getfield 52, 3) := by decide +kernel
theorem dX9_notes_45 : decode cX9_notes 45 = .ok (.bipush 112, 2) := by decide +kernel
theorem dX9_notes_47 : decode cX9_notes 47 = .ok (.aload_n 0, 1) := by decide +kernel
theorem dX9_notes_48 : decode cX9_notes 48 = .ok (.getfield 216, 3) := by decide +kernel
theorem dX9_notes_51 : decode cX9_notes 51 = .ok (.imul, 1) := by decide +kernel
theorem dX9_notes_52 : decode cX9_notes 52 = .ok (.bipush 112, 2) := by decide +kernel
theorem dX9_notes_54 : decode cX9_notes 54 = .ok (.invokestatic 212, 3) := by decide +kernel
theorem dX9_notes_57 : decode cX9_notes 57 = .ok (.aload_n 0, 1) := by decide +kernel
theorem dX9_notes_58 : decode cX9_notes 58 = .ok (.dup, 1) := by decide +kernel
theorem dX9_notes_59 : decode cX9_notes 59 = .ok (.getfield 216, 3) := by decide +kernel
theorem dX9_notes_62 : decode cX9_notes 62 = .ok (.iconst 1, 1) := by decide +kernel
theorem dX9_notes_63 : decode cX9_notes 63 = .ok (.iadd, 1) := by decide +kernel
theorem dX9_notes_64 : decode cX9_notes 64 = .ok (.putfield 216, 3) := by decide +kernel
theorem dX9_notes_67 : decode cX9_notes 67 = .ok (.return_, 1) := by decide +kernel
theorem dX9_isMade_0 : decode cX9_isMade 0 = .ok (.aload_n 0, 1) := by decide +kernel
theorem dX9_isMade_1 : decode cX9_isMade 1 = .ok (.iload_n 1, 1) := by decide +kernel
theorem dX9_isMade_2 : decode cX9_isMade 2 = .ok (.invokevirtual 246, 3) := by decide +kernel
theorem dX9_isMade_5 : decode cX9_isMade 5 = .ok (.ifCond .eq 17, 3) := by decide +kernel
theorem dX9_isMade_8 : decode cX9_isMade 8 = .ok (.aload_n 0, 1) := by decide +kernel
theorem dX9_isMade_9 : decode cX9_isMade 9 = .ok (.getfield 13, 3) := by decide +kernel
theorem dX9_isMade_12 : decode cX9_isMade 12 = .ok (.iload_n 1, 1) := by decide +kernel
theorem dX9_isMade_13 : decode cX9_isMade 13 = .ok (.iaload, 1) := by decide +kernel
theorem dX9_isMade_14 : decode cX9_isMade 14 = .ok (.iload_n 2, 1) := by decide +kernel
theorem dX9_isMade_15 : decode cX9_isMade 15 = .ok (.if_icmp .ne 7, 3) := by decide +kernel
theorem dX9_isMade_18 : decode cX9_isMade 18 = .ok (.iconst 1, 1) := by decide +kernel
theorem dX9_isMade_19 : decode cX9_isMade 19 = .ok (.goto 4, 3) := by decide +kernel
theorem dX9_isMade_22 : decode cX9_isMade 22 = .ok (.iconst 0, 1) := by decide +kernel
theorem dX9_isMade_23 : decode cX9_isMade 23 = .ok (.ireturn, 1) := by decide +kernel
theorem dX9_knows_0 : decode cX9_knows 0 = .ok (.aload_n 0, 1) := by decide +kernel
theorem dX9_knows_1 : decode cX9_knows 1 = .ok (.iload_n 1, 1) := by decide +kernel
theorem dX9_knows_2 : decode cX9_knows 2 = .ok (.iconst 1, 1) := by decide +kernel
theorem dX9_knows_3 : decode cX9_knows 3 = .ok (.invokevirtual 260, 3) := by decide +kernel
theorem dX9_knows_6 : decode cX9_knows 6 = .ok (.ifCond .ne 5, 3) := by decide +kernel
theorem dX9_knows_9 : decode cX9_knows 9 = .ok (.iconst (-1), 1) := by decide +kernel
theorem dX9_knows_10 : decode cX9_knows 10 = .ok (.ireturn, 1) := by decide +kernel
theorem dX9_knows_11 : decode cX9_knows 11 = .ok (.aload_n 0, 1) := by decide +kernel
theorem dX9_knows_12 : decode cX9_knows 12 = .ok (.invokevirtual 263, 3) := by decide +kernel
theorem dX9_knows_15 : decode cX9_knows 15 = .ok (.aload_n 0, 1) := by decide +kernel
theorem dX9_knows_16 : decode cX9_knows 16 = .ok (.getfield 49, 3) := by decide +kernel
theorem dX9_knows_19 : decode cX9_knows 19 = .ok (.iconst 0, 1) := by decide +kernel
theorem dX9_knows_20 : decode cX9_knows 20 = .ok (.iload_n 1, 1) := by decide +kernel
theorem dX9_knows_21 : decode cX9_knows 21 = .ok (.iadd, 1) := by decide +kernel
theorem dX9_knows_22 : decode cX9_knows 22 = .ok (.iconst 1, 1) := by decide +kernel
theorem dX9_knows_23 : decode cX9_knows 23 = .ok (.iastore, 1) := by decide +kernel
theorem dX9_knows_24 : decode cX9_knows 24 = .ok (.aload_n 0, 1) := by decide +kernel
theorem dX9_knows_25 : decode cX9_knows 25 = .ok (.getfield 49, 3) := by decide +kernel
theorem dX9_knows_28 : decode cX9_knows 28 = .ok (.bipush 24, 2) := by decide +kernel
theorem dX9_knows_30 : decode cX9_knows 30 = .ok (.iload_n 1, 1) := by decide +kernel
theorem dX9_knows_31 : decode cX9_knows 31 = .ok (.iadd, 1) := by decide +kernel
theorem dX9_knows_32 : decode cX9_knows 32 = .ok (.iload_n 2, 1) := by decide +kernel
theorem dX9_knows_33 : decode cX9_knows 33 = .ok (.iastore, 1) := by decide +kernel
theorem dX9_knows_34 : decode cX9_knows 34 = .ok (.aload_n 0, 1) := by decide +kernel
theorem dX9_knows_35 : decode cX9_knows 35 = .ok (.iconst 0, 1) := by decide +kernel
theorem dX9_knows_36 : decode cX9_knows 36 = .ok (.invokevirtual 249, 3) := by decide +kernel
theorem dX9_knows_39 : decode cX9_knows 39 = .ok (.aload_n 0, 1) := by decide +kernel
theorem dX9_knows_40 : decode cX9_knows 40 = .ok (.iconst 1, 1) := by decide +kernel
theorem dX9_knows_41 : decode cX9_knows 41 = .ok (.invokevirtual 266, 3) := by decide +kernel
theorem dX9_knows_44 : decode cX9_knows 44 = .ok (.ireturn, 1) := by decide +kernel
theorem dX9_forgets_0 : decode cX9_forgets 0 = .ok (.aload_n 0, 1) := by decide +kernel
theorem dX9_forgets_1 : decode cX9_forgets 1 = .ok (.iload_n 1, 1) := by decide +kernel
theorem dX9_forgets_2 : decode cX9_forgets 2 = .ok (.iconst 1, 1) := by decide +kernel
theorem dX9_forgets_3 : decode cX9_forgets 3 = .ok (.invokevirtual 260, 3) := by decide +kernel
theorem dX9_forgets_6 : decode cX9_forgets 6 = .ok (.ifCond .ne 5, 3) := by decide +kernel
theorem dX9_forgets_9 : decode cX9_forgets 9 = .ok (.iconst (-1), 1) := by decide +kernel
theorem dX9_forgets_10 : decode cX9_forgets 10 = .ok (.ireturn, 1) := by decide +kernel
theorem dX9_forgets_11 : decode cX9_forgets 11 = .ok (.aload_n 0, 1) := by decide +kernel
theorem dX9_forgets_12 : decode cX9_forgets 12 = .ok (.getfield 49, 3) := by decide +kernel
theorem dX9_forgets_15 : decode cX9_forgets 15 = .ok (.iconst 0, 1) := by decide +kernel
theorem dX9_forgets_16 : decode cX9_forgets 16 = .ok (.iload_n 1, 1) := by decide +kernel
theorem dX9_forgets_17 : decode cX9_forgets 17 = .ok (.iadd, 1) := by decide +kernel
theorem dX9_forgets_18 : decode cX9_forgets 18 = .ok (.iaload, 1) := by decide +kernel
theorem dX9_forgets_19 : decode cX9_forgets 19 = .ok (.ifCond .ne 6, 3) := by decide +kernel
theorem dX9_forgets_22 : decode cX9_forgets 22 = .ok (.bipush (-2), 2) := by decide +kernel
theorem dX9_forgets_24 : decode cX9_forgets 24 = .ok (.ireturn, 1) := by decide +kernel
theorem dX9_forgets_25 : decode cX9_forgets 25 = .ok (.aload_n 0, 1) := by decide +kernel
theorem dX9_forgets_26 : decode cX9_forgets 26 = .ok (.invokevirtual 263, 3) := by decide +kernel
theorem dX9_forgets_29 : decode cX9_forgets 29 = .ok (.aload_n 0, 1) := by decide +kernel
theorem dX9_forgets_30 : decode cX9_forgets 30 = .ok (.getfield 49, 3) := by decide +kernel
theorem dX9_forgets_33 : decode cX9_forgets 33 = .ok (.iconst 0, 1) := by decide +kernel
theorem dX9_forgets_34 : decode cX9_forgets 34 = .ok (.iload_n 1, 1) := by decide +kernel
theorem dX9_forgets_35 : decode cX9_forgets 35 = .ok (.iadd, 1) := by decide +kernel
theorem dX9_forgets_36 : decode cX9_forgets 36 = .ok (.iconst 0, 1) := by decide +kernel
theorem dX9_forgets_37 : decode cX9_forgets 37 = .ok (.iastore, 1) := by decide +kernel
theorem dX9_forgets_38 : decode cX9_forgets 38 = .ok (.aload_n 0, 1) := by decide +kernel
theorem dX9_forgets_39 : decode cX9_forgets 39 = .ok (.iconst 0, 1) := by decide +kernel
theorem dX9_forgets_40 : decode cX9_forgets 40 = .ok (.invokevirtual 249, 3) := by decide +kernel
theorem dX9_forgets_43 : decode cX9_forgets 43 = .ok (.aload_n 0, 1) := by decide +kernel
theorem dX9_forgets_44 : decode cX9_forgets 44 = .ok (.iconst 1, 1) := by decide +kernel
theorem dX9_forgets_45 : decode cX9_forgets 45 = .ok (.invokevirtual 266, 3) := by decide +kernel
theorem dX9_forgets_48 : decode cX9_forgets 48 = .ok (.ireturn, 1) := by decide +kernel
theorem dX9_gives_0 : decode cX9_gives 0 = .ok (.aload_n 0, 1) := by decide +kernel
theorem dX9_gives_1 : decode cX9_gives 1 = .ok (.iload_n 1, 1) := by decide +kernel
theorem dX9_gives_2 : decode cX9_gives 2 = .ok (.iconst 1, 1) := by decide +kernel
theorem dX9_gives_3 : decode cX9_gives 3 = .ok (.invokevirtual 260, 3) := by decide +kernel
theorem dX9_gives_6 : decode cX9_gives 6 = .ok (.ifCond .ne 5, 3) := by decide +kernel
theorem dX9_gives_9 : decode cX9_gives 9 = .ok (.iconst (-1), 1) := by decide +kernel
theorem dX9_gives_10 : decode cX9_gives 10 = .ok (.ireturn, 1) := by decide +kernel
theorem dX9_gives_11 : decode cX9_gives 11 = .ok (.aload_n 0, 1) := by decide +kernel
theorem dX9_gives_12 : decode cX9_gives 12 = .ok (.invokevirtual 263, 3) := by decide +kernel
theorem dX9_gives_15 : decode cX9_gives 15 = .ok (.aload_n 0, 1) := by decide +kernel
theorem dX9_gives_16 : decode cX9_gives 16 = .ok (.getfield 49, 3) := by decide +kernel
theorem dX9_gives_19 : decode cX9_gives 19 = .ok (.bipush 48, 2) := by decide +kernel
theorem dX9_gives_21 : decode cX9_gives 21 = .ok (.iload_n 1, 1) := by decide +kernel
theorem dX9_gives_22 : decode cX9_gives 22 = .ok (.iadd, 1) := by decide +kernel
theorem dX9_gives_23 : decode cX9_gives 23 = .ok (.iaload, 1) := by decide +kernel
theorem dX9_gives_24 : decode cX9_gives 24 = .ok (.istore_n 3, 1) := by decide +kernel
theorem dX9_gives_25 : decode cX9_gives 25 = .ok (.aload_n 0, 1) := by decide +kernel
theorem dX9_gives_26 : decode cX9_gives 26 = .ok (.getfield 49, 3) := by decide +kernel
theorem dX9_gives_29 : decode cX9_gives 29 = .ok (.bipush 48, 2) := by decide +kernel
theorem dX9_gives_31 : decode cX9_gives 31 = .ok (.iload_n 1, 1) := by decide +kernel
theorem dX9_gives_32 : decode cX9_gives 32 = .ok (.iadd, 1) := by decide +kernel
theorem dX9_gives_33 : decode cX9_gives 33 = .ok (.iload_n 2, 1) := by decide +kernel
theorem dX9_gives_34 : decode cX9_gives 34 = .ok (.iastore, 1) := by decide +kernel
theorem dX9_gives_35 : decode cX9_gives 35 = .ok (.aload_n 0, 1) := by decide +kernel
theorem dX9_gives_36 : decode cX9_gives 36 = .ok (.iload_n 3, 1) := by decide +kernel
theorem dX9_gives_37 : decode cX9_gives 37 = .ok (.iconst 1, 1) := by decide +kernel
theorem dX9_gives_38 : decode cX9_gives 38 = .ok (.invokevirtual 253, 3) := by decide +kernel
theorem dX9_gives_41 : decode cX9_gives 41 = .ok (.ireturn, 1) := by decide +kernel
theorem dX9_patches_0 : decode cX9_patches 0 = .ok (.aload_n 0, 1) := by decide +kernel
theorem dX9_patches_1 : decode cX9_patches 1 = .ok (.iload_n 1, 1) := by decide +kernel
theorem dX9_patches_2 : decode cX9_patches 2 = .ok (.iconst 0, 1) := by decide +kernel
theorem dX9_patches_3 : decode cX9_patches 3 = .ok (.invokevirtual 260, 3) := by decide +kernel
theorem dX9_patches_6 : decode cX9_patches 6 = .ok (.ifCond .eq 14, 3) := by decide +kernel
theorem dX9_patches_9 : decode cX9_patches 9 = .ok (.iload_n 2, 1) := by decide +kernel
theorem dX9_patches_10 : decode cX9_patches 10 = .ok (.iconst 0, 1) := by decide +kernel
theorem dX9_patches_11 : decode cX9_patches 11 = .ok (.sipush 999, 3) := by decide +kernel
theorem dX9_patches_14 : decode cX9_patches 14 = .ok (.invokestatic 126, 3) := by decide +kernel
theorem dX9_patches_17 : decode cX9_patches 17 = .ok (.ifCond .ne 5, 3) := by decide +kernel
theorem dX9_patches_20 : decode cX9_patches 20 = .ok (.iconst (-1), 1) := by decide +kernel
theorem dX9_patches_21 : decode cX9_patches 21 = .ok (.ireturn, 1) := by decide +kernel
theorem dX9_patches_22 : decode cX9_patches 22 = .ok (.aload_n 0, 1) := by decide +kernel
theorem dX9_patches_23 : decode cX9_patches 23 = .ok (.getfield 49, 3) := by decide +kernel
theorem dX9_patches_26 : decode cX9_patches 26 = .ok (.bipush 72, 2) := by decide +kernel
theorem dX9_patches_28 : decode cX9_patches 28 = .ok (.iload_n 1, 1) := by decide +kernel
theorem dX9_patches_29 : decode cX9_patches 29 = .ok (.iadd, 1) := by decide +kernel
theorem dX9_patches_30 : decode cX9_patches 30 = .ok (.iaload, 1) := by decide +kernel
theorem dX9_patches_31 : decode cX9_patches 31 = .ok (.istore_n 3, 1) := by decide +kernel
theorem dX9_patches_32 : decode cX9_patches 32 = .ok (.iload_n 3, 1) := by decide +kernel
theorem dX9_patches_33 : decode cX9_patches 33 = .ok (.iload_n 2, 1) := by decide +kernel
theorem dX9_patches_34 : decode cX9_patches 34 = .ok (.if_icmp .ne 6, 3) := by decide +kernel
theorem dX9_patches_37 : decode cX9_patches 37 = .ok (.bipush (-2), 2) := by decide +kernel
theorem dX9_patches_39 : decode cX9_patches 39 = .ok (.ireturn, 1) := by decide +kernel
theorem dX9_patches_40 : decode cX9_patches 40 = .ok (.aload_n 0, 1) := by decide +kernel
theorem dX9_patches_41 : decode cX9_patches 41 = .ok (.invokevirtual 263, 3) := by decide +kernel
theorem dX9_patches_44 : decode cX9_patches 44 = .ok (.aload_n 0, 1) := by decide +kernel
theorem dX9_patches_45 : decode cX9_patches 45 = .ok (.getfield 49, 3) := by decide +kernel
theorem dX9_patches_48 : decode cX9_patches 48 = .ok (.bipush 72, 2) := by decide +kernel
theorem dX9_patches_50 : decode cX9_patches 50 = .ok (.iload_n 1, 1) := by decide +kernel
theorem dX9_patches_51 : decode cX9_patches 51 = .ok (.iadd, 1) := by decide +kernel
theorem dX9_patches_52 : decode cX9_patches 52 = .ok (.iload_n 2, 1) := by decide +kernel
theorem dX9_patches_53 : decode cX9_patches 53 = .ok (.iastore, 1) := by decide +kernel
theorem dX9_patches_54 : decode cX9_patches 54 = .ok (.iload_n 3, 1) := by decide +kernel
theorem dX9_patches_55 : decode cX9_patches 55 = .ok (.ireturn, 1) := by decide +kernel
theorem dX9_turned_0 : decode cX9_turned 0 = .ok (.aload_n 0, 1) := by decide +kernel
theorem dX9_turned_1 : decode cX9_turned 1 = .ok (.iload_n 1, 1) := by decide +kernel
theorem dX9_turned_2 : decode cX9_turned 2 = .ok (.invokevirtual 257, 3) := by decide +kernel
theorem dX9_turned_5 : decode cX9_turned 5 = .ok (.ifCond .ne 5, 3) := by decide +kernel
theorem dX9_turned_8 : decode cX9_turned 8 = .ok (.iconst (-1), 1) := by decide +kernel
theorem dX9_turned_9 : decode cX9_turned 9 = .ok (.ireturn, 1) := by decide +kernel
theorem dX9_turned_10 : decode cX9_turned 10 = .ok (.aload_n 0, 1) := by decide +kernel
theorem dX9_turned_11 : decode cX9_turned 11 = .ok (.getfield 40, 3) := by decide +kernel
theorem dX9_turned_14 : decode cX9_turned 14 = .ok (.iload_n 1, 1) := by decide +kernel
theorem dX9_turned_15 : decode cX9_turned 15 = .ok (.iaload, 1) := by decide +kernel
theorem dX9_turned_16 : decode cX9_turned 16 = .ok (.iconst 1, 1) := by decide +kernel
theorem dX9_turned_17 : decode cX9_turned 17 = .ok (.if_icmp .eq 6, 3) := by decide +kernel
theorem dX9_turned_20 : decode cX9_turned 20 = .ok (.bipush (-2), 2) := by decide +kernel
theorem dX9_turned_22 : decode cX9_turned 22 = .ok (.ireturn, 1) := by decide +kernel
theorem dX9_turned_23 : decode cX9_turned 23 = .ok (.aload_n 0, 1) := by decide +kernel
theorem dX9_turned_24 : decode cX9_turned 24 = .ok (.invokevirtual 263, 3) := by decide +kernel
theorem dX9_turned_27 : decode cX9_turned 27 = .ok (.aload_n 0, 1) := by decide +kernel
theorem dX9_turned_28 : decode cX9_turned 28 = .ok (.getfield 49, 3) := by decide +kernel
theorem dX9_turned_31 : decode cX9_turned 31 = .ok (.bipush 96, 2) := by decide +kernel
theorem dX9_turned_33 : decode cX9_turned 33 = .ok (.iconst 2, 1) := by decide +kernel
theorem dX9_turned_34 : decode cX9_turned 34 = .ok (.iload_n 1, 1) := by decide +kernel
theorem dX9_turned_35 : decode cX9_turned 35 = .ok (.imul, 1) := by decide +kernel
theorem dX9_turned_36 : decode cX9_turned 36 = .ok (.iadd, 1) := by decide +kernel
theorem dX9_turned_37 : decode cX9_turned 37 = .ok (.iaload, 1) := by decide +kernel
theorem dX9_turned_38 : decode cX9_turned 38 = .ok (.istore_n 2, 1) := by decide +kernel
theorem dX9_turned_39 : decode cX9_turned 39 = .ok (.aload_n 0, 1) := by decide +kernel
theorem dX9_turned_40 : decode cX9_turned 40 = .ok (.getfield 49, 3) := by decide +kernel
theorem dX9_turned_43 : decode cX9_turned 43 = .ok (.bipush 96, 2) := by decide +kernel
theorem dX9_turned_45 : decode cX9_turned 45 = .ok (.iconst 2, 1) := by decide +kernel
theorem dX9_turned_46 : decode cX9_turned 46 = .ok (.iload_n 1, 1) := by decide +kernel
theorem dX9_turned_47 : decode cX9_turned 47 = .ok (.imul, 1) := by decide +kernel
theorem dX9_turned_48 : decode cX9_turned 48 = .ok (.iadd, 1) := by decide +kernel
theorem dX9_turned_49 : decode cX9_turned 49 = .ok (.aload_n 0, 1) := by decide +kernel
theorem dX9_turned_50 : decode cX9_turned 50 = .ok (.getfield 49, 3) := by decide +kernel
theorem dX9_turned_53 : decode cX9_turned 53 = .ok (.bipush 96, 2) := by decide +kernel
theorem dX9_turned_55 : decode cX9_turned 55 = .ok (.iconst 2, 1) := by decide +kernel
theorem dX9_turned_56 : decode cX9_turned 56 = .ok (.iload_n 1, 1) := by decide +kernel
theorem dX9_turned_57 : decode cX9_turned 57 = .ok (.imul, 1) := by decide +kernel
theorem dX9_turned_58 : decode cX9_turned 58 = .ok (.iadd, 1) := by decide +kernel
theorem dX9_turned_59 : decode cX9_turned 59 = .ok (.iconst 1, 1) := by decide +kernel
theorem dX9_turned_60 : decode cX9_turned 60 = .ok (.iadd, 1) := by decide +kernel
theorem dX9_turned_61 : decode cX9_turned 61 = .ok (.iaload, 1) := by decide +kernel
theorem dX9_turned_62 : decode cX9_turned 62 = .ok (.iastore, 1) := by decide +kernel
theorem dX9_turned_63 : decode cX9_turned 63 = .ok (.aload_n 0, 1) := by decide +kernel
theorem dX9_turned_64 : decode cX9_turned 64 = .ok (.getfield 49, 3) := by decide +kernel
theorem dX9_turned_67 : decode cX9_turned 67 = .ok (.bipush 96, 2) := by decide +kernel
theorem dX9_turned_69 : decode cX9_turned 69 = .ok (.iconst 2, 1) := by decide +kernel
theorem dX9_turned_70 : decode cX9_turned 70 = .ok (.iload_n 1, 1) := by decide +kernel
theorem dX9_turned_71 : decode cX9_turned 71 = .ok (.imul, 1) := by decide +kernel
theorem dX9_turned_72 : decode cX9_turned 72 = .ok (.iadd, 1) := by decide +kernel
theorem dX9_turned_73 : decode cX9_turned 73 = .ok (.iconst 1, 1) := by decide +kernel
theorem dX9_turned_74 : decode cX9_turned 74 = .ok (.iadd, 1) := by decide +kernel
theorem dX9_turned_75 : decode cX9_turned 75 = .ok (.iload_n 2, 1) := by decide +kernel
theorem dX9_turned_76 : decode cX9_turned 76 = .ok (.iastore, 1) := by decide +kernel
theorem dX9_turned_77 : decode cX9_turned 77 = .ok (.aload_n 0, 1) := by decide +kernel
theorem dX9_turned_78 : decode cX9_turned 78 = .ok (.iconst 0, 1) := by decide +kernel
theorem dX9_turned_79 : decode cX9_turned 79 = .ok (.invokevirtual 249, 3) := by decide +kernel
theorem dX9_turned_82 : decode cX9_turned 82 = .ok (.aload_n 0, 1) := by decide +kernel
theorem dX9_turned_83 : decode cX9_turned 83 = .ok (.invokevirtual 269, 3) := by decide +kernel
theorem dX9_turned_86 : decode cX9_turned 86 = .ok (.ireturn, 1) := by decide +kernel
theorem dX9_undo_0 : decode cX9_undo 0 = .ok (.aload_n 0, 1) := by decide +kernel
theorem dX9_undo_1 : decode cX9_undo 1 = .ok (.getfield 216, 3) := by decide +kernel
theorem dX9_undo_4 : decode cX9_undo 4 = .ok (.ifCond .ne 6, 3) := by decide +kernel
theorem dX9_undo_7 : decode cX9_undo 7 = .ok (.bipush (-2), 2) := by decide +kernel
theorem dX9_undo_9 : decode cX9_undo 9 = .ok (.ireturn, 1) := by decide +kernel
theorem dX9_undo_10 : decode cX9_undo 10 = .ok (.aload_n 0, 1) := by decide +kernel
theorem dX9_undo_11 : decode cX9_undo 11 = .ok (.dup, 1) := by decide +kernel
theorem dX9_undo_12 : decode cX9_undo 12 = .ok (.getfield 216, 3) := by decide +kernel
theorem dX9_undo_15 : decode cX9_undo 15 = .ok (.iconst 1, 1) := by decide +kernel
theorem dX9_undo_16 : decode cX9_undo 16 = .ok (.isub, 1) := by decide +kernel
theorem dX9_undo_17 : decode cX9_undo 17 = .ok (.putfield 216, 3) := by decide +kernel
theorem dX9_undo_20 : decode cX9_undo 20 = .ok (.aload_n 0, 1) := by decide +kernel
theorem dX9_undo_21 : decode cX9_undo 21 = .ok (.getfield 52, 3) := by decide +kernel
theorem dX9_undo_24 : decode cX9_undo 24 = .ok (.bipush 112, 2) := by decide +kernel
theorem dX9_undo_26 : decode cX9_undo 26 = .ok (.aload_n 0, 1) := by decide +kernel
theorem dX9_undo_27 : decode cX9_undo 27 = .ok (.getfield 216, 3) := by decide +kernel
theorem dX9_undo_30 : decode cX9_undo 30 = .ok (.imul, 1) := by decide +kernel
theorem dX9_undo_31 : decode cX9_undo 31 = .ok (.aload_n 0, 1) := by decide +kernel
theorem dX9_undo_32 : decode cX9_undo 32 = .ok (.getfield 49, 3) := by decide +kernel
theorem dX9_undo_35 : decode cX9_undo 35 = .ok (.iconst 0, 1) := by decide +kernel
theorem dX9_undo_36 : decode cX9_undo 36 = .ok (.bipush 112, 2) := by decide +kernel
theorem dX9_undo_38 : decode cX9_undo 38 = .ok (.invokestatic 212, 3) := by decide +kernel
theorem dX9_undo_41 : decode cX9_undo 41 = .ok (.aload_n 0, 1) := by decide +kernel
theorem dX9_undo_42 : decode cX9_undo 42 = .ok (.getfield 216, 3) := by decide +kernel
theorem dX9_undo_45 : decode cX9_undo 45 = .ok (.ireturn, 1) := by decide +kernel
theorem dX9_takes_0 : decode cX9_takes 0 = .ok (.aload_n 0, 1) := by decide +kernel
theorem dX9_takes_1 : decode cX9_takes 1 = .ok (.getfield 37, 3) := by decide +kernel
theorem dX9_takes_4 : decode cX9_takes 4 = .ok (.iload_n 1, 1) := by decide +kernel
theorem dX9_takes_5 : decode cX9_takes 5 = .ok (.iaload, 1) := by decide +kernel
theorem dX9_takes_6 : decode cX9_takes 6 = .ok (.istore_n 3, 1) := by decide +kernel
theorem dX9_takes_7 : decode cX9_takes 7 = .ok (.iload_n 3, 1) := by decide +kernel
theorem dX9_takes_8 : decode cX9_takes 8 = .ok (.aload_n 0, 1) := by decide +kernel
theorem dX9_takes_9 : decode cX9_takes 9 = .ok (.getfield 37, 3) := by decide +kernel
theorem dX9_takes_12 : decode cX9_takes 12 = .ok (.iload_n 1, 1) := by decide +kernel
theorem dX9_takes_13 : decode cX9_takes 13 = .ok (.iconst 1, 1) := by decide +kernel
theorem dX9_takes_14 : decode cX9_takes 14 = .ok (.iadd, 1) := by decide +kernel
theorem dX9_takes_15 : decode cX9_takes 15 = .ok (.iaload, 1) := by decide +kernel
theorem dX9_takes_16 : decode cX9_takes 16 = .ok (.if_icmp .ge 66, 3) := by decide +kernel
