theorem dX9_init_85 : decode cX9_init 85 = .ok (.aload_n 0, 1) := by decide +kernel
theorem dX9_init_86 : decode cX9_init 86 = .ok (.bipush 8, 2) := by decide +kernel
theorem dX9_init_88 : decode cX9_init 88 = .ok (.newarray .int, 2) := by decide +kernel
theorem dX9_init_90 : decode cX9_init 90 = .ok (.putfield 40, 3) := by decide +kernel
theorem dX9_init_93 : decode cX9_init 93 = .ok (.aload_n 0, 1) := by decide +kernel
theorem dX9_init_94 : decode cX9_init 94 = .ok (.bipush 8, 2) := by decide +kernel
theorem dX9_init_96 : decode cX9_init 96 = .ok (.newarray .int, 2) := by decide +kernel
theorem dX9_init_98 : decode cX9_init 98 = .ok (.putfield 43, 3) := by decide +kernel
theorem dX9_init_101 : decode cX9_init 101 = .ok (.aload_n 0, 1) := by decide +kernel
theorem dX9_init_102 : decode cX9_init 102 = .ok (.bipush 8, 2) := by decide +kernel
theorem dX9_init_104 : decode cX9_init 104 = .ok (.newarray .int, 2) := by decide +kernel
theorem dX9_init_106 : decode cX9_init 106 = .ok (.putfield 46, 3) := by decide +kernel
theorem dX9_init_109 : decode cX9_init 109 = .ok (.aload_n 0, 1) := by decide +kernel
theorem dX9_init_110 : decode cX9_init 110 = .ok (.bipush 112, 2) := by decide +kernel
theorem dX9_init_112 : decode cX9_init 112 = .ok (.newarray .int, 2) := by decide +kernel
theorem dX9_init_114 : decode cX9_init 114 = .ok (.putfield 49, 3) := by decide +kernel
theorem dX9_init_117 : decode cX9_init 117 = .ok (.aload_n 0, 1) := by decide +kernel
theorem dX9_init_118 : decode cX9_init 118 = .ok (.sipush 1120, 3) := by decide +kernel
theorem dX9_init_121 : decode cX9_init 121 = .ok (.newarray .int, 2) := by decide +kernel
theorem dX9_init_123 : decode cX9_init 123 = .ok (.putfield 52, 3) := by decide +kernel
theorem dX9_init_126 : decode cX9_init 126 = .ok (.aload_n 0, 1) := by decide +kernel
theorem dX9_init_127 : decode cX9_init 127 = .ok (.sipush 224, 3) := by decide +kernel
theorem dX9_init_130 : decode cX9_init 130 = .ok (.newarray .int, 2) := by decide +kernel
theorem dX9_init_132 : decode cX9_init 132 = .ok (.putfield 55, 3) := by decide +kernel
theorem dX9_init_135 : decode cX9_init 135 = .ok (.aload_n 0, 1) := by decide +kernel
theorem dX9_init_136 : decode cX9_init 136 = .ok (.iconst 2, 1) := by decide +kernel
theorem dX9_init_137 : decode cX9_init 137 = .ok (.newarray .boolean, 2) := by decide +kernel
theorem dX9_init_139 : decode cX9_init 139 = .ok (.putfield 58, 3) := by decide +kernel
theorem dX9_init_142 : decode cX9_init 142 = .ok (.aload_n 0, 1) := by decide +kernel
theorem dX9_init_143 : decode cX9_init 143 = .ok (.bipush 24, 2) := by decide +kernel
theorem dX9_init_145 : decode cX9_init 145 = .ok (.newarray .int, 2) := by decide +kernel
theorem dX9_init_147 : decode cX9_init 147 = .ok (.putfield 62, 3) := by decide +kernel
theorem dX9_init_150 : decode cX9_init 150 = .ok (.aload_n 0, 1) := by decide +kernel
theorem dX9_init_151 : decode cX9_init 151 = .ok (.bipush 24, 2) := by decide +kernel
theorem dX9_init_153 : decode cX9_init 153 = .ok (.newarray .int, 2) := by decide +kernel
theorem dX9_init_155 : decode cX9_init 155 = .ok (.putfield 65, 3) := by decide +kernel
theorem dX9_init_158 : decode cX9_init 158 = .ok (.aload_n 0, 1) := by decide +kernel
theorem dX9_init_159 : decode cX9_init 159 = .ok (.bipush 24, 2) := by decide +kernel
theorem dX9_init_161 : decode cX9_init 161 = .ok (.newarray .int, 2) := by decide +kernel
theorem dX9_init_163 : decode cX9_init 163 = .ok (.putfield 68, 3) := by decide +kernel
theorem dX9_init_166 : decode cX9_init 166 = .ok (.aload_n 0, 1) := by decide +kernel
theorem dX9_init_167 : decode cX9_init 167 = .ok (.bipush 24, 2) := by decide +kernel
theorem dX9_init_169 : decode cX9_init 169 = .ok (.newarray .int, 2) := by decide +kernel
theorem dX9_init_171 : decode cX9_init 171 = .ok (.putfield 71, 3) := by decide +kernel
theorem dX9_init_174 : decode cX9_init 174 = .ok (.aload_n 0, 1) := by decide +kernel
theorem dX9_init_175 : decode cX9_init 175 = .ok (.bipush 24, 2) := by decide +kernel
theorem dX9_init_177 : decode cX9_init 177 = .ok (.newarray .int, 2) := by decide +kernel
theorem dX9_init_179 : decode cX9_init 179 = .ok (.putfield 74, 3) := by decide +kernel
theorem dX9_init_182 : decode cX9_init 182 = .ok (.aload_n 0, 1) := by decide +kernel
theorem dX9_init_183 : decode cX9_init 183 = .ok (.bipush 24, 2) := by decide +kernel
theorem dX9_init_185 : decode cX9_init 185 = .ok (.newarray .int, 2) := by decide +kernel
theorem dX9_init_187 : decode cX9_init 187 = .ok (.putfield 77, 3) := by decide +kernel
theorem dX9_init_190 : decode cX9_init 190 = .ok (.aload_n 0, 1) := by decide +kernel
theorem dX9_init_191 : decode cX9_init 191 = .ok (.bipush 72, 2) := by decide +kernel
theorem dX9_init_193 : decode cX9_init 193 = .ok (.newarray .int, 2) := by decide +kernel
theorem dX9_init_195 : decode cX9_init 195 = .ok (.putfield 80, 3) := by decide +kernel
theorem dX9_init_198 : decode cX9_init 198 = .ok (.aload_n 0, 1) := by decide +kernel
theorem dX9_init_199 : decode cX9_init 199 = .ok (.bipush 72, 2) := by decide +kernel
theorem dX9_init_201 : decode cX9_init 201 = .ok (.newarray .int, 2) := by decide +kernel
theorem dX9_init_203 : decode cX9_init 203 = .ok (.putfield 83, 3) := by decide +kernel
theorem dX9_init_206 : decode cX9_init 206 = .ok (.aload_n 0, 1) := by decide +kernel
theorem dX9_init_207 : decode cX9_init 207 = .ok (.bipush 9, 2) := by decide +kernel
theorem dX9_init_209 : decode cX9_init 209 = .ok (.newarray .int, 2) := by decide +kernel
theorem dX9_init_211 : decode cX9_init 211 = .ok (.putfield 86, 3) := by decide +kernel
theorem dX9_init_214 : decode cX9_init 214 = .ok (.aload_n 0, 1) := by decide +kernel
theorem dX9_init_215 : decode cX9_init 215 = .ok (.bipush 8, 2) := by decide +kernel
theorem dX9_init_217 : decode cX9_init 217 = .ok (.newarray .int, 2) := by decide +kernel
theorem dX9_init_219 : decode cX9_init 219 = .ok (.putfield 89, 3) := by decide +kernel
theorem dX9_init_222 : decode cX9_init 222 = .ok (.aload_n 0, 1) := by decide +kernel
theorem dX9_init_223 : decode cX9_init 223 = .ok (.bipush 8, 2) := by decide +kernel
theorem dX9_init_225 : decode cX9_init 225 = .ok (.newarray .int, 2) := by decide +kernel
theorem dX9_init_227 : decode cX9_init 227 = .ok (.putfield 92, 3) := by decide +kernel
theorem dX9_init_230 : decode cX9_init 230 = .ok (.aload_n 0, 1) := by decide +kernel
theorem dX9_init_231 : decode cX9_init 231 = .ok (.bipush 112, 2) := by decide +kernel
theorem dX9_init_233 : decode cX9_init 233 = .ok (.newarray .int, 2) := by decide +kernel
theorem dX9_init_235 : decode cX9_init 235 = .ok (.putfield 95, 3) := by decide +kernel
theorem dX9_init_238 : decode cX9_init 238 = .ok (.aload_n 0, 1) := by decide +kernel
theorem dX9_init_239 : decode cX9_init 239 = .ok (.bipush 8, 2) := by decide +kernel
theorem dX9_init_241 : decode cX9_init 241 = .ok (.newarray .int, 2) := by decide +kernel
theorem dX9_init_243 : decode cX9_init 243 = .ok (.putfield 98, 3) := by decide +kernel
theorem dX9_init_246 : decode cX9_init 246 = .ok (.aload_n 0, 1) := by decide +kernel
theorem dX9_init_247 : decode cX9_init 247 = .ok (.bipush 24, 2) := by decide +kernel
theorem dX9_init_249 : decode cX9_init 249 = .ok (.newarray .int, 2) := by decide +kernel
theorem dX9_init_251 : decode cX9_init 251 = .ok (.putfield 101, 3) := by decide +kernel
theorem dX9_init_254 : decode cX9_init 254 = .ok (.aload_n 0, 1) := by decide +kernel
theorem dX9_init_255 : decode cX9_init 255 = .ok (.bipush 24, 2) := by decide +kernel
theorem dX9_init_257 : decode cX9_init 257 = .ok (.newarray .int, 2) := by decide +kernel
theorem dX9_init_259 : decode cX9_init 259 = .ok (.putfield 104, 3) := by decide +kernel
theorem dX9_init_262 : decode cX9_init 262 = .ok (.aload_n 0, 1) := by decide +kernel
theorem dX9_init_263 : decode cX9_init 263 = .ok (.bipush 8, 2) := by decide +kernel
theorem dX9_init_265 : decode cX9_init 265 = .ok (.newarray .boolean, 2) := by decide +kernel
theorem dX9_init_267 : decode cX9_init 267 = .ok (.putfield 107, 3) := by decide +kernel
theorem dX9_init_270 : decode cX9_init 270 = .ok (.aload_n 0, 1) := by decide +kernel
theorem dX9_init_271 : decode cX9_init 271 = .ok (.bipush 24, 2) := by decide +kernel
theorem dX9_init_273 : decode cX9_init 273 = .ok (.newarray .int, 2) := by decide +kernel
theorem dX9_init_275 : decode cX9_init 275 = .ok (.putfield 110, 3) := by decide +kernel
theorem dX9_init_278 : decode cX9_init 278 = .ok (.aload_n 0, 1) := by decide +kernel
theorem dX9_init_279 : decode cX9_init 279 = .ok (.bipush 24, 2) := by decide +kernel
theorem dX9_init_281 : decode cX9_init 281 = .ok (.newarray .int, 2) := by decide +kernel
theorem dX9_init_283 : decode cX9_init 283 = .ok (.putfield 113, 3) := by decide +kernel
theorem dX9_init_286 : decode cX9_init 286 = .ok (.aload_n 0, 1) := by decide +kernel
theorem dX9_init_287 : decode cX9_init 287 = .ok (.bipush 24, 2) := by decide +kernel
theorem dX9_init_289 : decode cX9_init 289 = .ok (.newarray .int, 2) := by decide +kernel
theorem dX9_init_291 : decode cX9_init 291 = .ok (.putfield 116, 3) := by decide +kernel
theorem dX9_init_294 : decode cX9_init 294 = .ok (.aload_n 0, 1) := by decide +kernel
theorem dX9_init_295 : decode cX9_init 295 = .ok (.bipush 8, 2) := by decide +kernel
theorem dX9_init_297 : decode cX9_init 297 = .ok (.newarray .int, 2) := by decide +kernel
theorem dX9_init_299 : decode cX9_init 299 = .ok (.putfield 119, 3) := by decide +kernel
theorem dX9_init_302 : decode cX9_init 302 = .ok (.return_, 1) := by decide +kernel
theorem dX9_in_0 : decode cX9_in 0 = .ok (.iload_n 0, 1) := by decide +kernel
theorem dX9_in_1 : decode cX9_in 1 = .ok (.iload_n 1, 1) := by decide +kernel
theorem dX9_in_2 : decode cX9_in 2 = .ok (.if_icmp .lt 12, 3) := by decide +kernel
theorem dX9_in_5 : decode cX9_in 5 = .ok (.iload_n 0, 1) := by decide +kernel
theorem dX9_in_6 : decode cX9_in 6 = .ok (.iload_n 2, 1) := by decide +kernel
theorem dX9_in_7 : decode cX9_in 7 = .ok (.if_icmp .gt 7, 3) := by decide +kernel
theorem dX9_in_10 : decode cX9_in 10 = .ok (.iconst 1, 1) := by decide +kernel
theorem dX9_in_11 : decode cX9_in 11 = .ok (.goto 4, 3) := by decide +kernel
theorem dX9_in_14 : decode cX9_in 14 = .ok (.iconst 0, 1) := by decide +kernel
theorem dX9_in_15 : decode cX9_in 15 = .ok (.ireturn, 1) := by decide +kernel
theorem dX9_has_0 : decode cX9_has 0 = .ok (.iload_n 0, 1) := by decide +kernel
theorem dX9_has_1 : decode cX9_has 1 = .ok (.iload_n 1, 1) := by decide +kernel
theorem dX9_has_2 : decode cX9_has 2 = .ok (.ishr, 1) := by decide +kernel
theorem dX9_has_3 : decode cX9_has 3 = .ok (.iconst 1, 1) := by decide +kernel
theorem dX9_has_4 : decode cX9_has 4 = .ok (.iand, 1) := by decide +kernel
theorem dX9_has_5 : decode cX9_has 5 = .ok (.iconst 1, 1) := by decide +kernel
theorem dX9_has_6 : decode cX9_has 6 = .ok (.if_icmp .ne 7, 3) := by decide +kernel
theorem dX9_has_9 : decode cX9_has 9 = .ok (.iconst 1, 1) := by decide +kernel
theorem dX9_has_10 : decode cX9_has 10 = .ok (.goto 4, 3) := by decide +kernel
theorem dX9_has_13 : decode cX9_has 13 = .ok (.iconst 0, 1) := by decide +kernel
theorem dX9_has_14 : decode cX9_has 14 = .ok (.ireturn, 1) := by decide +kernel
theorem dX9_bring_0 : decode cX9_bring 0 = .ok (.iconst 0, 1) := by decide +kernel
theorem dX9_bring_1 : decode cX9_bring 1 = .ok (.istore 5, 2) := by decide +kernel
theorem dX9_bring_3 : decode cX9_bring 3 = .ok (.iload 5, 2) := by decide +kernel
theorem dX9_bring_5 : decode cX9_bring 5 = .ok (.iload 4, 2) := by decide +kernel
theorem dX9_bring_7 : decode cX9_bring 7 = .ok (.if_icmp .ge 21, 3) := by decide +kernel
theorem dX9_bring_10 : decode cX9_bring 10 = .ok (.aload_n 2, 1) := by decide +kernel
theorem dX9_bring_11 : decode cX9_bring 11 = .ok (.iload_n 3, 1) := by decide +kernel
theorem dX9_bring_12 : decode cX9_bring 12 = .ok (.iload 5, 2) := by decide +kernel
theorem dX9_bring_14 : decode cX9_bring 14 = .ok (.iadd, 1) := by decide +kernel
theorem dX9_bring_15 : decode cX9_bring 15 = .ok (.aload_n 0, 1) := by decide +kernel
theorem dX9_bring_16 : decode cX9_bring 16 = .ok (.iload_n 1, 1) := by decide +kernel
theorem dX9_bring_17 : decode cX9_bring 17 = .ok (.iload 5, 2) := by decide +kernel
theorem dX9_bring_19 : decode cX9_bring 19 = .ok (.iadd, 1) := by decide +kernel
theorem dX9_bring_20 : decode cX9_bring 20 = .ok (.iaload, 1) := by decide +kernel
theorem dX9_bring_21 : decode cX9_bring 21 = .ok (.iastore, 1) := by decide +kernel
theorem dX9_bring_22 : decode cX9_bring 22 = .ok (.iinc 5 1, 3) := by decide +kernel
theorem dX9_bring_25 : decode cX9_bring 25 = .ok (.goto (-22), 3) := by decide +kernel
theorem dX9_bring_28 : decode cX9_bring 28 = .ok (.return_, 1) := by decide +kernel
theorem dX9_isName_0 : decode cX9_isName 0 = .ok (.iload_n 1, 1) := by decide +kernel
theorem dX9_isName_1 : decode cX9_isName 1 = .ok (.iconst 0, 1) := by decide +kernel
theorem dX9_isName_2 : decode cX9_isName 2 = .ok (.aload_n 0, 1) := by decide +kernel
theorem dX9_isName_3 : decode cX9_isName 3 = .ok (.getfield 122, 3) := by decide +kernel
theorem dX9_isName_6 : decode cX9_isName 6 = .ok (.iconst 1, 1) := by decide +kernel
theorem dX9_isName_7 : decode cX9_isName 7 = .ok (.isub, 1) := by decide +kernel
theorem dX9_isName_8 : decode cX9_isName 8 = .ok (.invokestatic 126, 3) := by decide +kernel
theorem dX9_isName_11 : decode cX9_isName 11 = .ok (.ireturn, 1) := by decide +kernel
theorem dX9_isBlock_0 : decode cX9_isBlock 0 = .ok (.iload_n 1, 1) := by decide +kernel
theorem dX9_isBlock_1 : decode cX9_isBlock 1 = .ok (.iconst 0, 1) := by decide +kernel
theorem dX9_isBlock_2 : decode cX9_isBlock 2 = .ok (.aload_n 0, 1) := by decide +kernel
theorem dX9_isBlock_3 : decode cX9_isBlock 3 = .ok (.getfield 130, 3) := by decide +kernel
theorem dX9_isBlock_6 : decode cX9_isBlock 6 = .ok (.iconst 1, 1) := by decide +kernel
theorem dX9_isBlock_7 : decode cX9_isBlock 7 = .ok (.isub, 1) := by decide +kernel
theorem dX9_isBlock_8 : decode cX9_isBlock 8 = .ok (.invokestatic 126, 3) := by decide +kernel
theorem dX9_isBlock_11 : decode cX9_isBlock 11 = .ok (.ireturn, 1) := by decide +kernel
theorem dX9_type_0 : decode cX9_type 0 = .ok (.iload_n 1, 1) := by decide +kernel
theorem dX9_type_1 : decode cX9_type 1 = .ok (.iconst 0, 1) := by decide +kernel
theorem dX9_type_2 : decode cX9_type 2 = .ok (.sipush 255, 3) := by decide +kernel
theorem dX9_type_5 : decode cX9_type 5 = .ok (.invokestatic 126, 3) := by decide +kernel
theorem dX9_type_8 : decode cX9_type 8 = .ok (.ifCond .ne 5, 3) := by decide +kernel
theorem dX9_type_11 : decode cX9_type 11 = .ok (.iconst (-1), 1) := by decide +kernel
theorem dX9_type_12 : decode cX9_type 12 = .ok (.ireturn, 1) := by decide +kernel
theorem dX9_type_13 : decode cX9_type 13 = .ok (.aload_n 0, 1) := by decide +kernel
theorem dX9_type_14 : decode cX9_type 14 = .ok (.getfield 133, 3) := by decide +kernel
theorem dX9_type_17 : decode cX9_type 17 = .ok (.sipush 150, 3) := by decide +kernel
theorem dX9_type_20 : decode cX9_type 20 = .ok (.if_icmp .ne 6, 3) := by decide +kernel
theorem dX9_type_23 : decode cX9_type 23 = .ok (.bipush (-3), 2) := by decide +kernel
theorem dX9_type_25 : decode cX9_type 25 = .ok (.ireturn, 1) := by decide +kernel
theorem dX9_type_26 : decode cX9_type 26 = .ok (.aload_n 0, 1) := by decide +kernel
theorem dX9_type_27 : decode cX9_type 27 = .ok (.getfield 7, 3) := by decide +kernel
theorem dX9_type_30 : decode cX9_type 30 = .ok (.aload_n 0, 1) := by decide +kernel
theorem dX9_type_31 : decode cX9_type 31 = .ok (.getfield 133, 3) := by decide +kernel
theorem dX9_type_34 : decode cX9_type 34 = .ok (.iload_n 1, 1) := by decide +kernel
theorem dX9_type_35 : decode cX9_type 35 = .ok (.iastore, 1) := by decide +kernel
theorem dX9_type_36 : decode cX9_type 36 = .ok (.aload_n 0, 1) := by decide +kernel
theorem dX9_type_37 : decode cX9_type 37 = .ok (.dup, 1) := by decide +kernel
theorem dX9_type_38 : decode cX9_type 38 = .ok (.getfield 133, 3) := by decide +kernel
theorem dX9_type_41 : decode cX9_type 41 = .ok (.iconst 1, 1) := by decide +kernel
theorem dX9_type_42 : decode cX9_type 42 = .ok (.iadd, 1) := by decide +kernel
theorem dX9_type_43 : decode cX9_type 43 = .ok (.putfield 133, 3) := by decide +kernel
theorem dX9_type_46 : decode cX9_type 46 = .ok (.aload_n 0, 1) := by decide +kernel
theorem dX9_type_47 : decode cX9_type 47 = .ok (.getfield 133, 3) := by decide +kernel
theorem dX9_type_50 : decode cX9_type 50 = .ok (.ireturn, 1) := by decide +kernel
theorem dX9_clear_0 : decode cX9_clear 0 = .ok (.aload_n 0, 1) := by decide +kernel
theorem dX9_clear_1 : decode cX9_clear 1 = .ok (.getfield 133, 3) := by decide +kernel
theorem dX9_clear_4 : decode cX9_clear 4 = .ok (.istore_n 1, 1) := by decide +kernel
theorem dX9_clear_5 : decode cX9_clear 5 = .ok (.aload_n 0, 1) := by decide +kernel
theorem dX9_clear_6 : decode cX9_clear 6 = .ok (.iconst 0, 1) := by decide +kernel
theorem dX9_clear_7 : decode cX9_clear 7 = .ok (.putfield 133, 3) := by decide +kernel
theorem dX9_clear_10 : decode cX9_clear 10 = .ok (.iload_n 1, 1) := by decide +kernel
theorem dX9_clear_11 : decode cX9_clear 11 = .ok (.ireturn, 1) := by decide +kernel
theorem dX9_here_0 : decode cX9_here 0 = .ok (.aload_n 0, 1) := by decide +kernel
theorem dX9_here_1 : decode cX9_here 1 = .ok (.getfield 136, 3) := by decide +kernel
theorem dX9_here_4 : decode cX9_here 4 = .ok (.aload_n 0, 1) := by decide +kernel
theorem dX9_here_5 : decode cX9_here 5 = .ok (.getfield 133, 3) := by decide +kernel
theorem dX9_here_8 : decode cX9_here 8 = .ok (.if_icmp .ge 30, 3) := by decide +kernel
theorem dX9_here_11 : decode cX9_here 11 = .ok (.aload_n 0, 1) := by decide +kernel
theorem dX9_here_12 : decode cX9_here 12 = .ok (.getfield 7, 3) := by decide +kernel
theorem dX9_here_15 : decode cX9_here 15 = .ok (.aload_n 0, 1) := by decide +kernel
theorem dX9_here_16 : decode cX9_here 16 = .ok (.getfield 136, 3) := by decide +kernel
theorem dX9_here_19 : decode cX9_here 19 = .ok (.iaload, 1) := by decide +kernel
theorem dX9_here_20 : decode cX9_here 20 = .ok (.bipush 32, 2) := by decide +kernel
theorem dX9_here_22 : decode cX9_here 22 = .ok (.if_icmp .ne 16, 3) := by decide +kernel
theorem dX9_here_25 : decode cX9_here 25 = .ok (.aload_n 0, 1) := by decide +kernel
theorem dX9_here_26 : decode cX9_here 26 = .ok (.dup, 1) := by decide +kernel
theorem dX9_here_27 : decode cX9_here 27 = .ok (.getfield 136, 3) := by decide +kernel
theorem dX9_here_30 : decode cX9_here 30 = .ok (.iconst 1, 1) := by decide +kernel
theorem dX9_here_31 : decode cX9_here 31 = .ok (.iadd, 1) := by decide +kernel
theorem dX9_here_32 : decode cX9_here 32 = .ok (.putfield 136, 3) := by decide +kernel
theorem dX9_here_35 : decode cX9_here 35 = .ok (.goto (-35), 3) := by decide +kernel
theorem dX9_here_38 : decode cX9_here 38 = .ok (.aload_n 0, 1) := by decide +kernel
theorem dX9_here_39 : decode cX9_here 39 = .ok (.getfield 136, 3) := by decide +kernel
theorem dX9_here_42 : decode cX9_here 42 = .ok (.aload_n 0, 1) := by decide +kernel
theorem dX9_here_43 : decode cX9_here 43 = .ok (.getfield 133, 3) := by decide +kernel
theorem dX9_here_46 : decode cX9_here 46 = .ok (.if_icmp .ge 15, 3) := by decide +kernel
theorem dX9_here_49 : decode cX9_here 49 = .ok (.aload_n 0, 1) := by decide +kernel
theorem dX9_here_50 : decode cX9_here 50 = .ok (.getfield 7, 3) := by decide +kernel
theorem dX9_here_53 : decode cX9_here 53 = .ok (.aload_n 0, 1) := by decide +kernel
theorem dX9_here_54 : decode cX9_here 54 = .ok (.getfield 136, 3) := by decide +kernel
theorem dX9_here_57 : decode cX9_here 57 = .ok (.iaload, 1) := by decide +kernel
theorem dX9_here_58 : decode cX9_here 58 = .ok (.goto 4, 3) := by decide +kernel
theorem dX9_here_61 : decode cX9_here 61 = .ok (.iconst (-1), 1) := by decide +kernel
theorem dX9_here_62 : decode cX9_here 62 = .ok (.ireturn, 1) := by decide +kernel
theorem dX9_numeral_0 : decode cX9_numeral 0 = .ok (.aload_n 0, 1) := by decide +kernel
theorem dX9_numeral_1 : decode cX9_numeral 1 = .ok (.getfield 139, 3) := by decide +kernel
theorem dX9_numeral_4 : decode cX9_numeral 4 = .ok (.ifCond .eq 5, 3) := by decide +kernel
theorem dX9_numeral_7 : decode cX9_numeral 7 = .ok (.iconst 0, 1) := by decide +kernel
theorem dX9_numeral_8 : decode cX9_numeral 8 = .ok (.ireturn, 1) := by decide +kernel
theorem dX9_numeral_9 : decode cX9_numeral 9 = .ok (.aload_n 0, 1) := by decide +kernel
theorem dX9_numeral_10 : decode cX9_numeral 10 = .ok (.invokevirtual 143, 3) := by decide +kernel
theorem dX9_numeral_13 : decode cX9_numeral 13 = .ok (.pop, 1) := by decide +kernel
theorem dX9_numeral_14 : decode cX9_numeral 14 = .ok (.iconst 0, 1) := by decide +kernel
theorem dX9_numeral_15 : decode cX9_numeral 15 = .ok (.istore_n 2, 1) := by decide +kernel
theorem dX9_numeral_16 : decode cX9_numeral 16 = .ok (.iconst 0, 1) := by decide +kernel
theorem dX9_numeral_17 : decode cX9_numeral 17 = .ok (.istore_n 3, 1) := by decide +kernel
theorem dX9_numeral_18 : decode cX9_numeral 18 = .ok (.aload_n 0, 1) := by decide +kernel
theorem dX9_numeral_19 : decode cX9_numeral 19 = .ok (.getfield 136, 3) := by decide +kernel
theorem dX9_numeral_22 : decode cX9_numeral 22 = .ok (.iload_n 2, 1) := by decide +kernel
theorem dX9_numeral_23 : decode cX9_numeral 23 = .ok (.iadd, 1) := by decide +kernel
theorem dX9_numeral_24 : decode cX9_numeral 24 = .ok (.aload_n 0, 1) := by decide +kernel
theorem dX9_numeral_25 : decode cX9_numeral 25 = .ok (.getfield 133, 3) := by decide +kernel
theorem dX9_numeral_28 : decode cX9_numeral 28 = .ok (.if_icmp .ge 59, 3) := by decide +kernel
theorem dX9_numeral_31 : decode cX9_numeral 31 = .ok (.aload_n 0, 1) := by decide +kernel
theorem dX9_numeral_32 : decode cX9_numeral 32 = .ok (.getfield 7, 3) := by decide +kernel
theorem dX9_numeral_35 : decode cX9_numeral 35 = .ok (.aload_n 0, 1) := by decide +kernel
theorem dX9_numeral_36 : decode cX9_numeral 36 = .ok (.getfield 136, 3) := by decide +kernel
theorem dX9_numeral_39 : decode cX9_numeral 39 = .ok (.iload_n 2, 1) := by decide +kernel
theorem dX9_numeral_40 : decode cX9_numeral 40 = .ok (.iadd, 1) := by decide +kernel
theorem dX9_numeral_41 : decode cX9_numeral 41 = .ok (.iaload, 1) := by decide +kernel
theorem dX9_numeral_42 : decode cX9_numeral 42 = .ok (.bipush 48, 2) := by decide +kernel
theorem dX9_numeral_44 : decode cX9_numeral 44 = .ok (.bipush 57, 2) := by decide +kernel
theorem dX9_numeral_46 : decode cX9_numeral 46 = .ok (.invokestatic 126, 3) := by decide +kernel
theorem dX9_numeral_49 : decode cX9_numeral 49 = .ok (.ifCond .eq 38, 3) := by decide +kernel
theorem dX9_numeral_52 : decode cX9_numeral 52 = .ok (.iload_n 2, 1) := by decide +kernel
theorem dX9_numeral_53 : decode cX9_numeral 53 = .ok (.iconst 4, 1) := by decide +kernel
theorem dX9_numeral_54 : decode cX9_numeral 54 = .ok (.if_icmp .ge 25, 3) := by decide +kernel
theorem dX9_numeral_57 : decode cX9_numeral 57 = .ok (.bipush 10, 2) := by decide +kernel
theorem dX9_numeral_59 : decode cX9_numeral 59 = .ok (.iload_n 3, 1) := by decide +kernel
theorem dX9_numeral_60 : decode cX9_numeral 60 = .ok (.imul, 1) := by decide +kernel
theorem dX9_numeral_61 : decode cX9_numeral 61 = .ok (.aload_n 0, 1) := by decide +kernel
theorem dX9_numeral_62 : decode cX9_numeral 62 = .ok (.getfield 7, 3) := by decide +kernel
theorem dX9_numeral_65 : decode cX9_numeral 65 = .ok (.aload_n 0, 1) := by decide +kernel
theorem dX9_numeral_66 : decode cX9_numeral 66 = .ok (.getfield 136, 3) := by decide +kernel
theorem dX9_numeral_69 : decode cX9_numeral 69 = .ok (.iload_n 2, 1) := by decide +kernel
theorem dX9_numeral_70 : decode cX9_numeral 70 = .ok (.iadd, 1) := by decide +kernel
theorem dX9_numeral_71 : decode cX9_numeral 71 = .ok (.iaload, 1) := by decide +kernel
theorem dX9_numeral_72 : decode cX9_numeral 72 = .ok (.iadd, 1) := by decide +kernel
theorem dX9_numeral_73 : decode cX9_numeral 73 = .ok (.bipush 48, 2) := by decide +kernel
theorem dX9_numeral_75 : decode cX9_numeral 75 = .ok (.isub, 1) := by decide +kernel
theorem dX9_numeral_76 : decode cX9_numeral 76 = .ok (.goto 4, 3) := by decide +kernel
theorem dX9_numeral_79 : decode cX9_numeral 79 = .ok (.iload_n 3, 1) := by decide +kernel
theorem dX9_numeral_80 : decode cX9_numeral 80 = .ok (.istore_n 3, 1) := by decide +kernel
theorem dX9_numeral_81 : decode cX9_numeral 81 = .ok (.iinc 2 1, 3) := by decide +kernel
theorem dX9_numeral_84 : decode cX9_numeral 84 = .ok (.goto (-66), 3) := by decide +kernel
theorem dX9_numeral_87 : decode cX9_numeral 87 = .ok (.aload_n 0, 1) := by decide +kernel
theorem dX9_numeral_88 : decode cX9_numeral 88 = .ok (.iload_n 2, 1) := by decide +kernel
theorem dX9_numeral_89 : decode cX9_numeral 89 = .ok (.iconst 1, 1) := by decide +kernel
theorem dX9_numeral_90 : decode cX9_numeral 90 = .ok (.iconst 3, 1) := by decide +kernel
theorem dX9_numeral_91 : decode cX9_numeral 91 = .ok (.invokestatic 126, 3) := by decide +kernel
theorem dX9_numeral_94 : decode cX9_numeral 94 = .ok (.ifCond .eq 27, 3) := by decide +kernel
theorem dX9_numeral_97 : decode cX9_numeral 97 = .ok (.iload_n 2, 1) := by decide +kernel
theorem dX9_numeral_98 : decode cX9_numeral 98 = .ok (.iconst 1, 1) := by decide +kernel
theorem dX9_numeral_99 : decode cX9_numeral 99 = .ok (.if_icmp .le 17, 3) := by decide +kernel
theorem dX9_numeral_102 : decode cX9_numeral 102 = .ok (.aload_n 0, 1) := by decide +kernel
theorem dX9_numeral_103 : decode cX9_numeral 103 = .ok (.getfield 7, 3) := by decide +kernel
theorem dX9_numeral_106 : decode cX9_numeral 106 = .ok (.aload_n 0, 1) := by decide +kernel
theorem dX9_numeral_107 : decode cX9_numeral 107 = .ok (.getfield 136, 3) := by decide +kernel
theorem dX9_numeral_110 : decode cX9_numeral 110 = .ok (.iaload, 1) := by decide +kernel
theorem dX9_numeral_111 : decode cX9_numeral 111 = .ok (.bipush 48, 2) := by decide +kernel
theorem dX9_numeral_113 : decode cX9_numeral 113 = .ok (.if_icmp .eq 8, 3) := by decide +kernel
theorem dX9_numeral_116 : decode cX9_numeral 116 = .ok (.iload_n 3, 1) := by decide +kernel
theorem dX9_numeral_117 : decode cX9_numeral 117 = .ok (.iload_n 1, 1) := by decide +kernel
theorem dX9_numeral_118 : decode cX9_numeral 118 = .ok (.if_icmp .le 7, 3) := by decide +kernel
theorem dX9_numeral_121 : decode cX9_numeral 121 = .ok (.iconst 1, 1) := by decide +kernel
theorem dX9_numeral_122 : decode cX9_numeral 122 = .ok (.goto 4, 3) := by decide +kernel
theorem dX9_numeral_125 : decode cX9_numeral 125 = .ok (.iconst 0, 1) := by decide +kernel
theorem dX9_numeral_126 : decode cX9_numeral 126 = .ok (.putfield 139, 3) := by decide +kernel
theorem dX9_numeral_129 : decode cX9_numeral 129 = .ok (.aload_n 0, 1) := by decide +kernel
theorem dX9_numeral_130 : decode cX9_numeral 130 = .ok (.dup, 1) := by decide +kernel
theorem dX9_numeral_131 : decode cX9_numeral 131 = .ok (.getfield 136, 3) := by decide +kernel
theorem dX9_numeral_134 : decode cX9_numeral 134 = .ok (.aload_n 0, 1) := by decide +kernel
theorem dX9_numeral_135 : decode cX9_numeral 135 = .ok (.getfield 139, 3) := by decide +kernel
theorem dX9_numeral_138 : decode cX9_numeral 138 = .ok (.ifCond .eq 7, 3) := by decide +kernel
theorem dX9_numeral_141 : decode cX9_numeral 141 = .ok (.iconst 0, 1) := by decide +kernel
theorem dX9_numeral_142 : decode cX9_numeral 142 = .ok (.goto 4, 3) := by decide +kernel
theorem dX9_numeral_145 : decode cX9_numeral 145 = .ok (.iload_n 2, 1) := by decide +kernel
theorem dX9_numeral_146 : decode cX9_numeral 146 = .ok (.iadd, 1) := by decide +kernel
theorem dX9_numeral_147 : decode cX9_numeral 147 = .ok (.putfield 136, 3) := by decide +kernel
theorem dX9_numeral_150 : decode cX9_numeral 150 = .ok (.iload_n 3, 1) := by decide +kernel
theorem dX9_numeral_151 : decode cX9_numeral 151 = .ok (.ireturn, 1) := by decide +kernel
theorem dX9_closes_0 : decode cX9_closes 0 = .ok (.aload_n 0, 1) := by decide +kernel
theorem dX9_closes_1 : decode cX9_closes 1 = .ok (.getfield 139, 3) := by decide +kernel
theorem dX9_closes_4 : decode cX9_closes 4 = .ok (.ifCond .ne 42, 3) := by decide +kernel
theorem dX9_closes_7 : decode cX9_closes 7 = .ok (.aload_n 0, 1) := by decide +kernel
theorem dX9_closes_8 : decode cX9_closes 8 = .ok (.aload_n 0, 1) := by decide +kernel
theorem dX9_closes_9 : decode cX9_closes 9 = .ok (.invokevirtual 143, 3) := by decide +kernel
theorem dX9_closes_12 : decode cX9_closes 12 = .ok (.bipush 59, 2) := by decide +kernel
theorem dX9_closes_14 : decode cX9_closes 14 = .ok (.if_icmp .eq 7, 3) := by decide +kernel
theorem dX9_closes_17 : decode cX9_closes 17 = .ok (.iconst 1, 1) := by decide +kernel
theorem dX9_closes_18 : decode cX9_closes 18 = .ok (.goto 4, 3) := by decide +kernel
theorem dX9_closes_21 : decode cX9_closes 21 = .ok (.iconst 0, 1) := by decide +kernel
theorem dX9_closes_22 : decode cX9_closes 22 = .ok (.putfield 139, 3) := by decide +kernel
theorem dX9_closes_25 : decode cX9_closes 25 = .ok (.aload_n 0, 1) := by decide +kernel
theorem dX9_closes_26 : decode cX9_closes 26 = .ok (.dup, 1) := by decide +kernel
theorem dX9_closes_27 : decode cX9_closes 27 = .ok (.getfield 136, 3) := by decide +kernel
theorem dX9_closes_30 : decode cX9_closes 30 = .ok (.aload_n 0, 1) := by decide +kernel
theorem dX9_closes_31 : decode cX9_closes 31 = .ok (.getfield 139, 3) := by decide +kernel
theorem dX9_closes_34 : decode cX9_closes 34 = .ok (.ifCond .eq 7, 3) := by decide +kernel
theorem dX9_closes_37 : decode cX9_closes 37 = .ok (.iconst 0, 1) := by decide +kernel
theorem dX9_closes_38 : decode cX9_closes 38 = .ok (.goto 4, 3) := by decide +kernel
theorem dX9_closes_41 : decode cX9_closes 41 = .ok (.iconst 1, 1) := by decide +kernel
theorem dX9_closes_42 : decode cX9_closes 42 = .ok (.iadd, 1) := by decide +kernel
theorem dX9_closes_43 : decode cX9_closes 43 = .ok (.putfield 136, 3) := by decide +kernel
theorem dX9_closes_46 : decode cX9_closes 46 = .ok (.return_, 1) := by decide +kernel
theorem dX9_isSign_0 : decode cX9_isSign 0 = .ok (.iload_n 0, 1) := by decide +kernel
theorem dX9_isSign_1 : decode cX9_isSign 1 = .ok (.lookupswitch 85 #[(37, 83), (38, 83), (42, 83), (43, 83), (45, 83), (47, 83), (60, 83), (61, 83), (94, 83)], 83) := by decide +kernel
theorem dX9_isSign_84 : decode cX9_isSign 84 = .ok (.iconst 1, 1) := by decide +kernel
theorem dX9_isSign_85 : decode cX9_isSign 85 = .ok (.ireturn, 1) := by decide +kernel
theorem dX9_isSign_86 : decode cX9_isSign 86 = .ok (.iconst 0, 1) := by decide +kernel
theorem dX9_isSign_87 : decode cX9_isSign 87 = .ok (.ireturn, 1) := by decide +kernel
theorem dX9_onlyJoins_0 : decode cX9_onlyJoins 0 = .ok (.iconst 1, 1) := by decide +kernel
theorem dX9_onlyJoins_1 : decode cX9_onlyJoins 1 = .ok (.istore_n 1, 1) := by decide +kernel
theorem dX9_onlyJoins_2 : decode cX9_onlyJoins 2 = .ok (.aload_n 0, 1) := by decide +kernel
theorem dX9_onlyJoins_3 : decode cX9_onlyJoins 3 = .ok (.getfield 86, 3) := by decide +kernel
theorem dX9_onlyJoins_6 : decode cX9_onlyJoins 6 = .ok (.aload_n 0, 1) := by decide +kernel
theorem dX9_onlyJoins_7 : decode cX9_onlyJoins 7 = .ok (.getfield 147, 3) := by decide +kernel
theorem dX9_onlyJoins_10 : decode cX9_onlyJoins 10 = .ok (.iconst 1, 1) := by decide +kernel
theorem dX9_onlyJoins_11 : decode cX9_onlyJoins 11 = .ok (.isub, 1) := by decide +kernel
theorem dX9_onlyJoins_12 : decode cX9_onlyJoins 12 = .ok (.iaload, 1) := by decide +kernel
theorem dX9_onlyJoins_13 : decode cX9_onlyJoins 13 = .ok (.istore_n 2, 1) := by decide +kernel
theorem dX9_onlyJoins_14 : decode cX9_onlyJoins 14 = .ok (.iload_n 2, 1) := by decide +kernel
theorem dX9_onlyJoins_15 : decode cX9_onlyJoins 15 = .ok (.aload_n 0, 1) := by decide +kernel
theorem dX9_onlyJoins_16 : decode cX9_onlyJoins 16 = .ok (.getfield 150, 3) := by decide +kernel
theorem dX9_onlyJoins_19 : decode cX9_onlyJoins 19 = .ok (.if_icmp .ge 29, 3) := by decide +kernel
theorem dX9_onlyJoins_22 : decode cX9_onlyJoins 22 = .ok (.iload_n 1, 1) := by decide +kernel
theorem dX9_onlyJoins_23 : decode cX9_onlyJoins 23 = .ok (.ifCond .eq 17, 3) := by decide +kernel
theorem dX9_onlyJoins_26 : decode cX9_onlyJoins 26 = .ok (.aload_n 0, 1) := by decide +kernel
theorem dX9_onlyJoins_27 : decode cX9_onlyJoins 27 = .ok (.getfield 62, 3) := by decide +kernel
theorem dX9_onlyJoins_30 : decode cX9_onlyJoins 30 = .ok (.iload_n 2, 1) := by decide +kernel
theorem dX9_onlyJoins_31 : decode cX9_onlyJoins 31 = .ok (.iaload, 1) := by decide +kernel
theorem dX9_onlyJoins_32 : decode cX9_onlyJoins 32 = .ok (.iconst 3, 1) := by decide +kernel
theorem dX9_onlyJoins_33 : decode cX9_onlyJoins 33 = .ok (.if_icmp .ne 7, 3) := by decide +kernel
theorem dX9_onlyJoins_36 : decode cX9_onlyJoins 36 = .ok (.iconst 1, 1) := by decide +kernel
theorem dX9_onlyJoins_37 : decode cX9_onlyJoins 37 = .ok (.goto 4, 3) := by decide +kernel
theorem dX9_onlyJoins_40 : decode cX9_onlyJoins 40 = .ok (.iconst 0, 1) := by decide +kernel
theorem dX9_onlyJoins_41 : decode cX9_onlyJoins 41 = .ok (.istore_n 1, 1) := by decide +kernel
theorem dX9_onlyJoins_42 : decode cX9_onlyJoins 42 = .ok (.iinc 2 1, 3) := by decide +kernel
theorem dX9_onlyJoins_45 : decode cX9_onlyJoins 45 = .ok (.goto (-31), 3) := by decide +kernel
theorem dX9_onlyJoins_48 : decode cX9_onlyJoins 48 = .ok (.iload_n 1, 1) := by decide +kernel
theorem dX9_onlyJoins_49 : decode cX9_onlyJoins 49 = .ok (.ireturn, 1) := by decide +kernel
theorem dX9_startsName_0 : decode cX9_startsName 0 = .ok (.aload_n 0, 1) := by decide +kernel
theorem dX9_startsName_1 : decode cX9_startsName 1 = .ok (.getfield 62, 3) := by decide +kernel
theorem dX9_startsName_4 : decode cX9_startsName 4 = .ok (.aload_n 0, 1) := by decide +kernel
theorem dX9_startsName_5 : decode cX9_startsName 5 = .ok (.getfield 150, 3) := by decide +kernel
theorem dX9_startsName_8 : decode cX9_startsName 8 = .ok (.iload_n 1, 1) := by decide +kernel
theorem dX9_startsName_9 : decode cX9_startsName 9 = .ok (.iastore, 1) := by decide +kernel
theorem dX9_startsName_10 : decode cX9_startsName 10 = .ok (.aload_n 0, 1) := by decide +kernel
theorem dX9_startsName_11 : decode cX9_startsName 11 = .ok (.getfield 65, 3) := by decide +kernel
theorem dX9_startsName_14 : decode cX9_startsName 14 = .ok (.aload_n 0, 1) := by decide +kernel
theorem dX9_startsName_15 : decode cX9_startsName 15 = .ok (.getfield 150, 3) := by decide +kernel
theorem dX9_startsName_18 : decode cX9_startsName 18 = .ok (.aload_n 0, 1) := by decide +kernel
theorem dX9_startsName_19 : decode cX9_startsName 19 = .ok (.getfield 147, 3) := by decide +kernel
theorem dX9_startsName_22 : decode cX9_startsName 22 = .ok (.iconst 1, 1) := by decide +kernel
theorem dX9_startsName_23 : decode cX9_startsName 23 = .ok (.isub, 1) := by decide +kernel
theorem dX9_startsName_24 : decode cX9_startsName 24 = .ok (.iastore, 1) := by decide +kernel
theorem dX9_startsName_25 : decode cX9_startsName 25 = .ok (.aload_n 0, 1) := by decide +kernel
theorem dX9_startsName_26 : decode cX9_startsName 26 = .ok (.getfield 68, 3) := by decide +kernel
theorem dX9_startsName_29 : decode cX9_startsName 29 = .ok (.aload_n 0, 1) := by decide +kernel
theorem dX9_startsName_30 : decode cX9_startsName 30 = .ok (.getfield 150, 3) := by decide +kernel
theorem dX9_startsName_33 : decode cX9_startsName 33 = .ok (.iconst 0, 1) := by decide +kernel
theorem dX9_startsName_34 : decode cX9_startsName 34 = .ok (.iastore, 1) := by decide +kernel
theorem dX9_startsName_35 : decode cX9_startsName 35 = .ok (.aload_n 0, 1) := by decide +kernel
theorem dX9_startsName_36 : decode cX9_startsName 36 = .ok (.getfield 77, 3) := by decide +kernel
theorem dX9_startsName_39 : decode cX9_startsName 39 = .ok (.aload_n 0, 1) := by decide +kernel
theorem dX9_startsName_40 : decode cX9_startsName 40 = .ok (.getfield 150, 3) := by decide +kernel
theorem dX9_startsName_43 : decode cX9_startsName 43 = .ok (.iconst 0, 1) := by decide +kernel
theorem dX9_startsName_44 : decode cX9_startsName 44 = .ok (.iastore, 1) := by decide +kernel
theorem dX9_startsName_45 : decode cX9_startsName 45 = .ok (.aload_n 0, 1) := by decide +kernel
theorem dX9_startsName_46 : decode cX9_startsName 46 = .ok (.dup, 1) := by decide +kernel
theorem dX9_startsName_47 : decode cX9_startsName 47 = .ok (.getfield 150, 3) := by decide +kernel
theorem dX9_startsName_50 : decode cX9_startsName 50 = .ok (.iconst 1, 1) := by decide +kernel
theorem dX9_startsName_51 : decode cX9_startsName 51 = .ok (.iadd, 1) := by decide +kernel
theorem dX9_startsName_52 : decode cX9_startsName 52 = .ok (.putfield 150, 3) := by decide +kernel
theorem dX9_startsName_55 : decode cX9_startsName 55 = .ok (.return_, 1) := by decide +kernel
theorem dX9_readsOperation_0 : decode cX9_readsOperation 0 = .ok (.aload_n 0, 1) := by decide +kernel
theorem dX9_readsOperation_1 : decode cX9_readsOperation 1 = .ok (.getfield 150, 3) := by decide +kernel
theorem dX9_readsOperation_4 : decode cX9_readsOperation 4 = .ok (.istore_n 1, 1) := by decide +kernel
theorem dX9_readsOperation_5 : decode cX9_readsOperation 5 = .ok (.aload_n 0, 1) := by decide +kernel
theorem dX9_readsOperation_6 : decode cX9_readsOperation 6 = .ok (.iconst 2, 1) := by decide +kernel
theorem dX9_readsOperation_7 : decode cX9_readsOperation 7 = .ok (.invokevirtual 153, 3) := by decide +kernel
theorem dX9_readsOperation_10 : decode cX9_readsOperation 10 = .ok (.aload_n 0, 1) := by decide +kernel
theorem dX9_readsOperation_11 : decode cX9_readsOperation 11 = .ok (.getfield 71, 3) := by decide +kernel
theorem dX9_readsOperation_14 : decode cX9_readsOperation 14 = .ok (.iload_n 1, 1) := by decide +kernel
theorem dX9_readsOperation_15 : decode cX9_readsOperation 15 = .ok (.aload_n 0, 1) := by decide +kernel
theorem dX9_readsOperation_16 : decode cX9_readsOperation 16 = .ok (.bipush 23, 2) := by decide +kernel
theorem dX9_readsOperation_18 : decode cX9_readsOperation 18 = .ok (.invokevirtual 157, 3) := by decide +kernel
theorem dX9_readsOperation_21 : decode cX9_readsOperation 21 = .ok (.iastore, 1) := by decide +kernel
theorem dX9_readsOperation_22 : decode cX9_readsOperation 22 = .ok (.aload_n 0, 1) := by decide +kernel
theorem dX9_readsOperation_23 : decode cX9_readsOperation 23 = .ok (.getfield 139, 3) := by decide +kernel
theorem dX9_readsOperation_26 : decode cX9_readsOperation 26 = .ok (.ifCond .ne 53, 3) := by decide +kernel
theorem dX9_readsOperation_29 : decode cX9_readsOperation 29 = .ok (.aload_n 0, 1) := by decide +kernel
theorem dX9_readsOperation_30 : decode cX9_readsOperation 30 = .ok (.aload_n 0, 1) := by decide +kernel
theorem dX9_readsOperation_31 : decode cX9_readsOperation 31 = .ok (.invokevirtual 143, 3) := by decide +kernel
theorem dX9_readsOperation_34 : decode cX9_readsOperation 34 = .ok (.invokestatic 161, 3) := by decide +kernel
theorem dX9_readsOperation_37 : decode cX9_readsOperation 37 = .ok (.ifCond .ne 7, 3) := by decide +kernel
theorem dX9_readsOperation_40 : decode cX9_readsOperation 40 = .ok (.iconst 1, 1) := by decide +kernel
theorem dX9_readsOperation_41 : decode cX9_readsOperation 41 = .ok (.goto 4, 3) := by decide +kernel
theorem dX9_readsOperation_44 : decode cX9_readsOperation 44 = .ok (.iconst 0, 1) := by decide +kernel
theorem dX9_readsOperation_45 : decode cX9_readsOperation 45 = .ok (.putfield 139, 3) := by decide +kernel
theorem dX9_readsOperation_48 : decode cX9_readsOperation 48 = .ok (.aload_n 0, 1) := by decide +kernel
theorem dX9_readsOperation_49 : decode cX9_readsOperation 49 = .ok (.getfield 68, 3) := by decide +kernel
theorem dX9_readsOperation_52 : decode cX9_readsOperation 52 = .ok (.iload_n 1, 1) := by decide +kernel
theorem dX9_readsOperation_53 : decode cX9_readsOperation 53 = .ok (.aload_n 0, 1) := by decide +kernel
theorem dX9_readsOperation_54 : decode cX9_readsOperation 54 = .ok (.invokevirtual 143, 3) := by decide +kernel
theorem dX9_readsOperation_57 : decode cX9_readsOperation 57 = .ok (.iastore, 1) := by decide +kernel
theorem dX9_readsOperation_58 : decode cX9_readsOperation 58 = .ok (.aload_n 0, 1) := by decide +kernel
theorem dX9_readsOperation_59 : decode cX9_readsOperation 59 = .ok (.dup, 1) := by decide +kernel
theorem dX9_readsOperation_60 : decode cX9_readsOperation 60 = .ok (.getfield 136, 3) := by decide +kernel
theorem dX9_readsOperation_63 : decode cX9_readsOperation 63 = .ok (.aload_n 0, 1) := by decide +kernel
theorem dX9_readsOperation_64 : decode cX9_readsOperation 64 = .ok (.getfield 139, 3) := by decide +kernel
theorem dX9_readsOperation_67 : decode cX9_readsOperation 67 = .ok (.ifCond .eq 7, 3) := by decide +kernel
theorem dX9_readsOperation_70 : decode cX9_readsOperation 70 = .ok (.iconst 0, 1) := by decide +kernel
theorem dX9_readsOperation_71 : decode cX9_readsOperation 71 = .ok (.goto 4, 3) := by decide +kernel
theorem dX9_readsOperation_74 : decode cX9_readsOperation 74 = .ok (.iconst 1, 1) := by decide +kernel
theorem dX9_readsOperation_75 : decode cX9_readsOperation 75 = .ok (.iadd, 1) := by decide +kernel
theorem dX9_readsOperation_76 : decode cX9_readsOperation 76 = .ok (.putfield 136, 3) := by decide +kernel
theorem dX9_readsOperation_79 : decode cX9_readsOperation 79 = .ok (.aload_n 0, 1) := by decide +kernel
theorem dX9_readsOperation_80 : decode cX9_readsOperation 80 = .ok (.getfield 74, 3) := by decide +kernel
theorem dX9_readsOperation_83 : decode cX9_readsOperation 83 = .ok (.iload_n 1, 1) := by decide +kernel
theorem dX9_readsOperation_84 : decode cX9_readsOperation 84 = .ok (.aload_n 0, 1) := by decide +kernel
theorem dX9_readsOperation_85 : decode cX9_readsOperation 85 = .ok (.bipush 23, 2) := by decide +kernel
theorem dX9_readsOperation_87 : decode cX9_readsOperation 87 = .ok (.invokevirtual 157, 3) := by decide +kernel
theorem dX9_readsOperation_90 : decode cX9_readsOperation 90 = .ok (.iastore, 1) := by decide +kernel
theorem dX9_readsOperation_91 : decode cX9_readsOperation 91 = .ok (.aload_n 0, 1) := by decide +kernel
theorem dX9_readsOperation_92 : decode cX9_readsOperation 92 = .ok (.invokevirtual 165, 3) := by decide +kernel
theorem dX9_readsOperation_95 : decode cX9_readsOperation 95 = .ok (.return_, 1) := by decide +kernel
theorem dX9_readsJoin_0 : decode cX9_readsJoin 0 = .ok (.aload_n 0, 1) := by decide +kernel
theorem dX9_readsJoin_1 : decode cX9_readsJoin 1 = .ok (.getfield 150, 3) := by decide +kernel
theorem dX9_readsJoin_4 : decode cX9_readsJoin 4 = .ok (.istore_n 1, 1) := by decide +kernel
theorem dX9_readsJoin_5 : decode cX9_readsJoin 5 = .ok (.aload_n 0, 1) := by decide +kernel
theorem dX9_readsJoin_6 : decode cX9_readsJoin 6 = .ok (.iconst 3, 1) := by decide +kernel
theorem dX9_readsJoin_7 : decode cX9_readsJoin 7 = .ok (.invokevirtual 153, 3) := by decide +kernel
theorem dX9_readsJoin_10 : decode cX9_readsJoin 10 = .ok (.iconst 1, 1) := by decide +kernel
theorem dX9_readsJoin_11 : decode cX9_readsJoin 11 = .ok (.istore_n 2, 1) := by decide +kernel
theorem dX9_readsJoin_12 : decode cX9_readsJoin 12 = .ok (.iload_n 2, 1) := by decide +kernel
theorem dX9_readsJoin_13 : decode cX9_readsJoin 13 = .ok (.ifCond .eq 185, 3) := by decide +kernel
theorem dX9_readsJoin_16 : decode cX9_readsJoin 16 = .ok (.iconst 3, 1) := by decide +kernel
theorem dX9_readsJoin_17 : decode cX9_readsJoin 17 = .ok (.iload_n 1, 1) := by decide +kernel
theorem dX9_readsJoin_18 : decode cX9_readsJoin 18 = .ok (.imul, 1) := by decide +kernel
theorem dX9_readsJoin_19 : decode cX9_readsJoin 19 = .ok (.aload_n 0, 1) := by decide +kernel
theorem dX9_readsJoin_20 : decode cX9_readsJoin 20 = .ok (.getfield 77, 3) := by decide +kernel
theorem dX9_readsJoin_23 : decode cX9_readsJoin 23 = .ok (.iload_n 1, 1) := by decide +kernel
theorem dX9_readsJoin_24 : decode cX9_readsJoin 24 = .ok (.iaload, 1) := by decide +kernel
theorem dX9_readsJoin_25 : decode cX9_readsJoin 25 = .ok (.iadd, 1) := by decide +kernel
theorem dX9_readsJoin_26 : decode cX9_readsJoin 26 = .ok (.istore_n 3, 1) := by decide +kernel
theorem dX9_readsJoin_27 : decode cX9_readsJoin 27 = .ok (.iconst (-1), 1) := by decide +kernel
theorem dX9_readsJoin_28 : decode cX9_readsJoin 28 = .ok (.istore 4, 2) := by decide +kernel
theorem dX9_readsJoin_30 : decode cX9_readsJoin 30 = .ok (.aload_n 0, 1) := by decide +kernel
theorem dX9_readsJoin_31 : decode cX9_readsJoin 31 = .ok (.getfield 139, 3) := by decide +kernel
theorem dX9_readsJoin_34 : decode cX9_readsJoin 34 = .ok (.ifCond .ne 14, 3) := by decide +kernel
theorem dX9_readsJoin_37 : decode cX9_readsJoin 37 = .ok (.aload_n 0, 1) := by decide +kernel
theorem dX9_readsJoin_38 : decode cX9_readsJoin 38 = .ok (.invokevirtual 143, 3) := by decide +kernel
theorem dX9_readsJoin_41 : decode cX9_readsJoin 41 = .ok (.pop, 1) := by decide +kernel
theorem dX9_readsJoin_42 : decode cX9_readsJoin 42 = .ok (.aload_n 0, 1) := by decide +kernel
theorem dX9_readsJoin_43 : decode cX9_readsJoin 43 = .ok (.getfield 136, 3) := by decide +kernel
theorem dX9_readsJoin_46 : decode cX9_readsJoin 46 = .ok (.istore 4, 2) := by decide +kernel
theorem dX9_readsJoin_48 : decode cX9_readsJoin 48 = .ok (.aload_n 0, 1) := by decide +kernel
theorem dX9_readsJoin_49 : decode cX9_readsJoin 49 = .ok (.bipush 7, 2) := by decide +kernel
theorem dX9_readsJoin_51 : decode cX9_readsJoin 51 = .ok (.invokevirtual 157, 3) := by decide +kernel
theorem dX9_readsJoin_54 : decode cX9_readsJoin 54 = .ok (.istore 5, 2) := by decide +kernel
theorem dX9_readsJoin_56 : decode cX9_readsJoin 56 = .ok (.iconst 0, 1) := by decide +kernel
theorem dX9_readsJoin_57 : decode cX9_readsJoin 57 = .ok (.istore 6, 2) := by decide +kernel
theorem dX9_readsJoin_59 : decode cX9_readsJoin 59 = .ok (.iload 6, 2) := by decide +kernel
theorem dX9_readsJoin_61 : decode cX9_readsJoin 61 = .ok (.aload_n 0, 1) := by decide +kernel
theorem dX9_readsJoin_62 : decode cX9_readsJoin 62 = .ok (.getfield 77, 3) := by decide +kernel
theorem dX9_readsJoin_65 : decode cX9_readsJoin 65 = .ok (.iload_n 1, 1) := by decide +kernel
theorem dX9_readsJoin_66 : decode cX9_readsJoin 66 = .ok (.iaload, 1) := by decide +kernel
theorem dX9_readsJoin_67 : decode cX9_readsJoin 67 = .ok (.if_icmp .ge 61, 3) := by decide +kernel
theorem dX9_readsJoin_70 : decode cX9_readsJoin 70 = .ok (.aload_n 0, 1) := by decide +kernel
theorem dX9_readsJoin_71 : decode cX9_readsJoin 71 = .ok (.getfield 139, 3) := by decide +kernel
theorem dX9_readsJoin_74 : decode cX9_readsJoin 74 = .ok (.ifCond .ne 54, 3) := by decide +kernel
theorem dX9_readsJoin_77 : decode cX9_readsJoin 77 = .ok (.aload_n 0, 1) := by decide +kernel
theorem dX9_readsJoin_78 : decode cX9_readsJoin 78 = .ok (.aload_n 0, 1) := by decide +kernel
theorem dX9_readsJoin_79 : decode cX9_readsJoin 79 = .ok (.getfield 80, 3) := by decide +kernel
theorem dX9_readsJoin_82 : decode cX9_readsJoin 82 = .ok (.iconst 3, 1) := by decide +kernel
theorem dX9_readsJoin_83 : decode cX9_readsJoin 83 = .ok (.iload_n 1, 1) := by decide +kernel
theorem dX9_readsJoin_84 : decode cX9_readsJoin 84 = .ok (.imul, 1) := by decide +kernel
theorem dX9_readsJoin_85 : decode cX9_readsJoin 85 = .ok (.iload 6, 2) := by decide +kernel
theorem dX9_readsJoin_87 : decode cX9_readsJoin 87 = .ok (.iadd, 1) := by decide +kernel
theorem dX9_readsJoin_88 : decode cX9_readsJoin 88 = .ok (.iaload, 1) := by decide +kernel
theorem dX9_readsJoin_89 : decode cX9_readsJoin 89 = .ok (.iload 5, 2) := by decide +kernel
theorem dX9_readsJoin_91 : decode cX9_readsJoin 91 = .ok (.if_icmp .ne 7, 3) := by decide +kernel
theorem dX9_readsJoin_94 : decode cX9_readsJoin 94 = .ok (.iconst 1, 1) := by decide +kernel
theorem dX9_readsJoin_95 : decode cX9_readsJoin 95 = .ok (.goto 4, 3) := by decide +kernel
theorem dX9_readsJoin_98 : decode cX9_readsJoin 98 = .ok (.iconst 0, 1) := by decide +kernel
theorem dX9_readsJoin_99 : decode cX9_readsJoin 99 = .ok (.putfield 139, 3) := by decide +kernel
theorem dX9_readsJoin_102 : decode cX9_readsJoin 102 = .ok (.aload_n 0, 1) := by decide +kernel
theorem dX9_readsJoin_103 : decode cX9_readsJoin 103 = .ok (.aload_n 0, 1) := by decide +kernel
theorem dX9_readsJoin_104 : decode cX9_readsJoin 104 = .ok (.getfield 139, 3) := by decide +kernel
theorem dX9_readsJoin_107 : decode cX9_readsJoin 107 = .ok (.ifCond .eq 8, 3) := by decide +kernel
theorem dX9_readsJoin_110 : decode cX9_readsJoin 110 = .ok (.iload 4, 2) := by decide +kernel
theorem dX9_readsJoin_112 : decode cX9_readsJoin 112 = .ok (.goto 7, 3) := by decide +kernel
theorem dX9_readsJoin_115 : decode cX9_readsJoin 115 = .ok (.aload_n 0, 1) := by decide +kernel
theorem dX9_readsJoin_116 : decode cX9_readsJoin 116 = .ok (.getfield 136, 3) := by decide +kernel
theorem dX9_readsJoin_119 : decode cX9_readsJoin 119 = .ok (.putfield 136, 3) := by decide +kernel
theorem dX9_readsJoin_122 : decode cX9_readsJoin 122 = .ok (.iinc 6 1, 3) := by decide +kernel
theorem dX9_readsJoin_125 : decode cX9_readsJoin 125 = .ok (.goto (-66), 3) := by decide +kernel
theorem dX9_readsJoin_128 : decode cX9_readsJoin 128 = .ok (.aload_n 0, 1) := by decide +kernel
theorem dX9_readsJoin_129 : decode cX9_readsJoin 129 = .ok (.getfield 80, 3) := by decide +kernel
theorem dX9_readsJoin_132 : decode cX9_readsJoin 132 = .ok (.iload_n 3, 1) := by decide +kernel
theorem dX9_readsJoin_133 : decode cX9_readsJoin 133 = .ok (.iload 5, 2) := by decide +kernel
theorem dX9_readsJoin_135 : decode cX9_readsJoin 135 = .ok (.iastore, 1) := by decide +kernel
theorem dX9_readsJoin_136 : decode cX9_readsJoin 136 = .ok (.aload_n 0, 1) := by decide +kernel
theorem dX9_readsJoin_137 : decode cX9_readsJoin 137 = .ok (.getfield 83, 3) := by decide +kernel
theorem dX9_readsJoin_140 : decode cX9_readsJoin 140 = .ok (.iload_n 3, 1) := by decide +kernel
theorem dX9_readsJoin_141 : decode cX9_readsJoin 141 = .ok (.aload_n 0, 1) := by decide +kernel
theorem dX9_readsJoin_142 : decode cX9_readsJoin 142 = .ok (.bipush 23, 2) := by decide +kernel
theorem dX9_readsJoin_144 : decode cX9_readsJoin 144 = .ok (.invokevirtual 157, 3) := by decide +kernel
theorem dX9_readsJoin_147 : decode cX9_readsJoin 147 = .ok (.iastore, 1) := by decide +kernel
theorem dX9_readsJoin_148 : decode cX9_readsJoin 148 = .ok (.aload_n 0, 1) := by decide +kernel
theorem dX9_readsJoin_149 : decode cX9_readsJoin 149 = .ok (.getfield 77, 3) := by decide +kernel
theorem dX9_readsJoin_152 : decode cX9_readsJoin 152 = .ok (.iload_n 1, 1) := by decide +kernel
theorem dX9_readsJoin_153 : decode cX9_readsJoin 153 = .ok (.dup2, 1) := by decide +kernel
theorem dX9_readsJoin_154 : decode cX9_readsJoin 154 = .ok (.iaload, 1) := by decide +kernel
theorem dX9_readsJoin_155 : decode cX9_readsJoin 155 = .ok (.iconst 1, 1) := by decide +kernel
theorem dX9_readsJoin_156 : decode cX9_readsJoin 156 = .ok (.iadd, 1) := by decide +kernel
theorem dX9_readsJoin_157 : decode cX9_readsJoin 157 = .ok (.iastore, 1) := by decide +kernel
theorem dX9_readsJoin_158 : decode cX9_readsJoin 158 = .ok (.aload_n 0, 1) := by decide +kernel
theorem dX9_readsJoin_159 : decode cX9_readsJoin 159 = .ok (.getfield 139, 3) := by decide +kernel
theorem dX9_readsJoin_162 : decode cX9_readsJoin 162 = .ok (.ifCond .ne 31, 3) := by decide +kernel
theorem dX9_readsJoin_165 : decode cX9_readsJoin 165 = .ok (.aload_n 0, 1) := by decide +kernel
theorem dX9_readsJoin_166 : decode cX9_readsJoin 166 = .ok (.getfield 77, 3) := by decide +kernel
theorem dX9_readsJoin_169 : decode cX9_readsJoin 169 = .ok (.iload_n 1, 1) := by decide +kernel
theorem dX9_readsJoin_170 : decode cX9_readsJoin 170 = .ok (.iaload, 1) := by decide +kernel
theorem dX9_readsJoin_171 : decode cX9_readsJoin 171 = .ok (.iconst 3, 1) := by decide +kernel
theorem dX9_readsJoin_172 : decode cX9_readsJoin 172 = .ok (.if_icmp .ge 21, 3) := by decide +kernel
theorem dX9_readsJoin_175 : decode cX9_readsJoin 175 = .ok (.aload_n 0, 1) := by decide +kernel
theorem dX9_readsJoin_176 : decode cX9_readsJoin 176 = .ok (.invokevirtual 143, 3) := by decide +kernel
theorem dX9_readsJoin_179 : decode cX9_readsJoin 179 = .ok (.bipush 48, 2) := by decide +kernel
theorem dX9_readsJoin_181 : decode cX9_readsJoin 181 = .ok (.bipush 57, 2) := by decide +kernel
theorem dX9_readsJoin_183 : decode cX9_readsJoin 183 = .ok (.invokestatic 126, 3) := by decide +kernel
theorem dX9_readsJoin_186 : decode cX9_readsJoin 186 = .ok (.ifCond .eq 7, 3) := by decide +kernel
theorem dX9_readsJoin_189 : decode cX9_readsJoin 189 = .ok (.iconst 1, 1) := by decide +kernel
theorem dX9_readsJoin_190 : decode cX9_readsJoin 190 = .ok (.goto 4, 3) := by decide +kernel
theorem dX9_readsJoin_193 : decode cX9_readsJoin 193 = .ok (.iconst 0, 1) := by decide +kernel
theorem dX9_readsJoin_194 : decode cX9_readsJoin 194 = .ok (.istore_n 2, 1) := by decide +kernel
theorem dX9_readsJoin_195 : decode cX9_readsJoin 195 = .ok (.goto (-183), 3) := by decide +kernel
theorem dX9_readsJoin_198 : decode cX9_readsJoin 198 = .ok (.aload_n 0, 1) := by decide +kernel
theorem dX9_readsJoin_199 : decode cX9_readsJoin 199 = .ok (.invokevirtual 165, 3) := by decide +kernel
theorem dX9_readsJoin_202 : decode cX9_readsJoin 202 = .ok (.return_, 1) := by decide +kernel
theorem dX9_readsEnd_0 : decode cX9_readsEnd 0 = .ok (.aload_n 0, 1) := by decide +kernel
theorem dX9_readsEnd_1 : decode cX9_readsEnd 1 = .ok (.getfield 147, 3) := by decide +kernel
theorem dX9_readsEnd_4 : decode cX9_readsEnd 4 = .ok (.iconst 1, 1) := by decide +kernel
theorem dX9_readsEnd_5 : decode cX9_readsEnd 5 = .ok (.isub, 1) := by decide +kernel
theorem dX9_readsEnd_6 : decode cX9_readsEnd 6 = .ok (.istore_n 2, 1) := by decide +kernel
theorem dX9_readsEnd_7 : decode cX9_readsEnd 7 = .ok (.aload_n 0, 1) := by decide +kernel
theorem dX9_readsEnd_8 : decode cX9_readsEnd 8 = .ok (.getfield 89, 3) := by decide +kernel
theorem dX9_readsEnd_11 : decode cX9_readsEnd 11 = .ok (.iload_n 2, 1) := by decide +kernel
theorem dX9_readsEnd_12 : decode cX9_readsEnd 12 = .ok (.iload_n 1, 1) := by decide +kernel
theorem dX9_readsEnd_13 : decode cX9_readsEnd 13 = .ok (.bipush 103, 2) := by decide +kernel
theorem dX9_readsEnd_15 : decode cX9_readsEnd 15 = .ok (.if_icmp .ne 7, 3) := by decide +kernel
theorem dX9_readsEnd_18 : decode cX9_readsEnd 18 = .ok (.iconst 0, 1) := by decide +kernel
theorem dX9_readsEnd_19 : decode cX9_readsEnd 19 = .ok (.goto 14, 3) := by decide +kernel
theorem dX9_readsEnd_22 : decode cX9_readsEnd 22 = .ok (.iload_n 1, 1) := by decide +kernel
theorem dX9_readsEnd_23 : decode cX9_readsEnd 23 = .ok (.bipush 113, 2) := by decide +kernel
theorem dX9_readsEnd_25 : decode cX9_readsEnd 25 = .ok (.if_icmp .ne 7, 3) := by decide +kernel
theorem dX9_readsEnd_28 : decode cX9_readsEnd 28 = .ok (.iconst 1, 1) := by decide +kernel
theorem dX9_readsEnd_29 : decode cX9_readsEnd 29 = .ok (.goto 4, 3) := by decide +kernel
theorem dX9_readsEnd_32 : decode cX9_readsEnd 32 = .ok (.iconst 2, 1) := by decide +kernel
theorem dX9_readsEnd_33 : decode cX9_readsEnd 33 = .ok (.iastore, 1) := by decide +kernel
theorem dX9_readsEnd_34 : decode cX9_readsEnd 34 = .ok (.aload_n 0, 1) := by decide +kernel
theorem dX9_readsEnd_35 : decode cX9_readsEnd 35 = .ok (.getfield 92, 3) := by decide +kernel
theorem dX9_readsEnd_38 : decode cX9_readsEnd 38 = .ok (.iload_n 2, 1) := by decide +kernel
theorem dX9_readsEnd_39 : decode cX9_readsEnd 39 = .ok (.iload_n 1, 1) := by decide +kernel
theorem dX9_readsEnd_40 : decode cX9_readsEnd 40 = .ok (.bipush 103, 2) := by decide +kernel
theorem dX9_readsEnd_42 : decode cX9_readsEnd 42 = .ok (.if_icmp .ne 8, 3) := by decide +kernel
theorem dX9_readsEnd_45 : decode cX9_readsEnd 45 = .ok (.bipush (-9), 2) := by decide +kernel
theorem dX9_readsEnd_47 : decode cX9_readsEnd 47 = .ok (.goto 9, 3) := by decide +kernel
theorem dX9_readsEnd_50 : decode cX9_readsEnd 50 = .ok (.aload_n 0, 1) := by decide +kernel
theorem dX9_readsEnd_51 : decode cX9_readsEnd 51 = .ok (.bipush 23, 2) := by decide +kernel
theorem dX9_readsEnd_53 : decode cX9_readsEnd 53 = .ok (.invokevirtual 157, 3) := by decide +kernel
theorem dX9_readsEnd_56 : decode cX9_readsEnd 56 = .ok (.iastore, 1) := by decide +kernel
theorem dX9_readsEnd_57 : decode cX9_readsEnd 57 = .ok (.aload_n 0, 1) := by decide +kernel
theorem dX9_readsEnd_58 : decode cX9_readsEnd 58 = .ok (.getfield 95, 3) := by decide +kernel
theorem dX9_readsEnd_61 : decode cX9_readsEnd 61 = .ok (.bipush 96, 2) := by decide +kernel
theorem dX9_readsEnd_63 : decode cX9_readsEnd 63 = .ok (.iconst 2, 1) := by decide +kernel
theorem dX9_readsEnd_64 : decode cX9_readsEnd 64 = .ok (.iload_n 2, 1) := by decide +kernel
theorem dX9_readsEnd_65 : decode cX9_readsEnd 65 = .ok (.imul, 1) := by decide +kernel
theorem dX9_readsEnd_66 : decode cX9_readsEnd 66 = .ok (.iadd, 1) := by decide +kernel
theorem dX9_readsEnd_67 : decode cX9_readsEnd 67 = .ok (.iload_n 1, 1) := by decide +kernel
theorem dX9_readsEnd_68 : decode cX9_readsEnd 68 = .ok (.bipush 122, 2) := by decide +kernel
theorem dX9_readsEnd_70 : decode cX9_readsEnd 70 = .ok (.if_icmp .ne 8, 3) := by decide +kernel
theorem dX9_readsEnd_73 : decode cX9_readsEnd 73 = .ok (.bipush (-9), 2) := by decide +kernel
theorem dX9_readsEnd_75 : decode cX9_readsEnd 75 = .ok (.goto 9, 3) := by decide +kernel
theorem dX9_readsEnd_78 : decode cX9_readsEnd 78 = .ok (.aload_n 0, 1) := by decide +kernel
theorem dX9_readsEnd_79 : decode cX9_readsEnd 79 = .ok (.bipush 7, 2) := by decide +kernel
theorem dX9_readsEnd_81 : decode cX9_readsEnd 81 = .ok (.invokevirtual 157, 3) := by decide +kernel
theorem dX9_readsEnd_84 : decode cX9_readsEnd 84 = .ok (.iastore, 1) := by decide +kernel
theorem dX9_readsEnd_85 : decode cX9_readsEnd 85 = .ok (.aload_n 0, 1) := by decide +kernel
theorem dX9_readsEnd_86 : decode cX9_readsEnd 86 = .ok (.getfield 95, 3) := by decide +kernel
theorem dX9_readsEnd_89 : decode cX9_readsEnd 89 = .ok (.bipush 96, 2) := by decide +kernel
theorem dX9_readsEnd_91 : decode cX9_readsEnd 91 = .ok (.iconst 2, 1) := by decide +kernel
theorem dX9_readsEnd_92 : decode cX9_readsEnd 92 = .ok (.iload_n 2, 1) := by decide +kernel
theorem dX9_readsEnd_93 : decode cX9_readsEnd 93 = .ok (.imul, 1) := by decide +kernel
theorem dX9_readsEnd_94 : decode cX9_readsEnd 94 = .ok (.iadd, 1) := by decide +kernel
theorem dX9_readsEnd_95 : decode cX9_readsEnd 95 = .ok (.iconst 1, 1) := by decide +kernel
theorem dX9_readsEnd_96 : decode cX9_readsEnd 96 = .ok (.iadd, 1) := by decide +kernel
theorem dX9_readsEnd_97 : decode cX9_readsEnd 97 = .ok (.bipush (-9), 2) := by decide +kernel
theorem dX9_readsEnd_99 : decode cX9_readsEnd 99 = .ok (.iastore, 1) := by decide +kernel
theorem dX9_readsEnd_100 : decode cX9_readsEnd 100 = .ok (.iload_n 1, 1) := by decide +kernel
theorem dX9_readsEnd_101 : decode cX9_readsEnd 101 = .ok (.bipush 113, 2) := by decide +kernel
theorem dX9_readsEnd_103 : decode cX9_readsEnd 103 = .ok (.if_icmp .ne 76, 3) := by decide +kernel
theorem dX9_readsEnd_106 : decode cX9_readsEnd 106 = .ok (.aload_n 0, 1) := by decide +kernel
theorem dX9_readsEnd_107 : decode cX9_readsEnd 107 = .ok (.getfield 139, 3) := by decide +kernel
theorem dX9_readsEnd_110 : decode cX9_readsEnd 110 = .ok (.ifCond .ne 69, 3) := by decide +kernel
theorem dX9_readsEnd_113 : decode cX9_readsEnd 113 = .ok (.aload_n 0, 1) := by decide +kernel
theorem dX9_readsEnd_114 : decode cX9_readsEnd 114 = .ok (.invokevirtual 143, 3) := by decide +kernel
theorem dX9_readsEnd_117 : decode cX9_readsEnd 117 = .ok (.pop, 1) := by decide +kernel
theorem dX9_readsEnd_118 : decode cX9_readsEnd 118 = .ok (.aload_n 0, 1) := by decide +kernel
theorem dX9_readsEnd_119 : decode cX9_readsEnd 119 = .ok (.getfield 136, 3) := by decide +kernel
theorem dX9_readsEnd_122 : decode cX9_readsEnd 122 = .ok (.istore_n 3, 1) := by decide +kernel
theorem dX9_readsEnd_123 : decode cX9_readsEnd 123 = .ok (.aload_n 0, 1) := by decide +kernel
theorem dX9_readsEnd_124 : decode cX9_readsEnd 124 = .ok (.bipush 7, 2) := by decide +kernel
theorem dX9_readsEnd_126 : decode cX9_readsEnd 126 = .ok (.invokevirtual 157, 3) := by decide +kernel
theorem dX9_readsEnd_129 : decode cX9_readsEnd 129 = .ok (.istore 4, 2) := by decide +kernel
theorem dX9_readsEnd_131 : decode cX9_readsEnd 131 = .ok (.aload_n 0, 1) := by decide +kernel
theorem dX9_readsEnd_132 : decode cX9_readsEnd 132 = .ok (.getfield 139, 3) := by decide +kernel
theorem dX9_readsEnd_135 : decode cX9_readsEnd 135 = .ok (.ifCond .ne 29, 3) := by decide +kernel
theorem dX9_readsEnd_138 : decode cX9_readsEnd 138 = .ok (.iload 4, 2) := by decide +kernel
theorem dX9_readsEnd_140 : decode cX9_readsEnd 140 = .ok (.aload_n 0, 1) := by decide +kernel
theorem dX9_readsEnd_141 : decode cX9_readsEnd 141 = .ok (.getfield 95, 3) := by decide +kernel
theorem dX9_readsEnd_144 : decode cX9_readsEnd 144 = .ok (.bipush 96, 2) := by decide +kernel
theorem dX9_readsEnd_146 : decode cX9_readsEnd 146 = .ok (.iconst 2, 1) := by decide +kernel
theorem dX9_readsEnd_147 : decode cX9_readsEnd 147 = .ok (.iload_n 2, 1) := by decide +kernel
theorem dX9_readsEnd_148 : decode cX9_readsEnd 148 = .ok (.imul, 1) := by decide +kernel
theorem dX9_readsEnd_149 : decode cX9_readsEnd 149 = .ok (.iadd, 1) := by decide +kernel
theorem dX9_readsEnd_150 : decode cX9_readsEnd 150 = .ok (.iaload, 1) := by decide +kernel
theorem dX9_readsEnd_151 : decode cX9_readsEnd 151 = .ok (.if_icmp .ne 13, 3) := by decide +kernel
theorem dX9_readsEnd_154 : decode cX9_readsEnd 154 = .ok (.aload_n 0, 1) := by decide +kernel
theorem dX9_readsEnd_155 : decode cX9_readsEnd 155 = .ok (.iconst 1, 1) := by decide +kernel
theorem dX9_readsEnd_156 : decode cX9_readsEnd 156 = .ok (.putfield 139, 3) := by decide +kernel
theorem dX9_readsEnd_159 : decode cX9_readsEnd 159 = .ok (.aload_n 0, 1) := by decide +kernel
theorem dX9_readsEnd_160 : decode cX9_readsEnd 160 = .ok (.iload_n 3, 1) := by decide +kernel
theorem dX9_readsEnd_161 : decode cX9_readsEnd 161 = .ok (.putfield 136, 3) := by decide +kernel
theorem dX9_readsEnd_164 : decode cX9_readsEnd 164 = .ok (.aload_n 0, 1) := by decide +kernel
theorem dX9_readsEnd_165 : decode cX9_readsEnd 165 = .ok (.getfield 95, 3) := by decide +kernel
theorem dX9_readsEnd_168 : decode cX9_readsEnd 168 = .ok (.bipush 96, 2) := by decide +kernel
theorem dX9_readsEnd_170 : decode cX9_readsEnd 170 = .ok (.iconst 2, 1) := by decide +kernel
theorem dX9_readsEnd_171 : decode cX9_readsEnd 171 = .ok (.iload_n 2, 1) := by decide +kernel
theorem dX9_readsEnd_172 : decode cX9_readsEnd 172 = .ok (.imul, 1) := by decide +kernel
theorem dX9_readsEnd_173 : decode cX9_readsEnd 173 = .ok (.iadd, 1) := by decide +kernel
theorem dX9_readsEnd_174 : decode cX9_readsEnd 174 = .ok (.iconst 1, 1) := by decide +kernel
theorem dX9_readsEnd_175 : decode cX9_readsEnd 175 = .ok (.iadd, 1) := by decide +kernel
theorem dX9_readsEnd_176 : decode cX9_readsEnd 176 = .ok (.iload 4, 2) := by decide +kernel
theorem dX9_readsEnd_178 : decode cX9_readsEnd 178 = .ok (.iastore, 1) := by decide +kernel
theorem dX9_readsEnd_179 : decode cX9_readsEnd 179 = .ok (.aload_n 0, 1) := by decide +kernel
theorem dX9_readsEnd_180 : decode cX9_readsEnd 180 = .ok (.iconst 0, 1) := by decide +kernel
theorem dX9_readsEnd_181 : decode cX9_readsEnd 181 = .ok (.putfield 168, 3) := by decide +kernel
theorem dX9_readsEnd_184 : decode cX9_readsEnd 184 = .ok (.aload_n 0, 1) := by decide +kernel
theorem dX9_readsEnd_185 : decode cX9_readsEnd 185 = .ok (.invokevirtual 165, 3) := by decide +kernel
theorem dX9_readsEnd_188 : decode cX9_readsEnd 188 = .ok (.return_, 1) := by decide +kernel
theorem dX9_mayBegin_0 : decode cX9_mayBegin 0 = .ok (.aload_n 0, 1) := by decide +kernel
theorem dX9_mayBegin_1 : decode cX9_mayBegin 1 = .ok (.getfield 136, 3) := by decide +kernel
theorem dX9_mayBegin_4 : decode cX9_mayBegin 4 = .ok (.iconst 1, 1) := by decide +kernel
theorem dX9_mayBegin_5 : decode cX9_mayBegin 5 = .ok (.iadd, 1) := by decide +kernel
theorem dX9_mayBegin_6 : decode cX9_mayBegin 6 = .ok (.aload_n 0, 1) := by decide +kernel
theorem dX9_mayBegin_7 : decode cX9_mayBegin 7 = .ok (.getfield 133, 3) := by decide +kernel
theorem dX9_mayBegin_10 : decode cX9_mayBegin 10 = .ok (.if_icmp .ge 24, 3) := by decide +kernel
theorem dX9_mayBegin_13 : decode cX9_mayBegin 13 = .ok (.aload_n 0, 1) := by decide +kernel
theorem dX9_mayBegin_14 : decode cX9_mayBegin 14 = .ok (.getfield 7, 3) := by decide +kernel
theorem dX9_mayBegin_17 : decode cX9_mayBegin 17 = .ok (.aload_n 0, 1) := by decide +kernel
theorem dX9_mayBegin_18 : decode cX9_mayBegin 18 = .ok (.getfield 136, 3) := by decide +kernel
theorem dX9_mayBegin_21 : decode cX9_mayBegin 21 = .ok (.iconst 1, 1) := by decide +kernel
theorem dX9_mayBegin_22 : decode cX9_mayBegin 22 = .ok (.iadd, 1) := by decide +kernel
theorem dX9_mayBegin_23 : decode cX9_mayBegin 23 = .ok (.iaload, 1) := by decide +kernel
theorem dX9_mayBegin_24 : decode cX9_mayBegin 24 = .ok (.bipush 97, 2) := by decide +kernel
theorem dX9_mayBegin_26 : decode cX9_mayBegin 26 = .ok (.bipush 122, 2) := by decide +kernel
theorem dX9_mayBegin_28 : decode cX9_mayBegin 28 = .ok (.invokestatic 126, 3) := by decide +kernel
theorem dX9_mayBegin_31 : decode cX9_mayBegin 31 = .ok (.ifCond .ne 7, 3) := by decide +kernel
theorem dX9_mayBegin_34 : decode cX9_mayBegin 34 = .ok (.iconst 1, 1) := by decide +kernel
theorem dX9_mayBegin_35 : decode cX9_mayBegin 35 = .ok (.goto 4, 3) := by decide +kernel
theorem dX9_mayBegin_38 : decode cX9_mayBegin 38 = .ok (.iconst 0, 1) := by decide +kernel
theorem dX9_mayBegin_39 : decode cX9_mayBegin 39 = .ok (.istore_n 2, 1) := by decide +kernel
theorem dX9_mayBegin_40 : decode cX9_mayBegin 40 = .ok (.iload_n 1, 1) := by decide +kernel
theorem dX9_mayBegin_41 : decode cX9_mayBegin 41 = .ok (.tableswitch 225 98 122 #[115, 225, 225, 225, 225, 208, 225, 141, 167, 141, 225, 225, 225, 141, 225, 208, 225, 225, 225, 225, 225, 225, 225, 225, 208], 115) := by decide +kernel
theorem dX9_mayBegin_156 : decode cX9_mayBegin 156 = .ok (.iload_n 2, 1) := by decide +kernel
theorem dX9_mayBegin_157 : decode cX9_mayBegin 157 = .ok (.ifCond .eq 23, 3) := by decide +kernel
theorem dX9_mayBegin_160 : decode cX9_mayBegin 160 = .ok (.aload_n 0, 1) := by decide +kernel
theorem dX9_mayBegin_161 : decode cX9_mayBegin 161 = .ok (.getfield 168, 3) := by decide +kernel
theorem dX9_mayBegin_164 : decode cX9_mayBegin 164 = .ok (.ifCond .ne 16, 3) := by decide +kernel
theorem dX9_mayBegin_167 : decode cX9_mayBegin 167 = .ok (.aload_n 0, 1) := by decide +kernel
theorem dX9_mayBegin_168 : decode cX9_mayBegin 168 = .ok (.getfield 147, 3) := by decide +kernel
theorem dX9_mayBegin_171 : decode cX9_mayBegin 171 = .ok (.bipush 8, 2) := by decide +kernel
theorem dX9_mayBegin_173 : decode cX9_mayBegin 173 = .ok (.if_icmp .ge 7, 3) := by decide +kernel
theorem dX9_mayBegin_176 : decode cX9_mayBegin 176 = .ok (.iconst 1, 1) := by decide +kernel
theorem dX9_mayBegin_177 : decode cX9_mayBegin 177 = .ok (.goto 4, 3) := by decide +kernel
theorem dX9_mayBegin_180 : decode cX9_mayBegin 180 = .ok (.iconst 0, 1) := by decide +kernel
theorem dX9_mayBegin_181 : decode cX9_mayBegin 181 = .ok (.ireturn, 1) := by decide +kernel
theorem dX9_mayBegin_182 : decode cX9_mayBegin 182 = .ok (.iload_n 2, 1) := by decide +kernel
theorem dX9_mayBegin_183 : decode cX9_mayBegin 183 = .ok (.ifCond .eq 23, 3) := by decide +kernel
theorem dX9_mayBegin_186 : decode cX9_mayBegin 186 = .ok (.aload_n 0, 1) := by decide +kernel
theorem dX9_mayBegin_187 : decode cX9_mayBegin 187 = .ok (.getfield 168, 3) := by decide +kernel
theorem dX9_mayBegin_190 : decode cX9_mayBegin 190 = .ok (.ifCond .eq 16, 3) := by decide +kernel
theorem dX9_mayBegin_193 : decode cX9_mayBegin 193 = .ok (.aload_n 0, 1) := by decide +kernel
theorem dX9_mayBegin_194 : decode cX9_mayBegin 194 = .ok (.getfield 150, 3) := by decide +kernel
theorem dX9_mayBegin_197 : decode cX9_mayBegin 197 = .ok (.bipush 24, 2) := by decide +kernel
theorem dX9_mayBegin_199 : decode cX9_mayBegin 199 = .ok (.if_icmp .ge 7, 3) := by decide +kernel
theorem dX9_mayBegin_202 : decode cX9_mayBegin 202 = .ok (.iconst 1, 1) := by decide +kernel
theorem dX9_mayBegin_203 : decode cX9_mayBegin 203 = .ok (.goto 4, 3) := by decide +kernel
theorem dX9_mayBegin_206 : decode cX9_mayBegin 206 = .ok (.iconst 0, 1) := by decide +kernel
theorem dX9_mayBegin_207 : decode cX9_mayBegin 207 = .ok (.ireturn, 1) := by decide +kernel
theorem dX9_mayBegin_208 : decode cX9_mayBegin 208 = .ok (.iload_n 2, 1) := by decide +kernel
theorem dX9_mayBegin_209 : decode cX9_mayBegin 209 = .ok (.ifCond .eq 38, 3) := by decide +kernel
theorem dX9_mayBegin_212 : decode cX9_mayBegin 212 = .ok (.aload_n 0, 1) := by decide +kernel
theorem dX9_mayBegin_213 : decode cX9_mayBegin 213 = .ok (.getfield 168, 3) := by decide +kernel
theorem dX9_mayBegin_216 : decode cX9_mayBegin 216 = .ok (.ifCond .eq 31, 3) := by decide +kernel
theorem dX9_mayBegin_219 : decode cX9_mayBegin 219 = .ok (.aload_n 0, 1) := by decide +kernel
theorem dX9_mayBegin_220 : decode cX9_mayBegin 220 = .ok (.getfield 150, 3) := by decide +kernel
theorem dX9_mayBegin_223 : decode cX9_mayBegin 223 = .ok (.bipush 24, 2) := by decide +kernel
theorem dX9_mayBegin_225 : decode cX9_mayBegin 225 = .ok (.if_icmp .ge 22, 3) := by decide +kernel
theorem dX9_mayBegin_228 : decode cX9_mayBegin 228 = .ok (.aload_n 0, 1) := by decide +kernel
theorem dX9_mayBegin_229 : decode cX9_mayBegin 229 = .ok (.getfield 147, 3) := by decide +kernel
theorem dX9_mayBegin_232 : decode cX9_mayBegin 232 = .ok (.iconst 1, 1) := by decide +kernel
theorem dX9_mayBegin_233 : decode cX9_mayBegin 233 = .ok (.if_icmp .le 14, 3) := by decide +kernel
theorem dX9_mayBegin_236 : decode cX9_mayBegin 236 = .ok (.aload_n 0, 1) := by decide +kernel
theorem dX9_mayBegin_237 : decode cX9_mayBegin 237 = .ok (.invokevirtual 171, 3) := by decide +kernel
theorem dX9_mayBegin_240 : decode cX9_mayBegin 240 = .ok (.ifCond .eq 7, 3) := by decide +kernel
theorem dX9_mayBegin_243 : decode cX9_mayBegin 243 = .ok (.iconst 1, 1) := by decide +kernel
theorem dX9_mayBegin_244 : decode cX9_mayBegin 244 = .ok (.goto 4, 3) := by decide +kernel
theorem dX9_mayBegin_247 : decode cX9_mayBegin 247 = .ok (.iconst 0, 1) := by decide +kernel
theorem dX9_mayBegin_248 : decode cX9_mayBegin 248 = .ok (.ireturn, 1) := by decide +kernel
theorem dX9_mayBegin_249 : decode cX9_mayBegin 249 = .ok (.iload_n 2, 1) := by decide +kernel
theorem dX9_mayBegin_250 : decode cX9_mayBegin 250 = .ok (.ifCond .eq 14, 3) := by decide +kernel
theorem dX9_mayBegin_253 : decode cX9_mayBegin 253 = .ok (.aload_n 0, 1) := by decide +kernel
theorem dX9_mayBegin_254 : decode cX9_mayBegin 254 = .ok (.getfield 168, 3) := by decide +kernel
theorem dX9_mayBegin_257 : decode cX9_mayBegin 257 = .ok (.ifCond .eq 7, 3) := by decide +kernel
theorem dX9_mayBegin_260 : decode cX9_mayBegin 260 = .ok (.iconst 1, 1) := by decide +kernel
theorem dX9_mayBegin_261 : decode cX9_mayBegin 261 = .ok (.goto 4, 3) := by decide +kernel
theorem dX9_mayBegin_264 : decode cX9_mayBegin 264 = .ok (.iconst 0, 1) := by decide +kernel
theorem dX9_mayBegin_265 : decode cX9_mayBegin 265 = .ok (.ireturn, 1) := by decide +kernel
theorem dX9_mayBegin_266 : decode cX9_mayBegin 266 = .ok (.iconst 0, 1) := by decide +kernel
theorem dX9_mayBegin_267 : decode cX9_mayBegin 267 = .ok (.ireturn, 1) := by decide +kernel
theorem dX9_readsItem_0 : decode cX9_readsItem 0 = .ok (.aload_n 0, 1) := by decide +kernel
theorem dX9_readsItem_1 : decode cX9_readsItem 1 = .ok (.invokevirtual 143, 3) := by decide +kernel
theorem dX9_readsItem_4 : decode cX9_readsItem 4 = .ok (.istore_n 1, 1) := by decide +kernel
theorem dX9_readsItem_5 : decode cX9_readsItem 5 = .ok (.aload_n 0, 1) := by decide +kernel
theorem dX9_readsItem_6 : decode cX9_readsItem 6 = .ok (.aload_n 0, 1) := by decide +kernel
theorem dX9_readsItem_7 : decode cX9_readsItem 7 = .ok (.iload_n 1, 1) := by decide +kernel
theorem dX9_readsItem_8 : decode cX9_readsItem 8 = .ok (.invokevirtual 175, 3) := by decide +kernel
theorem dX9_readsItem_11 : decode cX9_readsItem 11 = .ok (.ifCond .ne 7, 3) := by decide +kernel
theorem dX9_readsItem_14 : decode cX9_readsItem 14 = .ok (.iconst 1, 1) := by decide +kernel
theorem dX9_readsItem_15 : decode cX9_readsItem 15 = .ok (.goto 4, 3) := by decide +kernel
theorem dX9_readsItem_18 : decode cX9_readsItem 18 = .ok (.iconst 0, 1) := by decide +kernel
theorem dX9_readsItem_19 : decode cX9_readsItem 19 = .ok (.putfield 139, 3) := by decide +kernel
theorem dX9_readsItem_22 : decode cX9_readsItem 22 = .ok (.aload_n 0, 1) := by decide +kernel
theorem dX9_readsItem_23 : decode cX9_readsItem 23 = .ok (.getfield 139, 3) := by decide +kernel
theorem dX9_readsItem_26 : decode cX9_readsItem 26 = .ok (.ifCond .eq 4, 3) := by decide +kernel
theorem dX9_readsItem_29 : decode cX9_readsItem 29 = .ok (.return_, 1) := by decide +kernel
theorem dX9_readsItem_30 : decode cX9_readsItem 30 = .ok (.aload_n 0, 1) := by decide +kernel
theorem dX9_readsItem_31 : decode cX9_readsItem 31 = .ok (.dup, 1) := by decide +kernel
theorem dX9_readsItem_32 : decode cX9_readsItem 32 = .ok (.getfield 136, 3) := by decide +kernel
theorem dX9_readsItem_35 : decode cX9_readsItem 35 = .ok (.iconst 1, 1) := by decide +kernel
theorem dX9_readsItem_36 : decode cX9_readsItem 36 = .ok (.iadd, 1) := by decide +kernel
theorem dX9_readsItem_37 : decode cX9_readsItem 37 = .ok (.putfield 136, 3) := by decide +kernel
theorem dX9_readsItem_40 : decode cX9_readsItem 40 = .ok (.iload_n 1, 1) := by decide +kernel
theorem dX9_readsItem_41 : decode cX9_readsItem 41 = .ok (.tableswitch 165 98 111 #[71, 165, 165, 165, 165, 165, 165, 139, 158, 106, 165, 165, 165, 151], 71) := by decide +kernel
theorem dX9_readsItem_112 : decode cX9_readsItem 112 = .ok (.aload_n 0, 1) := by decide +kernel
theorem dX9_readsItem_113 : decode cX9_readsItem 113 = .ok (.getfield 86, 3) := by decide +kernel
theorem dX9_readsItem_116 : decode cX9_readsItem 116 = .ok (.aload_n 0, 1) := by decide +kernel
theorem dX9_readsItem_117 : decode cX9_readsItem 117 = .ok (.getfield 147, 3) := by decide +kernel
theorem dX9_readsItem_120 : decode cX9_readsItem 120 = .ok (.aload_n 0, 1) := by decide +kernel
theorem dX9_readsItem_121 : decode cX9_readsItem 121 = .ok (.getfield 150, 3) := by decide +kernel
theorem dX9_readsItem_124 : decode cX9_readsItem 124 = .ok (.iastore, 1) := by decide +kernel
theorem dX9_readsItem_125 : decode cX9_readsItem 125 = .ok (.aload_n 0, 1) := by decide +kernel
theorem dX9_readsItem_126 : decode cX9_readsItem 126 = .ok (.dup, 1) := by decide +kernel
theorem dX9_readsItem_127 : decode cX9_readsItem 127 = .ok (.getfield 147, 3) := by decide +kernel
theorem dX9_readsItem_130 : decode cX9_readsItem 130 = .ok (.iconst 1, 1) := by decide +kernel
theorem dX9_readsItem_131 : decode cX9_readsItem 131 = .ok (.iadd, 1) := by decide +kernel
theorem dX9_readsItem_132 : decode cX9_readsItem 132 = .ok (.putfield 147, 3) := by decide +kernel
theorem dX9_readsItem_135 : decode cX9_readsItem 135 = .ok (.aload_n 0, 1) := by decide +kernel
theorem dX9_readsItem_136 : decode cX9_readsItem 136 = .ok (.iconst 1, 1) := by decide +kernel
theorem dX9_readsItem_137 : decode cX9_readsItem 137 = .ok (.putfield 168, 3) := by decide +kernel
theorem dX9_readsItem_140 : decode cX9_readsItem 140 = .ok (.aload_n 0, 1) := by decide +kernel
theorem dX9_readsItem_141 : decode cX9_readsItem 141 = .ok (.invokevirtual 165, 3) := by decide +kernel
theorem dX9_readsItem_144 : decode cX9_readsItem 144 = .ok (.goto 67, 3) := by decide +kernel
theorem dX9_readsItem_147 : decode cX9_readsItem 147 = .ok (.aload_n 0, 1) := by decide +kernel
theorem dX9_readsItem_148 : decode cX9_readsItem 148 = .ok (.iconst 0, 1) := by decide +kernel
theorem dX9_readsItem_149 : decode cX9_readsItem 149 = .ok (.invokevirtual 153, 3) := by decide +kernel
theorem dX9_readsItem_152 : decode cX9_readsItem 152 = .ok (.aload_n 0, 1) := by decide +kernel
theorem dX9_readsItem_153 : decode cX9_readsItem 153 = .ok (.getfield 95, 3) := by decide +kernel
theorem dX9_readsItem_156 : decode cX9_readsItem 156 = .ok (.bipush 72, 2) := by decide +kernel
theorem dX9_readsItem_158 : decode cX9_readsItem 158 = .ok (.aload_n 0, 1) := by decide +kernel
theorem dX9_readsItem_159 : decode cX9_readsItem 159 = .ok (.getfield 150, 3) := by decide +kernel
theorem dX9_readsItem_162 : decode cX9_readsItem 162 = .ok (.iadd, 1) := by decide +kernel
theorem dX9_readsItem_163 : decode cX9_readsItem 163 = .ok (.iconst 1, 1) := by decide +kernel
theorem dX9_readsItem_164 : decode cX9_readsItem 164 = .ok (.isub, 1) := by decide +kernel
theorem dX9_readsItem_165 : decode cX9_readsItem 165 = .ok (.aload_n 0, 1) := by decide +kernel
theorem dX9_readsItem_166 : decode cX9_readsItem 166 = .ok (.sipush 999, 3) := by decide +kernel
theorem dX9_readsItem_169 : decode cX9_readsItem 169 = .ok (.invokevirtual 157, 3) := by decide +kernel
theorem dX9_readsItem_172 : decode cX9_readsItem 172 = .ok (.iastore, 1) := by decide +kernel
theorem dX9_readsItem_173 : decode cX9_readsItem 173 = .ok (.aload_n 0, 1) := by decide +kernel
theorem dX9_readsItem_174 : decode cX9_readsItem 174 = .ok (.invokevirtual 165, 3) := by decide +kernel
theorem dX9_readsItem_177 : decode cX9_readsItem 177 = .ok (.goto 34, 3) := by decide +kernel
theorem dX9_readsItem_180 : decode cX9_readsItem 180 = .ok (.aload_n 0, 1) := by decide +kernel
theorem dX9_readsItem_181 : decode cX9_readsItem 181 = .ok (.iconst 1, 1) := by decide +kernel
theorem dX9_readsItem_182 : decode cX9_readsItem 182 = .ok (.invokevirtual 153, 3) := by decide +kernel
theorem dX9_readsItem_185 : decode cX9_readsItem 185 = .ok (.aload_n 0, 1) := by decide +kernel
theorem dX9_readsItem_186 : decode cX9_readsItem 186 = .ok (.invokevirtual 165, 3) := by decide +kernel
theorem dX9_readsItem_189 : decode cX9_readsItem 189 = .ok (.goto 22, 3) := by decide +kernel
theorem dX9_readsItem_192 : decode cX9_readsItem 192 = .ok (.aload_n 0, 1) := by decide +kernel
theorem dX9_readsItem_193 : decode cX9_readsItem 193 = .ok (.invokevirtual 178, 3) := by decide +kernel
theorem dX9_readsItem_196 : decode cX9_readsItem 196 = .ok (.goto 15, 3) := by decide +kernel
theorem dX9_readsItem_199 : decode cX9_readsItem 199 = .ok (.aload_n 0, 1) := by decide +kernel
theorem dX9_readsItem_200 : decode cX9_readsItem 200 = .ok (.invokevirtual 181, 3) := by decide +kernel
theorem dX9_readsItem_203 : decode cX9_readsItem 203 = .ok (.goto 8, 3) := by decide +kernel
theorem dX9_readsItem_206 : decode cX9_readsItem 206 = .ok (.aload_n 0, 1) := by decide +kernel
theorem dX9_readsItem_207 : decode cX9_readsItem 207 = .ok (.iload_n 1, 1) := by decide +kernel
theorem dX9_readsItem_208 : decode cX9_readsItem 208 = .ok (.invokevirtual 184, 3) := by decide +kernel
theorem dX9_readsItem_211 : decode cX9_readsItem 211 = .ok (.return_, 1) := by decide +kernel
theorem dX9_goesTo_0 : decode cX9_goesTo 0 = .ok (.aload_n 0, 1) := by decide +kernel
theorem dX9_goesTo_1 : decode cX9_goesTo 1 = .ok (.getfield 95, 3) := by decide +kernel
theorem dX9_goesTo_4 : decode cX9_goesTo 4 = .ok (.bipush 96, 2) := by decide +kernel
theorem dX9_goesTo_6 : decode cX9_goesTo 6 = .ok (.iconst 2, 1) := by decide +kernel
theorem dX9_goesTo_7 : decode cX9_goesTo 7 = .ok (.iload_n 1, 1) := by decide +kernel
theorem dX9_goesTo_8 : decode cX9_goesTo 8 = .ok (.imul, 1) := by decide +kernel
theorem dX9_goesTo_9 : decode cX9_goesTo 9 = .ok (.iadd, 1) := by decide +kernel
theorem dX9_goesTo_10 : decode cX9_goesTo 10 = .ok (.iaload, 1) := by decide +kernel
theorem dX9_goesTo_11 : decode cX9_goesTo 11 = .ok (.iload_n 2, 1) := by decide +kernel
theorem dX9_goesTo_12 : decode cX9_goesTo 12 = .ok (.if_icmp .eq 20, 3) := by decide +kernel
theorem dX9_goesTo_15 : decode cX9_goesTo 15 = .ok (.aload_n 0, 1) := by decide +kernel
theorem dX9_goesTo_16 : decode cX9_goesTo 16 = .ok (.getfield 95, 3) := by decide +kernel
theorem dX9_goesTo_19 : decode cX9_goesTo 19 = .ok (.bipush 96, 2) := by decide +kernel
theorem dX9_goesTo_21 : decode cX9_goesTo 21 = .ok (.iconst 2, 1) := by decide +kernel
theorem dX9_goesTo_22 : decode cX9_goesTo 22 = .ok (.iload_n 1, 1) := by decide +kernel
theorem dX9_goesTo_23 : decode cX9_goesTo 23 = .ok (.imul, 1) := by decide +kernel
theorem dX9_goesTo_24 : decode cX9_goesTo 24 = .ok (.iadd, 1) := by decide +kernel
theorem dX9_goesTo_25 : decode cX9_goesTo 25 = .ok (.iconst 1, 1) := by decide +kernel
theorem dX9_goesTo_26 : decode cX9_goesTo 26 = .ok (.iadd, 1) := by decide +kernel
theorem dX9_goesTo_27 : decode cX9_goesTo 27 = .ok (.iaload, 1) := by decide +kernel
theorem dX9_goesTo_28 : decode cX9_goesTo 28 = .ok (.iload_n 2, 1) := by decide +kernel
theorem dX9_goesTo_29 : decode cX9_goesTo 29 = .ok (.if_icmp .ne 7, 3) := by decide +kernel
theorem dX9_goesTo_32 : decode cX9_goesTo 32 = .ok (.iconst 1, 1) := by decide +kernel
theorem dX9_goesTo_33 : decode cX9_goesTo 33 = .ok (.goto 4, 3) := by decide +kernel
theorem dX9_goesTo_36 : decode cX9_goesTo 36 = .ok (.iconst 0, 1) := by decide +kernel
theorem dX9_goesTo_37 : decode cX9_goesTo 37 = .ok (.ireturn, 1) := by decide +kernel
theorem dX9_laysBefore_0 : decode cX9_laysBefore 0 = .ok (.iconst 1, 1) := by decide +kernel
theorem dX9_laysBefore_1 : decode cX9_laysBefore 1 = .ok (.aload_n 0, 1) := by decide +kernel
theorem dX9_laysBefore_2 : decode cX9_laysBefore 2 = .ok (.getfield 147, 3) := by decide +kernel
theorem dX9_laysBefore_5 : decode cX9_laysBefore 5 = .ok (.ishl, 1) := by decide +kernel
theorem dX9_laysBefore_6 : decode cX9_laysBefore 6 = .ok (.iconst 1, 1) := by decide +kernel
theorem dX9_laysBefore_7 : decode cX9_laysBefore 7 = .ok (.isub, 1) := by decide +kernel
theorem dX9_laysBefore_8 : decode cX9_laysBefore 8 = .ok (.istore_n 1, 1) := by decide +kernel
theorem dX9_laysBefore_9 : decode cX9_laysBefore 9 = .ok (.iconst 0, 1) := by decide +kernel
theorem dX9_laysBefore_10 : decode cX9_laysBefore 10 = .ok (.istore_n 2, 1) := by decide +kernel
theorem dX9_laysBefore_11 : decode cX9_laysBefore 11 = .ok (.iload_n 2, 1) := by decide +kernel
theorem dX9_laysBefore_12 : decode cX9_laysBefore 12 = .ok (.aload_n 0, 1) := by decide +kernel
theorem dX9_laysBefore_13 : decode cX9_laysBefore 13 = .ok (.getfield 147, 3) := by decide +kernel
theorem dX9_laysBefore_16 : decode cX9_laysBefore 16 = .ok (.if_icmp .ge 24, 3) := by decide +kernel
theorem dX9_laysBefore_19 : decode cX9_laysBefore 19 = .ok (.aload_n 0, 1) := by decide +kernel
theorem dX9_laysBefore_20 : decode cX9_laysBefore 20 = .ok (.getfield 98, 3) := by decide +kernel
theorem dX9_laysBefore_23 : decode cX9_laysBefore 23 = .ok (.iload_n 2, 1) := by decide +kernel
theorem dX9_laysBefore_24 : decode cX9_laysBefore 24 = .ok (.iload_n 2, 1) := by decide +kernel
theorem dX9_laysBefore_25 : decode cX9_laysBefore 25 = .ok (.ifCond .ne 7, 3) := by decide +kernel
theorem dX9_laysBefore_28 : decode cX9_laysBefore 28 = .ok (.iconst 1, 1) := by decide +kernel
theorem dX9_laysBefore_29 : decode cX9_laysBefore 29 = .ok (.goto 4, 3) := by decide +kernel
theorem dX9_laysBefore_32 : decode cX9_laysBefore 32 = .ok (.iload_n 1, 1) := by decide +kernel
theorem dX9_laysBefore_33 : decode cX9_laysBefore 33 = .ok (.iastore, 1) := by decide +kernel
theorem dX9_laysBefore_34 : decode cX9_laysBefore 34 = .ok (.iinc 2 1, 3) := by decide +kernel
theorem dX9_laysBefore_37 : decode cX9_laysBefore 37 = .ok (.goto (-26), 3) := by decide +kernel
theorem dX9_laysBefore_40 : decode cX9_laysBefore 40 = .ok (.iconst 1, 1) := by decide +kernel
theorem dX9_laysBefore_41 : decode cX9_laysBefore 41 = .ok (.istore_n 2, 1) := by decide +kernel
theorem dX9_laysBefore_42 : decode cX9_laysBefore 42 = .ok (.iload_n 2, 1) := by decide +kernel
theorem dX9_laysBefore_43 : decode cX9_laysBefore 43 = .ok (.ifCond .eq 108, 3) := by decide +kernel
theorem dX9_laysBefore_46 : decode cX9_laysBefore 46 = .ok (.iconst 0, 1) := by decide +kernel
theorem dX9_laysBefore_47 : decode cX9_laysBefore 47 = .ok (.istore_n 2, 1) := by decide +kernel
theorem dX9_laysBefore_48 : decode cX9_laysBefore 48 = .ok (.iconst 1, 1) := by decide +kernel
theorem dX9_laysBefore_49 : decode cX9_laysBefore 49 = .ok (.istore_n 3, 1) := by decide +kernel
theorem dX9_laysBefore_50 : decode cX9_laysBefore 50 = .ok (.iload_n 3, 1) := by decide +kernel
theorem dX9_laysBefore_51 : decode cX9_laysBefore 51 = .ok (.aload_n 0, 1) := by decide +kernel
theorem dX9_laysBefore_52 : decode cX9_laysBefore 52 = .ok (.getfield 147, 3) := by decide +kernel
theorem dX9_laysBefore_55 : decode cX9_laysBefore 55 = .ok (.if_icmp .ge 93, 3) := by decide +kernel
theorem dX9_laysBefore_58 : decode cX9_laysBefore 58 = .ok (.iload_n 1, 1) := by decide +kernel
theorem dX9_laysBefore_59 : decode cX9_laysBefore 59 = .ok (.istore 4, 2) := by decide +kernel
theorem dX9_laysBefore_61 : decode cX9_laysBefore 61 = .ok (.iconst 0, 1) := by decide +kernel
theorem dX9_laysBefore_62 : decode cX9_laysBefore 62 = .ok (.istore 5, 2) := by decide +kernel
theorem dX9_laysBefore_64 : decode cX9_laysBefore 64 = .ok (.iload 5, 2) := by decide +kernel
theorem dX9_laysBefore_66 : decode cX9_laysBefore 66 = .ok (.aload_n 0, 1) := by decide +kernel
theorem dX9_laysBefore_67 : decode cX9_laysBefore 67 = .ok (.getfield 147, 3) := by decide +kernel
theorem dX9_laysBefore_70 : decode cX9_laysBefore 70 = .ok (.if_icmp .ge 35, 3) := by decide +kernel
theorem dX9_laysBefore_73 : decode cX9_laysBefore 73 = .ok (.iload 4, 2) := by decide +kernel
theorem dX9_laysBefore_75 : decode cX9_laysBefore 75 = .ok (.aload_n 0, 1) := by decide +kernel
theorem dX9_laysBefore_76 : decode cX9_laysBefore 76 = .ok (.iload 5, 2) := by decide +kernel
theorem dX9_laysBefore_78 : decode cX9_laysBefore 78 = .ok (.iload_n 3, 1) := by decide +kernel
theorem dX9_laysBefore_79 : decode cX9_laysBefore 79 = .ok (.invokevirtual 187, 3) := by decide +kernel
theorem dX9_laysBefore_82 : decode cX9_laysBefore 82 = .ok (.ifCond .eq 13, 3) := by decide +kernel
theorem dX9_laysBefore_85 : decode cX9_laysBefore 85 = .ok (.aload_n 0, 1) := by decide +kernel
theorem dX9_laysBefore_86 : decode cX9_laysBefore 86 = .ok (.getfield 98, 3) := by decide +kernel
theorem dX9_laysBefore_89 : decode cX9_laysBefore 89 = .ok (.iload 5, 2) := by decide +kernel
theorem dX9_laysBefore_91 : decode cX9_laysBefore 91 = .ok (.iaload, 1) := by decide +kernel
theorem dX9_laysBefore_92 : decode cX9_laysBefore 92 = .ok (.goto 4, 3) := by decide +kernel
theorem dX9_laysBefore_95 : decode cX9_laysBefore 95 = .ok (.iload_n 1, 1) := by decide +kernel
theorem dX9_laysBefore_96 : decode cX9_laysBefore 96 = .ok (.iand, 1) := by decide +kernel
theorem dX9_laysBefore_97 : decode cX9_laysBefore 97 = .ok (.istore 4, 2) := by decide +kernel
theorem dX9_laysBefore_99 : decode cX9_laysBefore 99 = .ok (.iinc 5 1, 3) := by decide +kernel
theorem dX9_laysBefore_102 : decode cX9_laysBefore 102 = .ok (.goto (-38), 3) := by decide +kernel
theorem dX9_laysBefore_105 : decode cX9_laysBefore 105 = .ok (.iload 4, 2) := by decide +kernel
theorem dX9_laysBefore_107 : decode cX9_laysBefore 107 = .ok (.iconst 1, 1) := by decide +kernel
theorem dX9_laysBefore_108 : decode cX9_laysBefore 108 = .ok (.iload_n 3, 1) := by decide +kernel
theorem dX9_laysBefore_109 : decode cX9_laysBefore 109 = .ok (.ishl, 1) := by decide +kernel
theorem dX9_laysBefore_110 : decode cX9_laysBefore 110 = .ok (.ior, 1) := by decide +kernel
theorem dX9_laysBefore_111 : decode cX9_laysBefore 111 = .ok (.istore 4, 2) := by decide +kernel
theorem dX9_laysBefore_113 : decode cX9_laysBefore 113 = .ok (.iload_n 2, 1) := by decide +kernel
theorem dX9_laysBefore_114 : decode cX9_laysBefore 114 = .ok (.ifCond .ne 14, 3) := by decide +kernel
theorem dX9_laysBefore_117 : decode cX9_laysBefore 117 = .ok (.iload 4, 2) := by decide +kernel
theorem dX9_laysBefore_119 : decode cX9_laysBefore 119 = .ok (.aload_n 0, 1) := by decide +kernel
theorem dX9_laysBefore_120 : decode cX9_laysBefore 120 = .ok (.getfield 98, 3) := by decide +kernel
theorem dX9_laysBefore_123 : decode cX9_laysBefore 123 = .ok (.iload_n 3, 1) := by decide +kernel
theorem dX9_laysBefore_124 : decode cX9_laysBefore 124 = .ok (.iaload, 1) := by decide +kernel
theorem dX9_laysBefore_125 : decode cX9_laysBefore 125 = .ok (.if_icmp .eq 7, 3) := by decide +kernel
theorem dX9_laysBefore_128 : decode cX9_laysBefore 128 = .ok (.iconst 1, 1) := by decide +kernel
theorem dX9_laysBefore_129 : decode cX9_laysBefore 129 = .ok (.goto 4, 3) := by decide +kernel
theorem dX9_laysBefore_132 : decode cX9_laysBefore 132 = .ok (.iconst 0, 1) := by decide +kernel
theorem dX9_laysBefore_133 : decode cX9_laysBefore 133 = .ok (.istore_n 2, 1) := by decide +kernel
theorem dX9_laysBefore_134 : decode cX9_laysBefore 134 = .ok (.aload_n 0, 1) := by decide +kernel
theorem dX9_laysBefore_135 : decode cX9_laysBefore 135 = .ok (.getfield 98, 3) := by decide +kernel
theorem dX9_laysBefore_138 : decode cX9_laysBefore 138 = .ok (.iload_n 3, 1) := by decide +kernel
theorem dX9_laysBefore_139 : decode cX9_laysBefore 139 = .ok (.iload 4, 2) := by decide +kernel
theorem dX9_laysBefore_141 : decode cX9_laysBefore 141 = .ok (.iastore, 1) := by decide +kernel
theorem dX9_laysBefore_142 : decode cX9_laysBefore 142 = .ok (.iinc 3 1, 3) := by decide +kernel
theorem dX9_laysBefore_145 : decode cX9_laysBefore 145 = .ok (.goto (-95), 3) := by decide +kernel
theorem dX9_laysBefore_148 : decode cX9_laysBefore 148 = .ok (.goto (-106), 3) := by decide +kernel
theorem dX9_laysBefore_151 : decode cX9_laysBefore 151 = .ok (.return_, 1) := by decide +kernel
theorem dX9_isBefore_0 : decode cX9_isBefore 0 = .ok (.iload_n 1, 1) := by decide +kernel
theorem dX9_isBefore_1 : decode cX9_isBefore 1 = .ok (.aload_n 0, 1) := by decide +kernel
theorem dX9_isBefore_2 : decode cX9_isBefore 2 = .ok (.getfield 150, 3) := by decide +kernel
theorem dX9_isBefore_5 : decode cX9_isBefore 5 = .ok (.if_icmp .ge 40, 3) := by decide +kernel
theorem dX9_isBefore_8 : decode cX9_isBefore 8 = .ok (.aload_n 0, 1) := by decide +kernel
theorem dX9_isBefore_9 : decode cX9_isBefore 9 = .ok (.getfield 98, 3) := by decide +kernel
theorem dX9_isBefore_12 : decode cX9_isBefore 12 = .ok (.iload_n 2, 1) := by decide +kernel
theorem dX9_isBefore_13 : decode cX9_isBefore 13 = .ok (.iaload, 1) := by decide +kernel
theorem dX9_isBefore_14 : decode cX9_isBefore 14 = .ok (.aload_n 0, 1) := by decide +kernel
theorem dX9_isBefore_15 : decode cX9_isBefore 15 = .ok (.getfield 65, 3) := by decide +kernel
theorem dX9_isBefore_18 : decode cX9_isBefore 18 = .ok (.iload_n 1, 1) := by decide +kernel
theorem dX9_isBefore_19 : decode cX9_isBefore 19 = .ok (.iaload, 1) := by decide +kernel
theorem dX9_isBefore_20 : decode cX9_isBefore 20 = .ok (.invokestatic 191, 3) := by decide +kernel
theorem dX9_isBefore_23 : decode cX9_isBefore 23 = .ok (.ifCond .eq 22, 3) := by decide +kernel
theorem dX9_isBefore_26 : decode cX9_isBefore 26 = .ok (.aload_n 0, 1) := by decide +kernel
theorem dX9_isBefore_27 : decode cX9_isBefore 27 = .ok (.getfield 65, 3) := by decide +kernel
theorem dX9_isBefore_30 : decode cX9_isBefore 30 = .ok (.iload_n 1, 1) := by decide +kernel
theorem dX9_isBefore_31 : decode cX9_isBefore 31 = .ok (.iaload, 1) := by decide +kernel
theorem dX9_isBefore_32 : decode cX9_isBefore 32 = .ok (.iload_n 2, 1) := by decide +kernel
theorem dX9_isBefore_33 : decode cX9_isBefore 33 = .ok (.if_icmp .ne 8, 3) := by decide +kernel
theorem dX9_isBefore_36 : decode cX9_isBefore 36 = .ok (.iload_n 1, 1) := by decide +kernel
theorem dX9_isBefore_37 : decode cX9_isBefore 37 = .ok (.iload_n 3, 1) := by decide +kernel
theorem dX9_isBefore_38 : decode cX9_isBefore 38 = .ok (.if_icmp .ge 7, 3) := by decide +kernel
theorem dX9_isBefore_41 : decode cX9_isBefore 41 = .ok (.iconst 1, 1) := by decide +kernel
theorem dX9_isBefore_42 : decode cX9_isBefore 42 = .ok (.goto 4, 3) := by decide +kernel
theorem dX9_isBefore_45 : decode cX9_isBefore 45 = .ok (.iconst 0, 1) := by decide +kernel
theorem dX9_isBefore_46 : decode cX9_isBefore 46 = .ok (.ireturn, 1) := by decide +kernel
theorem dX9_isJoined_0 : decode cX9_isJoined 0 = .ok (.aload_n 0, 1) := by decide +kernel
theorem dX9_isJoined_1 : decode cX9_isJoined 1 = .ok (.getfield 65, 3) := by decide +kernel
theorem dX9_isJoined_4 : decode cX9_isJoined 4 = .ok (.iload_n 1, 1) := by decide +kernel
theorem dX9_isJoined_5 : decode cX9_isJoined 5 = .ok (.iaload, 1) := by decide +kernel
theorem dX9_isJoined_6 : decode cX9_isJoined 6 = .ok (.istore_n 2, 1) := by decide +kernel
theorem dX9_isJoined_7 : decode cX9_isJoined 7 = .ok (.iconst 0, 1) := by decide +kernel
theorem dX9_isJoined_8 : decode cX9_isJoined 8 = .ok (.istore_n 3, 1) := by decide +kernel
theorem dX9_isJoined_9 : decode cX9_isJoined 9 = .ok (.iconst 1, 1) := by decide +kernel
theorem dX9_isJoined_10 : decode cX9_isJoined 10 = .ok (.istore 4, 2) := by decide +kernel
theorem dX9_isJoined_12 : decode cX9_isJoined 12 = .ok (.iconst 0, 1) := by decide +kernel
theorem dX9_isJoined_13 : decode cX9_isJoined 13 = .ok (.istore 5, 2) := by decide +kernel
theorem dX9_isJoined_15 : decode cX9_isJoined 15 = .ok (.iload 5, 2) := by decide +kernel
theorem dX9_isJoined_17 : decode cX9_isJoined 17 = .ok (.aload_n 0, 1) := by decide +kernel
theorem dX9_isJoined_18 : decode cX9_isJoined 18 = .ok (.getfield 77, 3) := by decide +kernel
theorem dX9_isJoined_21 : decode cX9_isJoined 21 = .ok (.iload_n 1, 1) := by decide +kernel
theorem dX9_isJoined_22 : decode cX9_isJoined 22 = .ok (.iaload, 1) := by decide +kernel
theorem dX9_isJoined_23 : decode cX9_isJoined 23 = .ok (.if_icmp .ge 82, 3) := by decide +kernel
theorem dX9_isJoined_26 : decode cX9_isJoined 26 = .ok (.aload_n 0, 1) := by decide +kernel
theorem dX9_isJoined_27 : decode cX9_isJoined 27 = .ok (.getfield 80, 3) := by decide +kernel
theorem dX9_isJoined_30 : decode cX9_isJoined 30 = .ok (.iconst 3, 1) := by decide +kernel
theorem dX9_isJoined_31 : decode cX9_isJoined 31 = .ok (.iload_n 1, 1) := by decide +kernel
theorem dX9_isJoined_32 : decode cX9_isJoined 32 = .ok (.imul, 1) := by decide +kernel
theorem dX9_isJoined_33 : decode cX9_isJoined 33 = .ok (.iload 5, 2) := by decide +kernel
theorem dX9_isJoined_35 : decode cX9_isJoined 35 = .ok (.iadd, 1) := by decide +kernel
theorem dX9_isJoined_36 : decode cX9_isJoined 36 = .ok (.iaload, 1) := by decide +kernel
theorem dX9_isJoined_37 : decode cX9_isJoined 37 = .ok (.istore 6, 2) := by decide +kernel
theorem dX9_isJoined_39 : decode cX9_isJoined 39 = .ok (.iload 4, 2) := by decide +kernel
theorem dX9_isJoined_41 : decode cX9_isJoined 41 = .ok (.ifCond .eq 48, 3) := by decide +kernel
theorem dX9_isJoined_44 : decode cX9_isJoined 44 = .ok (.iload 6, 2) := by decide +kernel
theorem dX9_isJoined_46 : decode cX9_isJoined 46 = .ok (.aload_n 0, 1) := by decide +kernel
theorem dX9_isJoined_47 : decode cX9_isJoined 47 = .ok (.getfield 147, 3) := by decide +kernel
theorem dX9_isJoined_50 : decode cX9_isJoined 50 = .ok (.if_icmp .ge 39, 3) := by decide +kernel
theorem dX9_isJoined_53 : decode cX9_isJoined 53 = .ok (.aload_n 0, 1) := by decide +kernel
theorem dX9_isJoined_54 : decode cX9_isJoined 54 = .ok (.iload 6, 2) := by decide +kernel
theorem dX9_isJoined_56 : decode cX9_isJoined 56 = .ok (.iload_n 2, 1) := by decide +kernel
theorem dX9_isJoined_57 : decode cX9_isJoined 57 = .ok (.invokevirtual 187, 3) := by decide +kernel
theorem dX9_isJoined_60 : decode cX9_isJoined 60 = .ok (.ifCond .eq 29, 3) := by decide +kernel
theorem dX9_isJoined_63 : decode cX9_isJoined 63 = .ok (.aload_n 0, 1) := by decide +kernel
theorem dX9_isJoined_64 : decode cX9_isJoined 64 = .ok (.aload_n 0, 1) := by decide +kernel
theorem dX9_isJoined_65 : decode cX9_isJoined 65 = .ok (.getfield 83, 3) := by decide +kernel
theorem dX9_isJoined_68 : decode cX9_isJoined 68 = .ok (.iconst 3, 1) := by decide +kernel
theorem dX9_isJoined_69 : decode cX9_isJoined 69 = .ok (.iload_n 1, 1) := by decide +kernel
theorem dX9_isJoined_70 : decode cX9_isJoined 70 = .ok (.imul, 1) := by decide +kernel
theorem dX9_isJoined_71 : decode cX9_isJoined 71 = .ok (.iload 5, 2) := by decide +kernel
theorem dX9_isJoined_73 : decode cX9_isJoined 73 = .ok (.iadd, 1) := by decide +kernel
theorem dX9_isJoined_74 : decode cX9_isJoined 74 = .ok (.iaload, 1) := by decide +kernel
theorem dX9_isJoined_75 : decode cX9_isJoined 75 = .ok (.iload 6, 2) := by decide +kernel
theorem dX9_isJoined_77 : decode cX9_isJoined 77 = .ok (.bipush 24, 2) := by decide +kernel
theorem dX9_isJoined_79 : decode cX9_isJoined 79 = .ok (.invokevirtual 194, 3) := by decide +kernel
theorem dX9_isJoined_82 : decode cX9_isJoined 82 = .ok (.ifCond .eq 7, 3) := by decide +kernel
theorem dX9_isJoined_85 : decode cX9_isJoined 85 = .ok (.iconst 1, 1) := by decide +kernel
theorem dX9_isJoined_86 : decode cX9_isJoined 86 = .ok (.goto 4, 3) := by decide +kernel
theorem dX9_isJoined_89 : decode cX9_isJoined 89 = .ok (.iconst 0, 1) := by decide +kernel
theorem dX9_isJoined_90 : decode cX9_isJoined 90 = .ok (.istore 4, 2) := by decide +kernel
theorem dX9_isJoined_92 : decode cX9_isJoined 92 = .ok (.iload_n 3, 1) := by decide +kernel
theorem dX9_isJoined_93 : decode cX9_isJoined 93 = .ok (.iconst 1, 1) := by decide +kernel
theorem dX9_isJoined_94 : decode cX9_isJoined 94 = .ok (.iload 6, 2) := by decide +kernel
theorem dX9_isJoined_96 : decode cX9_isJoined 96 = .ok (.ishl, 1) := by decide +kernel
theorem dX9_isJoined_97 : decode cX9_isJoined 97 = .ok (.ior, 1) := by decide +kernel
theorem dX9_isJoined_98 : decode cX9_isJoined 98 = .ok (.istore_n 3, 1) := by decide +kernel
theorem dX9_isJoined_99 : decode cX9_isJoined 99 = .ok (.iinc 5 1, 3) := by decide +kernel
theorem dX9_isJoined_102 : decode cX9_isJoined 102 = .ok (.goto (-87), 3) := by decide +kernel
theorem dX9_isJoined_105 : decode cX9_isJoined 105 = .ok (.iconst 0, 1) := by decide +kernel
theorem dX9_isJoined_106 : decode cX9_isJoined 106 = .ok (.istore 5, 2) := by decide +kernel
theorem dX9_isJoined_108 : decode cX9_isJoined 108 = .ok (.iload 5, 2) := by decide +kernel
theorem dX9_isJoined_110 : decode cX9_isJoined 110 = .ok (.aload_n 0, 1) := by decide +kernel
theorem dX9_isJoined_111 : decode cX9_isJoined 111 = .ok (.getfield 147, 3) := by decide +kernel
theorem dX9_isJoined_114 : decode cX9_isJoined 114 = .ok (.if_icmp .ge 40, 3) := by decide +kernel
theorem dX9_isJoined_117 : decode cX9_isJoined 117 = .ok (.iload 4, 2) := by decide +kernel
theorem dX9_isJoined_119 : decode cX9_isJoined 119 = .ok (.ifCond .eq 26, 3) := by decide +kernel
theorem dX9_isJoined_122 : decode cX9_isJoined 122 = .ok (.aload_n 0, 1) := by decide +kernel
theorem dX9_isJoined_123 : decode cX9_isJoined 123 = .ok (.iload 5, 2) := by decide +kernel
theorem dX9_isJoined_125 : decode cX9_isJoined 125 = .ok (.iload_n 2, 1) := by decide +kernel
theorem dX9_isJoined_126 : decode cX9_isJoined 126 = .ok (.invokevirtual 187, 3) := by decide +kernel
theorem dX9_isJoined_129 : decode cX9_isJoined 129 = .ok (.ifCond .eq 12, 3) := by decide +kernel
theorem dX9_isJoined_132 : decode cX9_isJoined 132 = .ok (.iload_n 3, 1) := by decide +kernel
theorem dX9_isJoined_133 : decode cX9_isJoined 133 = .ok (.iload 5, 2) := by decide +kernel
theorem dX9_isJoined_135 : decode cX9_isJoined 135 = .ok (.invokestatic 191, 3) := by decide +kernel
theorem dX9_isJoined_138 : decode cX9_isJoined 138 = .ok (.ifCond .eq 7, 3) := by decide +kernel
theorem dX9_isJoined_141 : decode cX9_isJoined 141 = .ok (.iconst 1, 1) := by decide +kernel
theorem dX9_isJoined_142 : decode cX9_isJoined 142 = .ok (.goto 4, 3) := by decide +kernel
theorem dX9_isJoined_145 : decode cX9_isJoined 145 = .ok (.iconst 0, 1) := by decide +kernel
theorem dX9_isJoined_146 : decode cX9_isJoined 146 = .ok (.istore 4, 2) := by decide +kernel
theorem dX9_isJoined_148 : decode cX9_isJoined 148 = .ok (.iinc 5 1, 3) := by decide +kernel
theorem dX9_isJoined_151 : decode cX9_isJoined 151 = .ok (.goto (-43), 3) := by decide +kernel
theorem dX9_isJoined_154 : decode cX9_isJoined 154 = .ok (.iload 4, 2) := by decide +kernel
theorem dX9_isJoined_156 : decode cX9_isJoined 156 = .ok (.ireturn, 1) := by decide +kernel
theorem dX9_isStrict_0 : decode cX9_isStrict 0 = .ok (.iconst 0, 1) := by decide +kernel
theorem dX9_isStrict_1 : decode cX9_isStrict 1 = .ok (.istore_n 1, 1) := by decide +kernel
theorem dX9_isStrict_2 : decode cX9_isStrict 2 = .ok (.iload_n 1, 1) := by decide +kernel
theorem dX9_isStrict_3 : decode cX9_isStrict 3 = .ok (.aload_n 0, 1) := by decide +kernel
theorem dX9_isStrict_4 : decode cX9_isStrict 4 = .ok (.getfield 147, 3) := by decide +kernel
theorem dX9_isStrict_7 : decode cX9_isStrict 7 = .ok (.if_icmp .ge 50, 3) := by decide +kernel
theorem dX9_isStrict_10 : decode cX9_isStrict 10 = .ok (.iconst 0, 1) := by decide +kernel
theorem dX9_isStrict_11 : decode cX9_isStrict 11 = .ok (.istore_n 2, 1) := by decide +kernel
theorem dX9_isStrict_12 : decode cX9_isStrict 12 = .ok (.iload_n 2, 1) := by decide +kernel
theorem dX9_isStrict_13 : decode cX9_isStrict 13 = .ok (.iconst 2, 1) := by decide +kernel
theorem dX9_isStrict_14 : decode cX9_isStrict 14 = .ok (.if_icmp .ge 37, 3) := by decide +kernel
theorem dX9_isStrict_17 : decode cX9_isStrict 17 = .ok (.aload_n 0, 1) := by decide +kernel
theorem dX9_isStrict_18 : decode cX9_isStrict 18 = .ok (.getfield 95, 3) := by decide +kernel
theorem dX9_isStrict_21 : decode cX9_isStrict 21 = .ok (.bipush 96, 2) := by decide +kernel
theorem dX9_isStrict_23 : decode cX9_isStrict 23 = .ok (.iconst 2, 1) := by decide +kernel
theorem dX9_isStrict_24 : decode cX9_isStrict 24 = .ok (.iload_n 1, 1) := by decide +kernel
theorem dX9_isStrict_25 : decode cX9_isStrict 25 = .ok (.imul, 1) := by decide +kernel
theorem dX9_isStrict_26 : decode cX9_isStrict 26 = .ok (.iadd, 1) := by decide +kernel
theorem dX9_isStrict_27 : decode cX9_isStrict 27 = .ok (.iload_n 2, 1) := by decide +kernel
theorem dX9_isStrict_28 : decode cX9_isStrict 28 = .ok (.iadd, 1) := by decide +kernel
theorem dX9_isStrict_29 : decode cX9_isStrict 29 = .ok (.iaload, 1) := by decide +kernel
theorem dX9_isStrict_30 : decode cX9_isStrict 30 = .ok (.istore_n 3, 1) := by decide +kernel
theorem dX9_isStrict_31 : decode cX9_isStrict 31 = .ok (.iload_n 3, 1) := by decide +kernel
theorem dX9_isStrict_32 : decode cX9_isStrict 32 = .ok (.ifCond .eq 11, 3) := by decide +kernel
theorem dX9_isStrict_35 : decode cX9_isStrict 35 = .ok (.iload_n 3, 1) := by decide +kernel
theorem dX9_isStrict_36 : decode cX9_isStrict 36 = .ok (.aload_n 0, 1) := by decide +kernel
theorem dX9_isStrict_37 : decode cX9_isStrict 37 = .ok (.getfield 147, 3) := by decide +kernel
theorem dX9_isStrict_40 : decode cX9_isStrict 40 = .ok (.if_icmp .lt 5, 3) := by decide +kernel
theorem dX9_isStrict_43 : decode cX9_isStrict 43 = .ok (.iconst 0, 1) := by decide +kernel
theorem dX9_isStrict_44 : decode cX9_isStrict 44 = .ok (.ireturn, 1) := by decide +kernel
theorem dX9_isStrict_45 : decode cX9_isStrict 45 = .ok (.iinc 2 1, 3) := by decide +kernel
theorem dX9_isStrict_48 : decode cX9_isStrict 48 = .ok (.goto (-36), 3) := by decide +kernel
theorem dX9_isStrict_51 : decode cX9_isStrict 51 = .ok (.iinc 1 1, 3) := by decide +kernel
theorem dX9_isStrict_54 : decode cX9_isStrict 54 = .ok (.goto (-52), 3) := by decide +kernel
theorem dX9_isStrict_57 : decode cX9_isStrict 57 = .ok (.aload_n 0, 1) := by decide +kernel
theorem dX9_isStrict_58 : decode cX9_isStrict 58 = .ok (.invokevirtual 197, 3) := by decide +kernel
theorem dX9_isStrict_61 : decode cX9_isStrict 61 = .ok (.iconst 1, 1) := by decide +kernel
theorem dX9_isStrict_62 : decode cX9_isStrict 62 = .ok (.istore_n 1, 1) := by decide +kernel
theorem dX9_isStrict_63 : decode cX9_isStrict 63 = .ok (.iconst 0, 1) := by decide +kernel
theorem dX9_isStrict_64 : decode cX9_isStrict 64 = .ok (.istore_n 2, 1) := by decide +kernel
theorem dX9_isStrict_65 : decode cX9_isStrict 65 = .ok (.iload_n 2, 1) := by decide +kernel
theorem dX9_isStrict_66 : decode cX9_isStrict 66 = .ok (.aload_n 0, 1) := by decide +kernel
theorem dX9_isStrict_67 : decode cX9_isStrict 67 = .ok (.getfield 147, 3) := by decide +kernel
theorem dX9_isStrict_70 : decode cX9_isStrict 70 = .ok (.if_icmp .ge 44, 3) := by decide +kernel
theorem dX9_isStrict_73 : decode cX9_isStrict 73 = .ok (.iload_n 1, 1) := by decide +kernel
theorem dX9_isStrict_74 : decode cX9_isStrict 74 = .ok (.ifCond .eq 32, 3) := by decide +kernel
theorem dX9_isStrict_77 : decode cX9_isStrict 77 = .ok (.aload_n 0, 1) := by decide +kernel
theorem dX9_isStrict_78 : decode cX9_isStrict 78 = .ok (.getfield 89, 3) := by decide +kernel
theorem dX9_isStrict_81 : decode cX9_isStrict 81 = .ok (.iload_n 2, 1) := by decide +kernel
theorem dX9_isStrict_82 : decode cX9_isStrict 82 = .ok (.iaload, 1) := by decide +kernel
theorem dX9_isStrict_83 : decode cX9_isStrict 83 = .ok (.ifCond .eq 19, 3) := by decide +kernel
theorem dX9_isStrict_86 : decode cX9_isStrict 86 = .ok (.aload_n 0, 1) := by decide +kernel
theorem dX9_isStrict_87 : decode cX9_isStrict 87 = .ok (.aload_n 0, 1) := by decide +kernel
theorem dX9_isStrict_88 : decode cX9_isStrict 88 = .ok (.getfield 92, 3) := by decide +kernel
theorem dX9_isStrict_91 : decode cX9_isStrict 91 = .ok (.iload_n 2, 1) := by decide +kernel
theorem dX9_isStrict_92 : decode cX9_isStrict 92 = .ok (.iaload, 1) := by decide +kernel
theorem dX9_isStrict_93 : decode cX9_isStrict 93 = .ok (.iload_n 2, 1) := by decide +kernel
theorem dX9_isStrict_94 : decode cX9_isStrict 94 = .ok (.bipush 24, 2) := by decide +kernel
theorem dX9_isStrict_96 : decode cX9_isStrict 96 = .ok (.invokevirtual 194, 3) := by decide +kernel
theorem dX9_isStrict_99 : decode cX9_isStrict 99 = .ok (.ifCond .eq 7, 3) := by decide +kernel
theorem dX9_isStrict_102 : decode cX9_isStrict 102 = .ok (.iconst 1, 1) := by decide +kernel
theorem dX9_isStrict_103 : decode cX9_isStrict 103 = .ok (.goto 4, 3) := by decide +kernel
theorem dX9_isStrict_106 : decode cX9_isStrict 106 = .ok (.iconst 0, 1) := by decide +kernel
theorem dX9_isStrict_107 : decode cX9_isStrict 107 = .ok (.istore_n 1, 1) := by decide +kernel
theorem dX9_isStrict_108 : decode cX9_isStrict 108 = .ok (.iinc 2 1, 3) := by decide +kernel
theorem dX9_isStrict_111 : decode cX9_isStrict 111 = .ok (.goto (-46), 3) := by decide +kernel
theorem dX9_isStrict_114 : decode cX9_isStrict 114 = .ok (.iconst 0, 1) := by decide +kernel
theorem dX9_isStrict_115 : decode cX9_isStrict 115 = .ok (.istore_n 2, 1) := by decide +kernel
theorem dX9_isStrict_116 : decode cX9_isStrict 116 = .ok (.iload_n 2, 1) := by decide +kernel
theorem dX9_isStrict_117 : decode cX9_isStrict 117 = .ok (.aload_n 0, 1) := by decide +kernel
theorem dX9_isStrict_118 : decode cX9_isStrict 118 = .ok (.getfield 150, 3) := by decide +kernel
theorem dX9_isStrict_121 : decode cX9_isStrict 121 = .ok (.if_icmp .ge 84, 3) := by decide +kernel
theorem dX9_isStrict_124 : decode cX9_isStrict 124 = .ok (.iload_n 1, 1) := by decide +kernel
theorem dX9_isStrict_125 : decode cX9_isStrict 125 = .ok (.ifCond .eq 80, 3) := by decide +kernel
theorem dX9_isStrict_128 : decode cX9_isStrict 128 = .ok (.aload_n 0, 1) := by decide +kernel
theorem dX9_isStrict_129 : decode cX9_isStrict 129 = .ok (.getfield 65, 3) := by decide +kernel
theorem dX9_isStrict_132 : decode cX9_isStrict 132 = .ok (.iload_n 2, 1) := by decide +kernel
theorem dX9_isStrict_133 : decode cX9_isStrict 133 = .ok (.iaload, 1) := by decide +kernel
theorem dX9_isStrict_134 : decode cX9_isStrict 134 = .ok (.istore_n 3, 1) := by decide +kernel
theorem dX9_isStrict_135 : decode cX9_isStrict 135 = .ok (.aload_n 0, 1) := by decide +kernel
theorem dX9_isStrict_136 : decode cX9_isStrict 136 = .ok (.getfield 62, 3) := by decide +kernel
theorem dX9_isStrict_139 : decode cX9_isStrict 139 = .ok (.iload_n 2, 1) := by decide +kernel
theorem dX9_isStrict_140 : decode cX9_isStrict 140 = .ok (.iaload, 1) := by decide +kernel
theorem dX9_isStrict_141 : decode cX9_isStrict 141 = .ok (.iconst 3, 1) := by decide +kernel
theorem dX9_isStrict_142 : decode cX9_isStrict 142 = .ok (.if_icmp .ne 11, 3) := by decide +kernel
theorem dX9_isStrict_145 : decode cX9_isStrict 145 = .ok (.aload_n 0, 1) := by decide +kernel
theorem dX9_isStrict_146 : decode cX9_isStrict 146 = .ok (.iload_n 2, 1) := by decide +kernel
theorem dX9_isStrict_147 : decode cX9_isStrict 147 = .ok (.invokevirtual 200, 3) := by decide +kernel
theorem dX9_isStrict_150 : decode cX9_isStrict 150 = .ok (.goto 48, 3) := by decide +kernel
theorem dX9_isStrict_153 : decode cX9_isStrict 153 = .ok (.aload_n 0, 1) := by decide +kernel
theorem dX9_isStrict_154 : decode cX9_isStrict 154 = .ok (.getfield 62, 3) := by decide +kernel
theorem dX9_isStrict_157 : decode cX9_isStrict 157 = .ok (.iload_n 2, 1) := by decide +kernel
theorem dX9_isStrict_158 : decode cX9_isStrict 158 = .ok (.iaload, 1) := by decide +kernel
theorem dX9_isStrict_159 : decode cX9_isStrict 159 = .ok (.iconst 2, 1) := by decide +kernel
theorem dX9_isStrict_160 : decode cX9_isStrict 160 = .ok (.if_icmp .ne 33, 3) := by decide +kernel
theorem dX9_isStrict_163 : decode cX9_isStrict 163 = .ok (.aload_n 0, 1) := by decide +kernel
theorem dX9_isStrict_164 : decode cX9_isStrict 164 = .ok (.aload_n 0, 1) := by decide +kernel
theorem dX9_isStrict_165 : decode cX9_isStrict 165 = .ok (.getfield 71, 3) := by decide +kernel
theorem dX9_isStrict_168 : decode cX9_isStrict 168 = .ok (.iload_n 2, 1) := by decide +kernel
theorem dX9_isStrict_169 : decode cX9_isStrict 169 = .ok (.iaload, 1) := by decide +kernel
theorem dX9_isStrict_170 : decode cX9_isStrict 170 = .ok (.iload_n 3, 1) := by decide +kernel
theorem dX9_isStrict_171 : decode cX9_isStrict 171 = .ok (.iload_n 2, 1) := by decide +kernel
theorem dX9_isStrict_172 : decode cX9_isStrict 172 = .ok (.invokevirtual 194, 3) := by decide +kernel
theorem dX9_isStrict_175 : decode cX9_isStrict 175 = .ok (.ifCond .eq 22, 3) := by decide +kernel
theorem dX9_isStrict_178 : decode cX9_isStrict 178 = .ok (.aload_n 0, 1) := by decide +kernel
theorem dX9_isStrict_179 : decode cX9_isStrict 179 = .ok (.aload_n 0, 1) := by decide +kernel
theorem dX9_isStrict_180 : decode cX9_isStrict 180 = .ok (.getfield 74, 3) := by decide +kernel
theorem dX9_isStrict_183 : decode cX9_isStrict 183 = .ok (.iload_n 2, 1) := by decide +kernel
theorem dX9_isStrict_184 : decode cX9_isStrict 184 = .ok (.iaload, 1) := by decide +kernel
theorem dX9_isStrict_185 : decode cX9_isStrict 185 = .ok (.iload_n 3, 1) := by decide +kernel
theorem dX9_isStrict_186 : decode cX9_isStrict 186 = .ok (.iload_n 2, 1) := by decide +kernel
theorem dX9_isStrict_187 : decode cX9_isStrict 187 = .ok (.invokevirtual 194, 3) := by decide +kernel
theorem dX9_isStrict_190 : decode cX9_isStrict 190 = .ok (.ifCond .eq 7, 3) := by decide +kernel
theorem dX9_isStrict_193 : decode cX9_isStrict 193 = .ok (.iconst 1, 1) := by decide +kernel
theorem dX9_isStrict_194 : decode cX9_isStrict 194 = .ok (.goto 4, 3) := by decide +kernel
theorem dX9_isStrict_197 : decode cX9_isStrict 197 = .ok (.iconst 0, 1) := by decide +kernel
theorem dX9_isStrict_198 : decode cX9_isStrict 198 = .ok (.istore_n 1, 1) := by decide +kernel
theorem dX9_isStrict_199 : decode cX9_isStrict 199 = .ok (.iinc 2 1, 3) := by decide +kernel
theorem dX9_isStrict_202 : decode cX9_isStrict 202 = .ok (.goto (-86), 3) := by decide +kernel
theorem dX9_isStrict_205 : decode cX9_isStrict 205 = .ok (.iload_n 1, 1) := by decide +kernel
theorem dX9_isStrict_206 : decode cX9_isStrict 206 = .ok (.ireturn, 1) := by decide +kernel
theorem dX9_startsReading_0 : decode cX9_startsReading 0 = .ok (.aload_n 0, 1) := by decide +kernel
theorem dX9_startsReading_1 : decode cX9_startsReading 1 = .ok (.iconst 0, 1) := by decide +kernel
theorem dX9_startsReading_2 : decode cX9_startsReading 2 = .ok (.putfield 136, 3) := by decide +kernel
theorem dX9_startsReading_5 : decode cX9_startsReading 5 = .ok (.aload_n 0, 1) := by decide +kernel
