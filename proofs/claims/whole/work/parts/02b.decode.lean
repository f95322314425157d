theorem dX12_init_0 : decode cX12_init 0 = .ok (.aload_n 0, 1) := by decide +kernel
theorem dX12_init_1 : decode cX12_init 1 = .ok (.invokespecial 7, 3) := by decide +kernel
theorem dX12_init_4 : decode cX12_init 4 = .ok (.aload_n 0, 1) := by decide +kernel
theorem dX12_init_5 : decode cX12_init 5 = .ok (.bipush 8, 2) := by decide +kernel
theorem dX12_init_7 : decode cX12_init 7 = .ok (.newarray .int, 2) := by decide +kernel
theorem dX12_init_9 : decode cX12_init 9 = .ok (.putfield 13, 3) := by decide +kernel
theorem dX12_init_12 : decode cX12_init 12 = .ok (.aload_n 0, 1) := by decide +kernel
theorem dX12_init_13 : decode cX12_init 13 = .ok (.bipush 12, 2) := by decide +kernel
theorem dX12_init_15 : decode cX12_init 15 = .ok (.newarray .int, 2) := by decide +kernel
theorem dX12_init_17 : decode cX12_init 17 = .ok (.putfield 17, 3) := by decide +kernel
theorem dX12_init_20 : decode cX12_init 20 = .ok (.aload_n 0, 1) := by decide +kernel
theorem dX12_init_21 : decode cX12_init 21 = .ok (.bipush 12, 2) := by decide +kernel
theorem dX12_init_23 : decode cX12_init 23 = .ok (.newarray .int, 2) := by decide +kernel
theorem dX12_init_25 : decode cX12_init 25 = .ok (.putfield 20, 3) := by decide +kernel
theorem dX12_init_28 : decode cX12_init 28 = .ok (.aload_n 0, 1) := by decide +kernel
theorem dX12_init_29 : decode cX12_init 29 = .ok (.bipush 12, 2) := by decide +kernel
theorem dX12_init_31 : decode cX12_init 31 = .ok (.newarray .int, 2) := by decide +kernel
theorem dX12_init_33 : decode cX12_init 33 = .ok (.putfield 23, 3) := by decide +kernel
theorem dX12_init_36 : decode cX12_init 36 = .ok (.aload_n 0, 1) := by decide +kernel
theorem dX12_init_37 : decode cX12_init 37 = .ok (.sipush 576, 3) := by decide +kernel
theorem dX12_init_40 : decode cX12_init 40 = .ok (.newarray .int, 2) := by decide +kernel
theorem dX12_init_42 : decode cX12_init 42 = .ok (.putfield 26, 3) := by decide +kernel
theorem dX12_init_45 : decode cX12_init 45 = .ok (.aload_n 0, 1) := by decide +kernel
theorem dX12_init_46 : decode cX12_init 46 = .ok (.sipush 400, 3) := by decide +kernel
theorem dX12_init_49 : decode cX12_init 49 = .ok (.newarray .int, 2) := by decide +kernel
theorem dX12_init_51 : decode cX12_init 51 = .ok (.putfield 29, 3) := by decide +kernel
theorem dX12_init_54 : decode cX12_init 54 = .ok (.aload_n 0, 1) := by decide +kernel
theorem dX12_init_55 : decode cX12_init 55 = .ok (.sipush 400, 3) := by decide +kernel
theorem dX12_init_58 : decode cX12_init 58 = .ok (.newarray .int, 2) := by decide +kernel
theorem dX12_init_60 : decode cX12_init 60 = .ok (.putfield 32, 3) := by decide +kernel
theorem dX12_init_63 : decode cX12_init 63 = .ok (.aload_n 0, 1) := by decide +kernel
theorem dX12_init_64 : decode cX12_init 64 = .ok (.sipush 400, 3) := by decide +kernel
theorem dX12_init_67 : decode cX12_init 67 = .ok (.newarray .int, 2) := by decide +kernel
theorem dX12_init_69 : decode cX12_init 69 = .ok (.putfield 35, 3) := by decide +kernel
theorem dX12_init_72 : decode cX12_init 72 = .ok (.aload_n 0, 1) := by decide +kernel
theorem dX12_init_73 : decode cX12_init 73 = .ok (.sipush 400, 3) := by decide +kernel
theorem dX12_init_76 : decode cX12_init 76 = .ok (.newarray .int, 2) := by decide +kernel
theorem dX12_init_78 : decode cX12_init 78 = .ok (.putfield 38, 3) := by decide +kernel
theorem dX12_init_81 : decode cX12_init 81 = .ok (.aload_n 0, 1) := by decide +kernel
theorem dX12_init_82 : decode cX12_init 82 = .ok (.sipush 400, 3) := by decide +kernel
theorem dX12_init_85 : decode cX12_init 85 = .ok (.newarray .boolean, 2) := by decide +kernel
theorem dX12_init_87 : decode cX12_init 87 = .ok (.putfield 41, 3) := by decide +kernel
theorem dX12_init_90 : decode cX12_init 90 = .ok (.aload_n 0, 1) := by decide +kernel
theorem dX12_init_91 : decode cX12_init 91 = .ok (.iconst 4, 1) := by decide +kernel
theorem dX12_init_92 : decode cX12_init 92 = .ok (.newarray .int, 2) := by decide +kernel
theorem dX12_init_94 : decode cX12_init 94 = .ok (.putfield 45, 3) := by decide +kernel
theorem dX12_init_97 : decode cX12_init 97 = .ok (.aload_n 0, 1) := by decide +kernel
theorem dX12_init_98 : decode cX12_init 98 = .ok (.iconst 4, 1) := by decide +kernel
theorem dX12_init_99 : decode cX12_init 99 = .ok (.newarray .int, 2) := by decide +kernel
theorem dX12_init_101 : decode cX12_init 101 = .ok (.putfield 48, 3) := by decide +kernel
theorem dX12_init_104 : decode cX12_init 104 = .ok (.aload_n 0, 1) := by decide +kernel
theorem dX12_init_105 : decode cX12_init 105 = .ok (.iconst 4, 1) := by decide +kernel
theorem dX12_init_106 : decode cX12_init 106 = .ok (.newarray .int, 2) := by decide +kernel
theorem dX12_init_108 : decode cX12_init 108 = .ok (.putfield 51, 3) := by decide +kernel
theorem dX12_init_111 : decode cX12_init 111 = .ok (.aload_n 0, 1) := by decide +kernel
theorem dX12_init_112 : decode cX12_init 112 = .ok (.iconst 4, 1) := by decide +kernel
theorem dX12_init_113 : decode cX12_init 113 = .ok (.newarray .int, 2) := by decide +kernel
theorem dX12_init_115 : decode cX12_init 115 = .ok (.putfield 54, 3) := by decide +kernel
theorem dX12_init_118 : decode cX12_init 118 = .ok (.aload_n 0, 1) := by decide +kernel
theorem dX12_init_119 : decode cX12_init 119 = .ok (.bipush 24, 2) := by decide +kernel
theorem dX12_init_121 : decode cX12_init 121 = .ok (.newarray .int, 2) := by decide +kernel
theorem dX12_init_123 : decode cX12_init 123 = .ok (.putfield 57, 3) := by decide +kernel
theorem dX12_init_126 : decode cX12_init 126 = .ok (.aload_n 0, 1) := by decide +kernel
theorem dX12_init_127 : decode cX12_init 127 = .ok (.bipush 48, 2) := by decide +kernel
theorem dX12_init_129 : decode cX12_init 129 = .ok (.newarray .int, 2) := by decide +kernel
theorem dX12_init_131 : decode cX12_init 131 = .ok (.putfield 60, 3) := by decide +kernel
theorem dX12_init_134 : decode cX12_init 134 = .ok (.aload_n 0, 1) := by decide +kernel
theorem dX12_init_135 : decode cX12_init 135 = .ok (.sipush 416, 3) := by decide +kernel
theorem dX12_init_138 : decode cX12_init 138 = .ok (.newarray .int, 2) := by decide +kernel
theorem dX12_init_140 : decode cX12_init 140 = .ok (.putfield 63, 3) := by decide +kernel
theorem dX12_init_143 : decode cX12_init 143 = .ok (.aload_n 0, 1) := by decide +kernel
theorem dX12_init_144 : decode cX12_init 144 = .ok (.iconst 4, 1) := by decide +kernel
theorem dX12_init_145 : decode cX12_init 145 = .ok (.newarray .int, 2) := by decide +kernel
theorem dX12_init_147 : decode cX12_init 147 = .ok (.putfield 66, 3) := by decide +kernel
theorem dX12_init_150 : decode cX12_init 150 = .ok (.aload_n 0, 1) := by decide +kernel
theorem dX12_init_151 : decode cX12_init 151 = .ok (.iconst 4, 1) := by decide +kernel
theorem dX12_init_152 : decode cX12_init 152 = .ok (.newarray .int, 2) := by decide +kernel
theorem dX12_init_154 : decode cX12_init 154 = .ok (.putfield 69, 3) := by decide +kernel
theorem dX12_init_157 : decode cX12_init 157 = .ok (.aload_n 0, 1) := by decide +kernel
theorem dX12_init_158 : decode cX12_init 158 = .ok (.bipush 48, 2) := by decide +kernel
theorem dX12_init_160 : decode cX12_init 160 = .ok (.newarray .int, 2) := by decide +kernel
theorem dX12_init_162 : decode cX12_init 162 = .ok (.putfield 72, 3) := by decide +kernel
theorem dX12_init_165 : decode cX12_init 165 = .ok (.aload_n 0, 1) := by decide +kernel
theorem dX12_init_166 : decode cX12_init 166 = .ok (.bipush 72, 2) := by decide +kernel
theorem dX12_init_168 : decode cX12_init 168 = .ok (.newarray .boolean, 2) := by decide +kernel
theorem dX12_init_170 : decode cX12_init 170 = .ok (.putfield 75, 3) := by decide +kernel
theorem dX12_init_173 : decode cX12_init 173 = .ok (.aload_n 0, 1) := by decide +kernel
theorem dX12_init_174 : decode cX12_init 174 = .ok (.bipush 60, 2) := by decide +kernel
theorem dX12_init_176 : decode cX12_init 176 = .ok (.newarray .int, 2) := by decide +kernel
theorem dX12_init_178 : decode cX12_init 178 = .ok (.putfield 78, 3) := by decide +kernel
theorem dX12_init_181 : decode cX12_init 181 = .ok (.aload_n 0, 1) := by decide +kernel
theorem dX12_init_182 : decode cX12_init 182 = .ok (.bipush 60, 2) := by decide +kernel
theorem dX12_init_184 : decode cX12_init 184 = .ok (.newarray .int, 2) := by decide +kernel
theorem dX12_init_186 : decode cX12_init 186 = .ok (.putfield 81, 3) := by decide +kernel
theorem dX12_init_189 : decode cX12_init 189 = .ok (.aload_n 0, 1) := by decide +kernel
theorem dX12_init_190 : decode cX12_init 190 = .ok (.iconst 4, 1) := by decide +kernel
theorem dX12_init_191 : decode cX12_init 191 = .ok (.newarray .int, 2) := by decide +kernel
theorem dX12_init_193 : decode cX12_init 193 = .ok (.putfield 84, 3) := by decide +kernel
theorem dX12_init_196 : decode cX12_init 196 = .ok (.aload_n 0, 1) := by decide +kernel
theorem dX12_init_197 : decode cX12_init 197 = .ok (.bipush 12, 2) := by decide +kernel
theorem dX12_init_199 : decode cX12_init 199 = .ok (.newarray .int, 2) := by decide +kernel
theorem dX12_init_201 : decode cX12_init 201 = .ok (.putfield 87, 3) := by decide +kernel
theorem dX12_init_204 : decode cX12_init 204 = .ok (.aload_n 0, 1) := by decide +kernel
theorem dX12_init_205 : decode cX12_init 205 = .ok (.bipush 12, 2) := by decide +kernel
theorem dX12_init_207 : decode cX12_init 207 = .ok (.newarray .int, 2) := by decide +kernel
theorem dX12_init_209 : decode cX12_init 209 = .ok (.putfield 90, 3) := by decide +kernel
theorem dX12_init_212 : decode cX12_init 212 = .ok (.aload_n 0, 1) := by decide +kernel
theorem dX12_init_213 : decode cX12_init 213 = .ok (.bipush 12, 2) := by decide +kernel
theorem dX12_init_215 : decode cX12_init 215 = .ok (.newarray .int, 2) := by decide +kernel
theorem dX12_init_217 : decode cX12_init 217 = .ok (.putfield 93, 3) := by decide +kernel
theorem dX12_init_220 : decode cX12_init 220 = .ok (.aload_n 0, 1) := by decide +kernel
theorem dX12_init_221 : decode cX12_init 221 = .ok (.bipush 90, 2) := by decide +kernel
theorem dX12_init_223 : decode cX12_init 223 = .ok (.newarray .boolean, 2) := by decide +kernel
theorem dX12_init_225 : decode cX12_init 225 = .ok (.putfield 96, 3) := by decide +kernel
theorem dX12_init_228 : decode cX12_init 228 = .ok (.aload_n 0, 1) := by decide +kernel
theorem dX12_init_229 : decode cX12_init 229 = .ok (.sipush 1080, 3) := by decide +kernel
theorem dX12_init_232 : decode cX12_init 232 = .ok (.newarray .int, 2) := by decide +kernel
theorem dX12_init_234 : decode cX12_init 234 = .ok (.putfield 99, 3) := by decide +kernel
theorem dX12_init_237 : decode cX12_init 237 = .ok (.aload_n 0, 1) := by decide +kernel
theorem dX12_init_238 : decode cX12_init 238 = .ok (.bipush 6, 2) := by decide +kernel
theorem dX12_init_240 : decode cX12_init 240 = .ok (.newarray .int, 2) := by decide +kernel
theorem dX12_init_242 : decode cX12_init 242 = .ok (.putfield 102, 3) := by decide +kernel
theorem dX12_init_245 : decode cX12_init 245 = .ok (.aload_n 0, 1) := by decide +kernel
theorem dX12_init_246 : decode cX12_init 246 = .ok (.bipush 6, 2) := by decide +kernel
theorem dX12_init_248 : decode cX12_init 248 = .ok (.newarray .int, 2) := by decide +kernel
theorem dX12_init_250 : decode cX12_init 250 = .ok (.putfield 105, 3) := by decide +kernel
theorem dX12_init_253 : decode cX12_init 253 = .ok (.aload_n 0, 1) := by decide +kernel
theorem dX12_init_254 : decode cX12_init 254 = .ok (.iconst 4, 1) := by decide +kernel
theorem dX12_init_255 : decode cX12_init 255 = .ok (.newarray .int, 2) := by decide +kernel
theorem dX12_init_257 : decode cX12_init 257 = .ok (.putfield 108, 3) := by decide +kernel
theorem dX12_init_260 : decode cX12_init 260 = .ok (.aload_n 0, 1) := by decide +kernel
theorem dX12_init_261 : decode cX12_init 261 = .ok (.iconst 4, 1) := by decide +kernel
theorem dX12_init_262 : decode cX12_init 262 = .ok (.newarray .int, 2) := by decide +kernel
theorem dX12_init_264 : decode cX12_init 264 = .ok (.putfield 111, 3) := by decide +kernel
theorem dX12_init_267 : decode cX12_init 267 = .ok (.aload_n 0, 1) := by decide +kernel
theorem dX12_init_268 : decode cX12_init 268 = .ok (.iconst 4, 1) := by decide +kernel
theorem dX12_init_269 : decode cX12_init 269 = .ok (.newarray .int, 2) := by decide +kernel
theorem dX12_init_271 : decode cX12_init 271 = .ok (.putfield 114, 3) := by decide +kernel
theorem dX12_init_274 : decode cX12_init 274 = .ok (.aload_n 0, 1) := by decide +kernel
theorem dX12_init_275 : decode cX12_init 275 = .ok (.iconst 4, 1) := by decide +kernel
theorem dX12_init_276 : decode cX12_init 276 = .ok (.newarray .int, 2) := by decide +kernel
theorem dX12_init_278 : decode cX12_init 278 = .ok (.putfield 117, 3) := by decide +kernel
theorem dX12_init_281 : decode cX12_init 281 = .ok (.iconst 0, 1) := by decide +kernel
theorem dX12_init_282 : decode cX12_init 282 = .ok (.istore_n 1, 1) := by decide +kernel
theorem dX12_init_283 : decode cX12_init 283 = .ok (.iload_n 1, 1) := by decide +kernel
theorem dX12_init_284 : decode cX12_init 284 = .ok (.sipush 416, 3) := by decide +kernel
theorem dX12_init_287 : decode cX12_init 287 = .ok (.if_icmp .ge 16, 3) := by decide +kernel
theorem dX12_init_290 : decode cX12_init 290 = .ok (.aload_n 0, 1) := by decide +kernel
theorem dX12_init_291 : decode cX12_init 291 = .ok (.getfield 63, 3) := by decide +kernel
theorem dX12_init_294 : decode cX12_init 294 = .ok (.iload_n 1, 1) := by decide +kernel
theorem dX12_init_295 : decode cX12_init 295 = .ok (.iconst (-1), 1) := by decide +kernel
theorem dX12_init_296 : decode cX12_init 296 = .ok (.iastore, 1) := by decide +kernel
theorem dX12_init_297 : decode cX12_init 297 = .ok (.iinc 1 1, 3) := by decide +kernel
theorem dX12_init_300 : decode cX12_init 300 = .ok (.goto (-17), 3) := by decide +kernel
theorem dX12_init_303 : decode cX12_init 303 = .ok (.return_, 1) := by decide +kernel
theorem dX12_isLand_0 : decode cX12_isLand 0 = .ok (.iload_n 1, 1) := by decide +kernel
theorem dX12_isLand_1 : decode cX12_isLand 1 = .ok (.ifCond .lt 15, 3) := by decide +kernel
theorem dX12_isLand_4 : decode cX12_isLand 4 = .ok (.iload_n 1, 1) := by decide +kernel
theorem dX12_isLand_5 : decode cX12_isLand 5 = .ok (.aload_n 0, 1) := by decide +kernel
theorem dX12_isLand_6 : decode cX12_isLand 6 = .ok (.getfield 120, 3) := by decide +kernel
theorem dX12_isLand_9 : decode cX12_isLand 9 = .ok (.if_icmp .ge 7, 3) := by decide +kernel
theorem dX12_isLand_12 : decode cX12_isLand 12 = .ok (.iconst 1, 1) := by decide +kernel
theorem dX12_isLand_13 : decode cX12_isLand 13 = .ok (.goto 4, 3) := by decide +kernel
theorem dX12_isLand_16 : decode cX12_isLand 16 = .ok (.iconst 0, 1) := by decide +kernel
theorem dX12_isLand_17 : decode cX12_isLand 17 = .ok (.ireturn, 1) := by decide +kernel
theorem dX12_isPerson_0 : decode cX12_isPerson 0 = .ok (.iload_n 1, 1) := by decide +kernel
theorem dX12_isPerson_1 : decode cX12_isPerson 1 = .ok (.ifCond .lt 15, 3) := by decide +kernel
theorem dX12_isPerson_4 : decode cX12_isPerson 4 = .ok (.iload_n 1, 1) := by decide +kernel
theorem dX12_isPerson_5 : decode cX12_isPerson 5 = .ok (.aload_n 0, 1) := by decide +kernel
theorem dX12_isPerson_6 : decode cX12_isPerson 6 = .ok (.getfield 123, 3) := by decide +kernel
theorem dX12_isPerson_9 : decode cX12_isPerson 9 = .ok (.if_icmp .ge 7, 3) := by decide +kernel
theorem dX12_isPerson_12 : decode cX12_isPerson 12 = .ok (.iconst 1, 1) := by decide +kernel
theorem dX12_isPerson_13 : decode cX12_isPerson 13 = .ok (.goto 4, 3) := by decide +kernel
theorem dX12_isPerson_16 : decode cX12_isPerson 16 = .ok (.iconst 0, 1) := by decide +kernel
theorem dX12_isPerson_17 : decode cX12_isPerson 17 = .ok (.ireturn, 1) := by decide +kernel
theorem dX12_isSeries_0 : decode cX12_isSeries 0 = .ok (.iload_n 1, 1) := by decide +kernel
theorem dX12_isSeries_1 : decode cX12_isSeries 1 = .ok (.ifCond .lt 15, 3) := by decide +kernel
theorem dX12_isSeries_4 : decode cX12_isSeries 4 = .ok (.iload_n 1, 1) := by decide +kernel
theorem dX12_isSeries_5 : decode cX12_isSeries 5 = .ok (.aload_n 0, 1) := by decide +kernel
theorem dX12_isSeries_6 : decode cX12_isSeries 6 = .ok (.getfield 126, 3) := by decide +kernel
theorem dX12_isSeries_9 : decode cX12_isSeries 9 = .ok (.if_icmp .ge 7, 3) := by decide +kernel
theorem dX12_isSeries_12 : decode cX12_isSeries 12 = .ok (.iconst 1, 1) := by decide +kernel
theorem dX12_isSeries_13 : decode cX12_isSeries 13 = .ok (.goto 4, 3) := by decide +kernel
theorem dX12_isSeries_16 : decode cX12_isSeries 16 = .ok (.iconst 0, 1) := by decide +kernel
theorem dX12_isSeries_17 : decode cX12_isSeries 17 = .ok (.ireturn, 1) := by decide +kernel
theorem dX12_isWeek_0 : decode cX12_isWeek 0 = .ok (.iload_n 0, 1) := by decide +kernel
theorem dX12_isWeek_1 : decode cX12_isWeek 1 = .ok (.ifCond .lt 13, 3) := by decide +kernel
theorem dX12_isWeek_4 : decode cX12_isWeek 4 = .ok (.iload_n 0, 1) := by decide +kernel
theorem dX12_isWeek_5 : decode cX12_isWeek 5 = .ok (.bipush 52, 2) := by decide +kernel
theorem dX12_isWeek_7 : decode cX12_isWeek 7 = .ok (.if_icmp .ge 7, 3) := by decide +kernel
theorem dX12_isWeek_10 : decode cX12_isWeek 10 = .ok (.iconst 1, 1) := by decide +kernel
theorem dX12_isWeek_11 : decode cX12_isWeek 11 = .ok (.goto 4, 3) := by decide +kernel
theorem dX12_isWeek_14 : decode cX12_isWeek 14 = .ok (.iconst 0, 1) := by decide +kernel
theorem dX12_isWeek_15 : decode cX12_isWeek 15 = .ok (.ireturn, 1) := by decide +kernel
theorem dX12_isKnown_0 : decode cX12_isKnown 0 = .ok (.iload_n 1, 1) := by decide +kernel
theorem dX12_isKnown_1 : decode cX12_isKnown 1 = .ok (.ifCond .lt 15, 3) := by decide +kernel
theorem dX12_isKnown_4 : decode cX12_isKnown 4 = .ok (.iload_n 1, 1) := by decide +kernel
theorem dX12_isKnown_5 : decode cX12_isKnown 5 = .ok (.aload_n 0, 1) := by decide +kernel
theorem dX12_isKnown_6 : decode cX12_isKnown 6 = .ok (.getfield 129, 3) := by decide +kernel
theorem dX12_isKnown_9 : decode cX12_isKnown 9 = .ok (.if_icmp .gt 7, 3) := by decide +kernel
theorem dX12_isKnown_12 : decode cX12_isKnown 12 = .ok (.iconst 1, 1) := by decide +kernel
theorem dX12_isKnown_13 : decode cX12_isKnown 13 = .ok (.goto 4, 3) := by decide +kernel
theorem dX12_isKnown_16 : decode cX12_isKnown 16 = .ok (.iconst 0, 1) := by decide +kernel
theorem dX12_isKnown_17 : decode cX12_isKnown 17 = .ok (.ireturn, 1) := by decide +kernel
theorem dX12_isOffset_0 : decode cX12_isOffset 0 = .ok (.iload_n 0, 1) := by decide +kernel
theorem dX12_isOffset_1 : decode cX12_isOffset 1 = .ok (.bipush (-24), 2) := by decide +kernel
theorem dX12_isOffset_3 : decode cX12_isOffset 3 = .ok (.if_icmp .lt 13, 3) := by decide +kernel
theorem dX12_isOffset_6 : decode cX12_isOffset 6 = .ok (.iload_n 0, 1) := by decide +kernel
theorem dX12_isOffset_7 : decode cX12_isOffset 7 = .ok (.bipush 28, 2) := by decide +kernel
theorem dX12_isOffset_9 : decode cX12_isOffset 9 = .ok (.if_icmp .gt 7, 3) := by decide +kernel
theorem dX12_isOffset_12 : decode cX12_isOffset 12 = .ok (.iconst 1, 1) := by decide +kernel
theorem dX12_isOffset_13 : decode cX12_isOffset 13 = .ok (.goto 4, 3) := by decide +kernel
theorem dX12_isOffset_16 : decode cX12_isOffset 16 = .ok (.iconst 0, 1) := by decide +kernel
theorem dX12_isOffset_17 : decode cX12_isOffset 17 = .ok (.ireturn, 1) := by decide +kernel
theorem dX12_land_0 : decode cX12_land 0 = .ok (.aload_n 0, 1) := by decide +kernel
theorem dX12_land_1 : decode cX12_land 1 = .ok (.getfield 120, 3) := by decide +kernel
theorem dX12_land_4 : decode cX12_land 4 = .ok (.bipush 8, 2) := by decide +kernel
theorem dX12_land_6 : decode cX12_land 6 = .ok (.if_icmp .eq 10, 3) := by decide +kernel
theorem dX12_land_9 : decode cX12_land 9 = .ok (.iload_n 1, 1) := by decide +kernel
theorem dX12_land_10 : decode cX12_land 10 = .ok (.invokestatic 132, 3) := by decide +kernel
theorem dX12_land_13 : decode cX12_land 13 = .ok (.ifCond .ne 5, 3) := by decide +kernel
theorem dX12_land_16 : decode cX12_land 16 = .ok (.iconst (-1), 1) := by decide +kernel
theorem dX12_land_17 : decode cX12_land 17 = .ok (.ireturn, 1) := by decide +kernel
theorem dX12_land_18 : decode cX12_land 18 = .ok (.aload_n 0, 1) := by decide +kernel
theorem dX12_land_19 : decode cX12_land 19 = .ok (.getfield 13, 3) := by decide +kernel
theorem dX12_land_22 : decode cX12_land 22 = .ok (.aload_n 0, 1) := by decide +kernel
theorem dX12_land_23 : decode cX12_land 23 = .ok (.getfield 120, 3) := by decide +kernel
theorem dX12_land_26 : decode cX12_land 26 = .ok (.iload_n 1, 1) := by decide +kernel
theorem dX12_land_27 : decode cX12_land 27 = .ok (.iastore, 1) := by decide +kernel
theorem dX12_land_28 : decode cX12_land 28 = .ok (.aload_n 0, 1) := by decide +kernel
theorem dX12_land_29 : decode cX12_land 29 = .ok (.dup, 1) := by decide +kernel
theorem dX12_land_30 : decode cX12_land 30 = .ok (.getfield 120, 3) := by decide +kernel
theorem dX12_land_33 : decode cX12_land 33 = .ok (.iconst 1, 1) := by decide +kernel
theorem dX12_land_34 : decode cX12_land 34 = .ok (.iadd, 1) := by decide +kernel
theorem dX12_land_35 : decode cX12_land 35 = .ok (.putfield 120, 3) := by decide +kernel
theorem dX12_land_38 : decode cX12_land 38 = .ok (.aload_n 0, 1) := by decide +kernel
theorem dX12_land_39 : decode cX12_land 39 = .ok (.getfield 120, 3) := by decide +kernel
theorem dX12_land_42 : decode cX12_land 42 = .ok (.iconst 1, 1) := by decide +kernel
theorem dX12_land_43 : decode cX12_land 43 = .ok (.isub, 1) := by decide +kernel
theorem dX12_land_44 : decode cX12_land 44 = .ok (.ireturn, 1) := by decide +kernel
theorem dX12_person_0 : decode cX12_person 0 = .ok (.aload_n 0, 1) := by decide +kernel
theorem dX12_person_1 : decode cX12_person 1 = .ok (.getfield 123, 3) := by decide +kernel
theorem dX12_person_4 : decode cX12_person 4 = .ok (.bipush 12, 2) := by decide +kernel
theorem dX12_person_6 : decode cX12_person 6 = .ok (.if_icmp .eq 21, 3) := by decide +kernel
theorem dX12_person_9 : decode cX12_person 9 = .ok (.aload_n 0, 1) := by decide +kernel
theorem dX12_person_10 : decode cX12_person 10 = .ok (.iload_n 1, 1) := by decide +kernel
theorem dX12_person_11 : decode cX12_person 11 = .ok (.invokevirtual 136, 3) := by decide +kernel
theorem dX12_person_14 : decode cX12_person 14 = .ok (.ifCond .eq 13, 3) := by decide +kernel
theorem dX12_person_17 : decode cX12_person 17 = .ok (.iload_n 2, 1) := by decide +kernel
theorem dX12_person_18 : decode cX12_person 18 = .ok (.ifCond .lt 9, 3) := by decide +kernel
theorem dX12_person_21 : decode cX12_person 21 = .ok (.iload_n 2, 1) := by decide +kernel
theorem dX12_person_22 : decode cX12_person 22 = .ok (.bipush 127, 2) := by decide +kernel
theorem dX12_person_24 : decode cX12_person 24 = .ok (.if_icmp .le 5, 3) := by decide +kernel
theorem dX12_person_27 : decode cX12_person 27 = .ok (.iconst (-1), 1) := by decide +kernel
theorem dX12_person_28 : decode cX12_person 28 = .ok (.ireturn, 1) := by decide +kernel
theorem dX12_person_29 : decode cX12_person 29 = .ok (.aload_n 0, 1) := by decide +kernel
theorem dX12_person_30 : decode cX12_person 30 = .ok (.getfield 17, 3) := by decide +kernel
theorem dX12_person_33 : decode cX12_person 33 = .ok (.aload_n 0, 1) := by decide +kernel
theorem dX12_person_34 : decode cX12_person 34 = .ok (.getfield 123, 3) := by decide +kernel
theorem dX12_person_37 : decode cX12_person 37 = .ok (.iload_n 1, 1) := by decide +kernel
theorem dX12_person_38 : decode cX12_person 38 = .ok (.iastore, 1) := by decide +kernel
theorem dX12_person_39 : decode cX12_person 39 = .ok (.aload_n 0, 1) := by decide +kernel
theorem dX12_person_40 : decode cX12_person 40 = .ok (.getfield 20, 3) := by decide +kernel
theorem dX12_person_43 : decode cX12_person 43 = .ok (.aload_n 0, 1) := by decide +kernel
theorem dX12_person_44 : decode cX12_person 44 = .ok (.getfield 123, 3) := by decide +kernel
theorem dX12_person_47 : decode cX12_person 47 = .ok (.iload_n 2, 1) := by decide +kernel
theorem dX12_person_48 : decode cX12_person 48 = .ok (.iastore, 1) := by decide +kernel
theorem dX12_person_49 : decode cX12_person 49 = .ok (.aload_n 0, 1) := by decide +kernel
theorem dX12_person_50 : decode cX12_person 50 = .ok (.getfield 23, 3) := by decide +kernel
theorem dX12_person_53 : decode cX12_person 53 = .ok (.aload_n 0, 1) := by decide +kernel
theorem dX12_person_54 : decode cX12_person 54 = .ok (.getfield 123, 3) := by decide +kernel
theorem dX12_person_57 : decode cX12_person 57 = .ok (.iconst (-1), 1) := by decide +kernel
theorem dX12_person_58 : decode cX12_person 58 = .ok (.iastore, 1) := by decide +kernel
theorem dX12_person_59 : decode cX12_person 59 = .ok (.aload_n 0, 1) := by decide +kernel
theorem dX12_person_60 : decode cX12_person 60 = .ok (.dup, 1) := by decide +kernel
theorem dX12_person_61 : decode cX12_person 61 = .ok (.getfield 123, 3) := by decide +kernel
theorem dX12_person_64 : decode cX12_person 64 = .ok (.iconst 1, 1) := by decide +kernel
theorem dX12_person_65 : decode cX12_person 65 = .ok (.iadd, 1) := by decide +kernel
theorem dX12_person_66 : decode cX12_person 66 = .ok (.putfield 123, 3) := by decide +kernel
theorem dX12_person_69 : decode cX12_person 69 = .ok (.aload_n 0, 1) := by decide +kernel
theorem dX12_person_70 : decode cX12_person 70 = .ok (.getfield 123, 3) := by decide +kernel
theorem dX12_person_73 : decode cX12_person 73 = .ok (.iconst 1, 1) := by decide +kernel
theorem dX12_person_74 : decode cX12_person 74 = .ok (.isub, 1) := by decide +kernel
theorem dX12_person_75 : decode cX12_person 75 = .ok (.ireturn, 1) := by decide +kernel
theorem dX12_row_0 : decode cX12_row 0 = .ok (.aload_n 0, 1) := by decide +kernel
theorem dX12_row_1 : decode cX12_row 1 = .ok (.iload_n 1, 1) := by decide +kernel
theorem dX12_row_2 : decode cX12_row 2 = .ok (.invokevirtual 139, 3) := by decide +kernel
theorem dX12_row_5 : decode cX12_row 5 = .ok (.ifCond .eq 19, 3) := by decide +kernel
theorem dX12_row_8 : decode cX12_row 8 = .ok (.iload_n 2, 1) := by decide +kernel
theorem dX12_row_9 : decode cX12_row 9 = .ok (.iconst (-1), 1) := by decide +kernel
theorem dX12_row_10 : decode cX12_row 10 = .ok (.if_icmp .eq 16, 3) := by decide +kernel
theorem dX12_row_13 : decode cX12_row 13 = .ok (.iload_n 2, 1) := by decide +kernel
theorem dX12_row_14 : decode cX12_row 14 = .ok (.iconst 1, 1) := by decide +kernel
theorem dX12_row_15 : decode cX12_row 15 = .ok (.if_icmp .lt 9, 3) := by decide +kernel
theorem dX12_row_18 : decode cX12_row 18 = .ok (.iload_n 2, 1) := by decide +kernel
theorem dX12_row_19 : decode cX12_row 19 = .ok (.bipush 48, 2) := by decide +kernel
theorem dX12_row_21 : decode cX12_row 21 = .ok (.if_icmp .le 5, 3) := by decide +kernel
theorem dX12_row_24 : decode cX12_row 24 = .ok (.iconst 0, 1) := by decide +kernel
theorem dX12_row_25 : decode cX12_row 25 = .ok (.ireturn, 1) := by decide +kernel
theorem dX12_row_26 : decode cX12_row 26 = .ok (.aload_n 0, 1) := by decide +kernel
theorem dX12_row_27 : decode cX12_row 27 = .ok (.getfield 23, 3) := by decide +kernel
theorem dX12_row_30 : decode cX12_row 30 = .ok (.iload_n 1, 1) := by decide +kernel
theorem dX12_row_31 : decode cX12_row 31 = .ok (.iload_n 2, 1) := by decide +kernel
theorem dX12_row_32 : decode cX12_row 32 = .ok (.iastore, 1) := by decide +kernel
theorem dX12_row_33 : decode cX12_row 33 = .ok (.iconst 0, 1) := by decide +kernel
theorem dX12_row_34 : decode cX12_row 34 = .ok (.istore_n 3, 1) := by decide +kernel
theorem dX12_row_35 : decode cX12_row 35 = .ok (.iload_n 3, 1) := by decide +kernel
theorem dX12_row_36 : decode cX12_row 36 = .ok (.bipush 48, 2) := by decide +kernel
theorem dX12_row_38 : decode cX12_row 38 = .ok (.if_icmp .ge 21, 3) := by decide +kernel
theorem dX12_row_41 : decode cX12_row 41 = .ok (.aload_n 0, 1) := by decide +kernel
theorem dX12_row_42 : decode cX12_row 42 = .ok (.getfield 26, 3) := by decide +kernel
theorem dX12_row_45 : decode cX12_row 45 = .ok (.bipush 48, 2) := by decide +kernel
theorem dX12_row_47 : decode cX12_row 47 = .ok (.iload_n 1, 1) := by decide +kernel
theorem dX12_row_48 : decode cX12_row 48 = .ok (.imul, 1) := by decide +kernel
theorem dX12_row_49 : decode cX12_row 49 = .ok (.iload_n 3, 1) := by decide +kernel
theorem dX12_row_50 : decode cX12_row 50 = .ok (.iadd, 1) := by decide +kernel
theorem dX12_row_51 : decode cX12_row 51 = .ok (.iconst 0, 1) := by decide +kernel
theorem dX12_row_52 : decode cX12_row 52 = .ok (.iastore, 1) := by decide +kernel
theorem dX12_row_53 : decode cX12_row 53 = .ok (.iinc 3 1, 3) := by decide +kernel
theorem dX12_row_56 : decode cX12_row 56 = .ok (.goto (-21), 3) := by decide +kernel
theorem dX12_row_59 : decode cX12_row 59 = .ok (.iconst 1, 1) := by decide +kernel
theorem dX12_row_60 : decode cX12_row 60 = .ok (.ireturn, 1) := by decide +kernel
theorem dX12_cell_0 : decode cX12_cell 0 = .ok (.aload_n 0, 1) := by decide +kernel
theorem dX12_cell_1 : decode cX12_cell 1 = .ok (.iload_n 1, 1) := by decide +kernel
theorem dX12_cell_2 : decode cX12_cell 2 = .ok (.invokevirtual 139, 3) := by decide +kernel
theorem dX12_cell_5 : decode cX12_cell 5 = .ok (.ifCond .eq 28, 3) := by decide +kernel
theorem dX12_cell_8 : decode cX12_cell 8 = .ok (.iload_n 2, 1) := by decide +kernel
theorem dX12_cell_9 : decode cX12_cell 9 = .ok (.ifCond .lt 24, 3) := by decide +kernel
theorem dX12_cell_12 : decode cX12_cell 12 = .ok (.iload_n 2, 1) := by decide +kernel
theorem dX12_cell_13 : decode cX12_cell 13 = .ok (.aload_n 0, 1) := by decide +kernel
theorem dX12_cell_14 : decode cX12_cell 14 = .ok (.getfield 23, 3) := by decide +kernel
theorem dX12_cell_17 : decode cX12_cell 17 = .ok (.iload_n 1, 1) := by decide +kernel
theorem dX12_cell_18 : decode cX12_cell 18 = .ok (.iaload, 1) := by decide +kernel
theorem dX12_cell_19 : decode cX12_cell 19 = .ok (.if_icmp .ge 14, 3) := by decide +kernel
theorem dX12_cell_22 : decode cX12_cell 22 = .ok (.iload_n 3, 1) := by decide +kernel
theorem dX12_cell_23 : decode cX12_cell 23 = .ok (.iconst (-1), 1) := by decide +kernel
theorem dX12_cell_24 : decode cX12_cell 24 = .ok (.if_icmp .lt 9, 3) := by decide +kernel
theorem dX12_cell_27 : decode cX12_cell 27 = .ok (.iload_n 3, 1) := by decide +kernel
theorem dX12_cell_28 : decode cX12_cell 28 = .ok (.bipush 100, 2) := by decide +kernel
theorem dX12_cell_30 : decode cX12_cell 30 = .ok (.if_icmp .le 5, 3) := by decide +kernel
theorem dX12_cell_33 : decode cX12_cell 33 = .ok (.iconst 0, 1) := by decide +kernel
theorem dX12_cell_34 : decode cX12_cell 34 = .ok (.ireturn, 1) := by decide +kernel
theorem dX12_cell_35 : decode cX12_cell 35 = .ok (.aload_n 0, 1) := by decide +kernel
theorem dX12_cell_36 : decode cX12_cell 36 = .ok (.getfield 26, 3) := by decide +kernel
theorem dX12_cell_39 : decode cX12_cell 39 = .ok (.bipush 48, 2) := by decide +kernel
theorem dX12_cell_41 : decode cX12_cell 41 = .ok (.iload_n 1, 1) := by decide +kernel
theorem dX12_cell_42 : decode cX12_cell 42 = .ok (.imul, 1) := by decide +kernel
theorem dX12_cell_43 : decode cX12_cell 43 = .ok (.iload_n 2, 1) := by decide +kernel
theorem dX12_cell_44 : decode cX12_cell 44 = .ok (.iadd, 1) := by decide +kernel
theorem dX12_cell_45 : decode cX12_cell 45 = .ok (.iload_n 3, 1) := by decide +kernel
theorem dX12_cell_46 : decode cX12_cell 46 = .ok (.iastore, 1) := by decide +kernel
theorem dX12_cell_47 : decode cX12_cell 47 = .ok (.iconst 1, 1) := by decide +kernel
theorem dX12_cell_48 : decode cX12_cell 48 = .ok (.ireturn, 1) := by decide +kernel
theorem dX12_fact_0 : decode cX12_fact 0 = .ok (.aload_n 0, 1) := by decide +kernel
theorem dX12_fact_1 : decode cX12_fact 1 = .ok (.getfield 29, 3) := by decide +kernel
theorem dX12_fact_4 : decode cX12_fact 4 = .ok (.aload_n 0, 1) := by decide +kernel
theorem dX12_fact_5 : decode cX12_fact 5 = .ok (.getfield 129, 3) := by decide +kernel
theorem dX12_fact_8 : decode cX12_fact 8 = .ok (.iload_n 1, 1) := by decide +kernel
theorem dX12_fact_9 : decode cX12_fact 9 = .ok (.iastore, 1) := by decide +kernel
theorem dX12_fact_10 : decode cX12_fact 10 = .ok (.aload_n 0, 1) := by decide +kernel
theorem dX12_fact_11 : decode cX12_fact 11 = .ok (.getfield 32, 3) := by decide +kernel
theorem dX12_fact_14 : decode cX12_fact 14 = .ok (.aload_n 0, 1) := by decide +kernel
theorem dX12_fact_15 : decode cX12_fact 15 = .ok (.getfield 129, 3) := by decide +kernel
theorem dX12_fact_18 : decode cX12_fact 18 = .ok (.iload_n 2, 1) := by decide +kernel
theorem dX12_fact_19 : decode cX12_fact 19 = .ok (.iastore, 1) := by decide +kernel
theorem dX12_fact_20 : decode cX12_fact 20 = .ok (.aload_n 0, 1) := by decide +kernel
theorem dX12_fact_21 : decode cX12_fact 21 = .ok (.getfield 35, 3) := by decide +kernel
theorem dX12_fact_24 : decode cX12_fact 24 = .ok (.aload_n 0, 1) := by decide +kernel
theorem dX12_fact_25 : decode cX12_fact 25 = .ok (.getfield 129, 3) := by decide +kernel
theorem dX12_fact_28 : decode cX12_fact 28 = .ok (.iload_n 3, 1) := by decide +kernel
theorem dX12_fact_29 : decode cX12_fact 29 = .ok (.iastore, 1) := by decide +kernel
theorem dX12_fact_30 : decode cX12_fact 30 = .ok (.aload_n 0, 1) := by decide +kernel
theorem dX12_fact_31 : decode cX12_fact 31 = .ok (.getfield 38, 3) := by decide +kernel
theorem dX12_fact_34 : decode cX12_fact 34 = .ok (.aload_n 0, 1) := by decide +kernel
theorem dX12_fact_35 : decode cX12_fact 35 = .ok (.getfield 129, 3) := by decide +kernel
theorem dX12_fact_38 : decode cX12_fact 38 = .ok (.iload 4, 2) := by decide +kernel
theorem dX12_fact_40 : decode cX12_fact 40 = .ok (.iastore, 1) := by decide +kernel
theorem dX12_fact_41 : decode cX12_fact 41 = .ok (.aload_n 0, 1) := by decide +kernel
theorem dX12_fact_42 : decode cX12_fact 42 = .ok (.getfield 41, 3) := by decide +kernel
theorem dX12_fact_45 : decode cX12_fact 45 = .ok (.aload_n 0, 1) := by decide +kernel
theorem dX12_fact_46 : decode cX12_fact 46 = .ok (.getfield 129, 3) := by decide +kernel
theorem dX12_fact_49 : decode cX12_fact 49 = .ok (.iload 5, 2) := by decide +kernel
theorem dX12_fact_51 : decode cX12_fact 51 = .ok (.bastore, 1) := by decide +kernel
theorem dX12_fact_52 : decode cX12_fact 52 = .ok (.aload_n 0, 1) := by decide +kernel
theorem dX12_fact_53 : decode cX12_fact 53 = .ok (.dup, 1) := by decide +kernel
theorem dX12_fact_54 : decode cX12_fact 54 = .ok (.getfield 129, 3) := by decide +kernel
theorem dX12_fact_57 : decode cX12_fact 57 = .ok (.iconst 1, 1) := by decide +kernel
theorem dX12_fact_58 : decode cX12_fact 58 = .ok (.iadd, 1) := by decide +kernel
theorem dX12_fact_59 : decode cX12_fact 59 = .ok (.putfield 129, 3) := by decide +kernel
theorem dX12_fact_62 : decode cX12_fact 62 = .ok (.aload_n 0, 1) := by decide +kernel
theorem dX12_fact_63 : decode cX12_fact 63 = .ok (.getfield 129, 3) := by decide +kernel
theorem dX12_fact_66 : decode cX12_fact 66 = .ok (.iconst 1, 1) := by decide +kernel
theorem dX12_fact_67 : decode cX12_fact 67 = .ok (.isub, 1) := by decide +kernel
theorem dX12_fact_68 : decode cX12_fact 68 = .ok (.ireturn, 1) := by decide +kernel
theorem dX12_change_0 : decode cX12_change 0 = .ok (.aload_n 0, 1) := by decide +kernel
theorem dX12_change_1 : decode cX12_change 1 = .ok (.getfield 129, 3) := by decide +kernel
theorem dX12_change_4 : decode cX12_change 4 = .ok (.sipush 400, 3) := by decide +kernel
theorem dX12_change_7 : decode cX12_change 7 = .ok (.if_icmp .eq 29, 3) := by decide +kernel
theorem dX12_change_10 : decode cX12_change 10 = .ok (.aload_n 0, 1) := by decide +kernel
theorem dX12_change_11 : decode cX12_change 11 = .ok (.iload_n 1, 1) := by decide +kernel
theorem dX12_change_12 : decode cX12_change 12 = .ok (.invokevirtual 136, 3) := by decide +kernel
theorem dX12_change_15 : decode cX12_change 15 = .ok (.ifCond .eq 21, 3) := by decide +kernel
theorem dX12_change_18 : decode cX12_change 18 = .ok (.iload_n 2, 1) := by decide +kernel
theorem dX12_change_19 : decode cX12_change 19 = .ok (.ifCond .lt 17, 3) := by decide +kernel
theorem dX12_change_22 : decode cX12_change 22 = .ok (.iload_n 2, 1) := by decide +kernel
theorem dX12_change_23 : decode cX12_change 23 = .ok (.sipush 17472, 3) := by decide +kernel
theorem dX12_change_26 : decode cX12_change 26 = .ok (.if_icmp .ge 10, 3) := by decide +kernel
theorem dX12_change_29 : decode cX12_change 29 = .ok (.iload_n 3, 1) := by decide +kernel
theorem dX12_change_30 : decode cX12_change 30 = .ok (.invokestatic 132, 3) := by decide +kernel
theorem dX12_change_33 : decode cX12_change 33 = .ok (.ifCond .ne 7, 3) := by decide +kernel
theorem dX12_change_36 : decode cX12_change 36 = .ok (.iconst (-1), 1) := by decide +kernel
theorem dX12_change_37 : decode cX12_change 37 = .ok (.goto 12, 3) := by decide +kernel
theorem dX12_change_40 : decode cX12_change 40 = .ok (.aload_n 0, 1) := by decide +kernel
theorem dX12_change_41 : decode cX12_change 41 = .ok (.iconst 0, 1) := by decide +kernel
theorem dX12_change_42 : decode cX12_change 42 = .ok (.iload_n 1, 1) := by decide +kernel
theorem dX12_change_43 : decode cX12_change 43 = .ok (.iload_n 2, 1) := by decide +kernel
theorem dX12_change_44 : decode cX12_change 44 = .ok (.iload_n 3, 1) := by decide +kernel
theorem dX12_change_45 : decode cX12_change 45 = .ok (.iconst 0, 1) := by decide +kernel
theorem dX12_change_46 : decode cX12_change 46 = .ok (.invokevirtual 142, 3) := by decide +kernel
theorem dX12_change_49 : decode cX12_change 49 = .ok (.ireturn, 1) := by decide +kernel
theorem dX12_feast_0 : decode cX12_feast 0 = .ok (.aload_n 0, 1) := by decide +kernel
theorem dX12_feast_1 : decode cX12_feast 1 = .ok (.getfield 129, 3) := by decide +kernel
theorem dX12_feast_4 : decode cX12_feast 4 = .ok (.sipush 400, 3) := by decide +kernel
theorem dX12_feast_7 : decode cX12_feast 7 = .ok (.if_icmp .eq 22, 3) := by decide +kernel
theorem dX12_feast_10 : decode cX12_feast 10 = .ok (.aload_n 0, 1) := by decide +kernel
theorem dX12_feast_11 : decode cX12_feast 11 = .ok (.iload_n 1, 1) := by decide +kernel
theorem dX12_feast_12 : decode cX12_feast 12 = .ok (.invokevirtual 136, 3) := by decide +kernel
theorem dX12_feast_15 : decode cX12_feast 15 = .ok (.ifCond .eq 14, 3) := by decide +kernel
theorem dX12_feast_18 : decode cX12_feast 18 = .ok (.iload_n 2, 1) := by decide +kernel
theorem dX12_feast_19 : decode cX12_feast 19 = .ok (.ifCond .lt 10, 3) := by decide +kernel
theorem dX12_feast_22 : decode cX12_feast 22 = .ok (.iload_n 2, 1) := by decide +kernel
theorem dX12_feast_23 : decode cX12_feast 23 = .ok (.sipush 363, 3) := by decide +kernel
theorem dX12_feast_26 : decode cX12_feast 26 = .ok (.if_icmp .le 7, 3) := by decide +kernel
theorem dX12_feast_29 : decode cX12_feast 29 = .ok (.iconst (-1), 1) := by decide +kernel
theorem dX12_feast_30 : decode cX12_feast 30 = .ok (.goto 12, 3) := by decide +kernel
theorem dX12_feast_33 : decode cX12_feast 33 = .ok (.aload_n 0, 1) := by decide +kernel
theorem dX12_feast_34 : decode cX12_feast 34 = .ok (.iconst 1, 1) := by decide +kernel
theorem dX12_feast_35 : decode cX12_feast 35 = .ok (.iload_n 1, 1) := by decide +kernel
theorem dX12_feast_36 : decode cX12_feast 36 = .ok (.iload_n 2, 1) := by decide +kernel
theorem dX12_feast_37 : decode cX12_feast 37 = .ok (.iconst 0, 1) := by decide +kernel
theorem dX12_feast_38 : decode cX12_feast 38 = .ok (.iconst 0, 1) := by decide +kernel
theorem dX12_feast_39 : decode cX12_feast 39 = .ok (.invokevirtual 142, 3) := by decide +kernel
theorem dX12_feast_42 : decode cX12_feast 42 = .ok (.ireturn, 1) := by decide +kernel
theorem dX12_busy_0 : decode cX12_busy 0 = .ok (.aload_n 0, 1) := by decide +kernel
theorem dX12_busy_1 : decode cX12_busy 1 = .ok (.getfield 129, 3) := by decide +kernel
theorem dX12_busy_4 : decode cX12_busy 4 = .ok (.sipush 400, 3) := by decide +kernel
theorem dX12_busy_7 : decode cX12_busy 7 = .ok (.if_icmp .eq 27, 3) := by decide +kernel
theorem dX12_busy_10 : decode cX12_busy 10 = .ok (.aload_n 0, 1) := by decide +kernel
theorem dX12_busy_11 : decode cX12_busy 11 = .ok (.iload_n 1, 1) := by decide +kernel
theorem dX12_busy_12 : decode cX12_busy 12 = .ok (.invokevirtual 139, 3) := by decide +kernel
theorem dX12_busy_15 : decode cX12_busy 15 = .ok (.ifCond .eq 19, 3) := by decide +kernel
theorem dX12_busy_18 : decode cX12_busy 18 = .ok (.iload_n 2, 1) := by decide +kernel
theorem dX12_busy_19 : decode cX12_busy 19 = .ok (.ifCond .lt 15, 3) := by decide +kernel
theorem dX12_busy_22 : decode cX12_busy 22 = .ok (.iload_n 2, 1) := by decide +kernel
theorem dX12_busy_23 : decode cX12_busy 23 = .ok (.iload_n 3, 1) := by decide +kernel
theorem dX12_busy_24 : decode cX12_busy 24 = .ok (.if_icmp .ge 10, 3) := by decide +kernel
theorem dX12_busy_27 : decode cX12_busy 27 = .ok (.iload_n 3, 1) := by decide +kernel
theorem dX12_busy_28 : decode cX12_busy 28 = .ok (.sipush 17472, 3) := by decide +kernel
theorem dX12_busy_31 : decode cX12_busy 31 = .ok (.if_icmp .le 7, 3) := by decide +kernel
theorem dX12_busy_34 : decode cX12_busy 34 = .ok (.iconst (-1), 1) := by decide +kernel
theorem dX12_busy_35 : decode cX12_busy 35 = .ok (.goto 13, 3) := by decide +kernel
theorem dX12_busy_38 : decode cX12_busy 38 = .ok (.aload_n 0, 1) := by decide +kernel
theorem dX12_busy_39 : decode cX12_busy 39 = .ok (.iconst 2, 1) := by decide +kernel
theorem dX12_busy_40 : decode cX12_busy 40 = .ok (.iload_n 1, 1) := by decide +kernel
theorem dX12_busy_41 : decode cX12_busy 41 = .ok (.iload_n 2, 1) := by decide +kernel
theorem dX12_busy_42 : decode cX12_busy 42 = .ok (.iload_n 3, 1) := by decide +kernel
theorem dX12_busy_43 : decode cX12_busy 43 = .ok (.iload 4, 2) := by decide +kernel
theorem dX12_busy_45 : decode cX12_busy 45 = .ok (.invokevirtual 142, 3) := by decide +kernel
theorem dX12_busy_48 : decode cX12_busy 48 = .ok (.ireturn, 1) := by decide +kernel
theorem dX12_cant_0 : decode cX12_cant 0 = .ok (.aload_n 0, 1) := by decide +kernel
theorem dX12_cant_1 : decode cX12_cant 1 = .ok (.getfield 129, 3) := by decide +kernel
theorem dX12_cant_4 : decode cX12_cant 4 = .ok (.sipush 400, 3) := by decide +kernel
theorem dX12_cant_7 : decode cX12_cant 7 = .ok (.if_icmp .eq 26, 3) := by decide +kernel
theorem dX12_cant_10 : decode cX12_cant 10 = .ok (.aload_n 0, 1) := by decide +kernel
theorem dX12_cant_11 : decode cX12_cant 11 = .ok (.iload_n 1, 1) := by decide +kernel
theorem dX12_cant_12 : decode cX12_cant 12 = .ok (.invokevirtual 139, 3) := by decide +kernel
theorem dX12_cant_15 : decode cX12_cant 15 = .ok (.ifCond .eq 18, 3) := by decide +kernel
theorem dX12_cant_18 : decode cX12_cant 18 = .ok (.aload_n 0, 1) := by decide +kernel
theorem dX12_cant_19 : decode cX12_cant 19 = .ok (.iload_n 2, 1) := by decide +kernel
theorem dX12_cant_20 : decode cX12_cant 20 = .ok (.invokevirtual 146, 3) := by decide +kernel
theorem dX12_cant_23 : decode cX12_cant 23 = .ok (.ifCond .eq 10, 3) := by decide +kernel
theorem dX12_cant_26 : decode cX12_cant 26 = .ok (.iload_n 3, 1) := by decide +kernel
theorem dX12_cant_27 : decode cX12_cant 27 = .ok (.invokestatic 149, 3) := by decide +kernel
theorem dX12_cant_30 : decode cX12_cant 30 = .ok (.ifCond .ne 7, 3) := by decide +kernel
theorem dX12_cant_33 : decode cX12_cant 33 = .ok (.iconst (-1), 1) := by decide +kernel
theorem dX12_cant_34 : decode cX12_cant 34 = .ok (.goto 12, 3) := by decide +kernel
theorem dX12_cant_37 : decode cX12_cant 37 = .ok (.aload_n 0, 1) := by decide +kernel
theorem dX12_cant_38 : decode cX12_cant 38 = .ok (.iconst 3, 1) := by decide +kernel
theorem dX12_cant_39 : decode cX12_cant 39 = .ok (.iload_n 1, 1) := by decide +kernel
theorem dX12_cant_40 : decode cX12_cant 40 = .ok (.iload_n 2, 1) := by decide +kernel
theorem dX12_cant_41 : decode cX12_cant 41 = .ok (.iload_n 3, 1) := by decide +kernel
theorem dX12_cant_42 : decode cX12_cant 42 = .ok (.iconst 0, 1) := by decide +kernel
theorem dX12_cant_43 : decode cX12_cant 43 = .ok (.invokevirtual 142, 3) := by decide +kernel
theorem dX12_cant_46 : decode cX12_cant 46 = .ok (.ireturn, 1) := by decide +kernel
theorem dX12_offsetAt_0 : decode cX12_offsetAt 0 = .ok (.iconst (-1), 1) := by decide +kernel
theorem dX12_offsetAt_1 : decode cX12_offsetAt 1 = .ok (.istore 4, 2) := by decide +kernel
theorem dX12_offsetAt_3 : decode cX12_offsetAt 3 = .ok (.iconst 0, 1) := by decide +kernel
theorem dX12_offsetAt_4 : decode cX12_offsetAt 4 = .ok (.istore 5, 2) := by decide +kernel
theorem dX12_offsetAt_6 : decode cX12_offsetAt 6 = .ok (.iload 5, 2) := by decide +kernel
theorem dX12_offsetAt_8 : decode cX12_offsetAt 8 = .ok (.iload_n 3, 1) := by decide +kernel
theorem dX12_offsetAt_9 : decode cX12_offsetAt 9 = .ok (.if_icmp .ge 68, 3) := by decide +kernel
theorem dX12_offsetAt_12 : decode cX12_offsetAt 12 = .ok (.aload_n 0, 1) := by decide +kernel
theorem dX12_offsetAt_13 : decode cX12_offsetAt 13 = .ok (.getfield 29, 3) := by decide +kernel
theorem dX12_offsetAt_16 : decode cX12_offsetAt 16 = .ok (.iload 5, 2) := by decide +kernel
theorem dX12_offsetAt_18 : decode cX12_offsetAt 18 = .ok (.iaload, 1) := by decide +kernel
theorem dX12_offsetAt_19 : decode cX12_offsetAt 19 = .ok (.ifCond .ne 52, 3) := by decide +kernel
theorem dX12_offsetAt_22 : decode cX12_offsetAt 22 = .ok (.aload_n 0, 1) := by decide +kernel
theorem dX12_offsetAt_23 : decode cX12_offsetAt 23 = .ok (.getfield 32, 3) := by decide +kernel
theorem dX12_offsetAt_26 : decode cX12_offsetAt 26 = .ok (.iload 5, 2) := by decide +kernel
theorem dX12_offsetAt_28 : decode cX12_offsetAt 28 = .ok (.iaload, 1) := by decide +kernel
theorem dX12_offsetAt_29 : decode cX12_offsetAt 29 = .ok (.iload_n 1, 1) := by decide +kernel
theorem dX12_offsetAt_30 : decode cX12_offsetAt 30 = .ok (.if_icmp .ne 41, 3) := by decide +kernel
theorem dX12_offsetAt_33 : decode cX12_offsetAt 33 = .ok (.aload_n 0, 1) := by decide +kernel
theorem dX12_offsetAt_34 : decode cX12_offsetAt 34 = .ok (.getfield 35, 3) := by decide +kernel
theorem dX12_offsetAt_37 : decode cX12_offsetAt 37 = .ok (.iload 5, 2) := by decide +kernel
theorem dX12_offsetAt_39 : decode cX12_offsetAt 39 = .ok (.iaload, 1) := by decide +kernel
theorem dX12_offsetAt_40 : decode cX12_offsetAt 40 = .ok (.iload_n 2, 1) := by decide +kernel
theorem dX12_offsetAt_41 : decode cX12_offsetAt 41 = .ok (.if_icmp .gt 30, 3) := by decide +kernel
theorem dX12_offsetAt_44 : decode cX12_offsetAt 44 = .ok (.iload 4, 2) := by decide +kernel
theorem dX12_offsetAt_46 : decode cX12_offsetAt 46 = .ok (.iconst (-1), 1) := by decide +kernel
theorem dX12_offsetAt_47 : decode cX12_offsetAt 47 = .ok (.if_icmp .eq 20, 3) := by decide +kernel
theorem dX12_offsetAt_50 : decode cX12_offsetAt 50 = .ok (.aload_n 0, 1) := by decide +kernel
theorem dX12_offsetAt_51 : decode cX12_offsetAt 51 = .ok (.getfield 35, 3) := by decide +kernel
theorem dX12_offsetAt_54 : decode cX12_offsetAt 54 = .ok (.iload 5, 2) := by decide +kernel
theorem dX12_offsetAt_56 : decode cX12_offsetAt 56 = .ok (.iaload, 1) := by decide +kernel
theorem dX12_offsetAt_57 : decode cX12_offsetAt 57 = .ok (.aload_n 0, 1) := by decide +kernel
theorem dX12_offsetAt_58 : decode cX12_offsetAt 58 = .ok (.getfield 35, 3) := by decide +kernel
theorem dX12_offsetAt_61 : decode cX12_offsetAt 61 = .ok (.iload 4, 2) := by decide +kernel
theorem dX12_offsetAt_63 : decode cX12_offsetAt 63 = .ok (.iaload, 1) := by decide +kernel
theorem dX12_offsetAt_64 : decode cX12_offsetAt 64 = .ok (.if_icmp .lt 7, 3) := by decide +kernel
theorem dX12_offsetAt_67 : decode cX12_offsetAt 67 = .ok (.iload 5, 2) := by decide +kernel
theorem dX12_offsetAt_69 : decode cX12_offsetAt 69 = .ok (.istore 4, 2) := by decide +kernel
theorem dX12_offsetAt_71 : decode cX12_offsetAt 71 = .ok (.iinc 5 1, 3) := by decide +kernel
theorem dX12_offsetAt_74 : decode cX12_offsetAt 74 = .ok (.goto (-68), 3) := by decide +kernel
theorem dX12_offsetAt_77 : decode cX12_offsetAt 77 = .ok (.iload 4, 2) := by decide +kernel
theorem dX12_offsetAt_79 : decode cX12_offsetAt 79 = .ok (.iconst (-1), 1) := by decide +kernel
theorem dX12_offsetAt_80 : decode cX12_offsetAt 80 = .ok (.if_icmp .ne 12, 3) := by decide +kernel
theorem dX12_offsetAt_83 : decode cX12_offsetAt 83 = .ok (.aload_n 0, 1) := by decide +kernel
theorem dX12_offsetAt_84 : decode cX12_offsetAt 84 = .ok (.getfield 13, 3) := by decide +kernel
theorem dX12_offsetAt_87 : decode cX12_offsetAt 87 = .ok (.iload_n 1, 1) := by decide +kernel
theorem dX12_offsetAt_88 : decode cX12_offsetAt 88 = .ok (.iaload, 1) := by decide +kernel
theorem dX12_offsetAt_89 : decode cX12_offsetAt 89 = .ok (.goto 10, 3) := by decide +kernel
theorem dX12_offsetAt_92 : decode cX12_offsetAt 92 = .ok (.aload_n 0, 1) := by decide +kernel
theorem dX12_offsetAt_93 : decode cX12_offsetAt 93 = .ok (.getfield 38, 3) := by decide +kernel
theorem dX12_offsetAt_96 : decode cX12_offsetAt 96 = .ok (.iload 4, 2) := by decide +kernel
theorem dX12_offsetAt_98 : decode cX12_offsetAt 98 = .ok (.iaload, 1) := by decide +kernel
theorem dX12_offsetAt_99 : decode cX12_offsetAt 99 = .ok (.ireturn, 1) := by decide +kernel
theorem dX12_down_0 : decode cX12_down 0 = .ok (.iload_n 0, 1) := by decide +kernel
theorem dX12_down_1 : decode cX12_down 1 = .ok (.iload_n 1, 1) := by decide +kernel
theorem dX12_down_2 : decode cX12_down 2 = .ok (.idiv, 1) := by decide +kernel
theorem dX12_down_3 : decode cX12_down 3 = .ok (.istore_n 2, 1) := by decide +kernel
theorem dX12_down_4 : decode cX12_down 4 = .ok (.iload_n 0, 1) := by decide +kernel
theorem dX12_down_5 : decode cX12_down 5 = .ok (.iload_n 1, 1) := by decide +kernel
theorem dX12_down_6 : decode cX12_down 6 = .ok (.irem, 1) := by decide +kernel
theorem dX12_down_7 : decode cX12_down 7 = .ok (.ifCond .ge 9, 3) := by decide +kernel
theorem dX12_down_10 : decode cX12_down 10 = .ok (.iload_n 2, 1) := by decide +kernel
theorem dX12_down_11 : decode cX12_down 11 = .ok (.iconst 1, 1) := by decide +kernel
theorem dX12_down_12 : decode cX12_down 12 = .ok (.isub, 1) := by decide +kernel
theorem dX12_down_13 : decode cX12_down 13 = .ok (.goto 4, 3) := by decide +kernel
theorem dX12_down_16 : decode cX12_down 16 = .ok (.iload_n 2, 1) := by decide +kernel
theorem dX12_down_17 : decode cX12_down 17 = .ok (.ireturn, 1) := by decide +kernel
theorem dX12_local_0 : decode cX12_local 0 = .ok (.aload_n 0, 1) := by decide +kernel
theorem dX12_local_1 : decode cX12_local 1 = .ok (.iload_n 1, 1) := by decide +kernel
theorem dX12_local_2 : decode cX12_local 2 = .ok (.invokevirtual 136, 3) := by decide +kernel
theorem dX12_local_5 : decode cX12_local 5 = .ok (.ifCond .eq 33, 3) := by decide +kernel
theorem dX12_local_8 : decode cX12_local 8 = .ok (.iload_n 2, 1) := by decide +kernel
theorem dX12_local_9 : decode cX12_local 9 = .ok (.ifCond .lt 29, 3) := by decide +kernel
theorem dX12_local_12 : decode cX12_local 12 = .ok (.iload_n 2, 1) := by decide +kernel
theorem dX12_local_13 : decode cX12_local 13 = .ok (.sipush 17472, 3) := by decide +kernel
theorem dX12_local_16 : decode cX12_local 16 = .ok (.if_icmp .ge 22, 3) := by decide +kernel
theorem dX12_local_19 : decode cX12_local 19 = .ok (.aload_n 0, 1) := by decide +kernel
theorem dX12_local_20 : decode cX12_local 20 = .ok (.iload_n 3, 1) := by decide +kernel
theorem dX12_local_21 : decode cX12_local 21 = .ok (.invokevirtual 152, 3) := by decide +kernel
theorem dX12_local_24 : decode cX12_local 24 = .ok (.ifCond .eq 14, 3) := by decide +kernel
theorem dX12_local_27 : decode cX12_local 27 = .ok (.iload 4, 2) := by decide +kernel
theorem dX12_local_29 : decode cX12_local 29 = .ok (.ifCond .lt 9, 3) := by decide +kernel
theorem dX12_local_32 : decode cX12_local 32 = .ok (.iload 4, 2) := by decide +kernel
theorem dX12_local_34 : decode cX12_local 34 = .ok (.iconst 3, 1) := by decide +kernel
theorem dX12_local_35 : decode cX12_local 35 = .ok (.if_icmp .le 6, 3) := by decide +kernel
theorem dX12_local_38 : decode cX12_local 38 = .ok (.ldc 155, 2) := by decide +kernel
theorem dX12_local_40 : decode cX12_local 40 = .ok (.ireturn, 1) := by decide +kernel
theorem dX12_local_41 : decode cX12_local 41 = .ok (.aload_n 0, 1) := by decide +kernel
theorem dX12_local_42 : decode cX12_local 42 = .ok (.iload_n 1, 1) := by decide +kernel
theorem dX12_local_43 : decode cX12_local 43 = .ok (.iload_n 2, 1) := by decide +kernel
theorem dX12_local_44 : decode cX12_local 44 = .ok (.iload_n 3, 1) := by decide +kernel
theorem dX12_local_45 : decode cX12_local 45 = .ok (.invokevirtual 156, 3) := by decide +kernel
theorem dX12_local_48 : decode cX12_local 48 = .ok (.istore 5, 2) := by decide +kernel
theorem dX12_local_50 : decode cX12_local 50 = .ok (.iload_n 2, 1) := by decide +kernel
theorem dX12_local_51 : decode cX12_local 51 = .ok (.iload 5, 2) := by decide +kernel
theorem dX12_local_53 : decode cX12_local 53 = .ok (.iadd, 1) := by decide +kernel
theorem dX12_local_54 : decode cX12_local 54 = .ok (.bipush 48, 2) := by decide +kernel
theorem dX12_local_56 : decode cX12_local 56 = .ok (.invokestatic 160, 3) := by decide +kernel
theorem dX12_local_59 : decode cX12_local 59 = .ok (.istore 6, 2) := by decide +kernel
theorem dX12_local_61 : decode cX12_local 61 = .ok (.iload 4, 2) := by decide +kernel
theorem dX12_local_63 : decode cX12_local 63 = .ok (.tableswitch 53 0 2 #[25, 28, 39], 25) := by decide +kernel
theorem dX12_local_88 : decode cX12_local 88 = .ok (.iload 6, 2) := by decide +kernel
theorem dX12_local_90 : decode cX12_local 90 = .ok (.ireturn, 1) := by decide +kernel
theorem dX12_local_91 : decode cX12_local 91 = .ok (.iload_n 2, 1) := by decide +kernel
theorem dX12_local_92 : decode cX12_local 92 = .ok (.iload 5, 2) := by decide +kernel
theorem dX12_local_94 : decode cX12_local 94 = .ok (.iadd, 1) := by decide +kernel
theorem dX12_local_95 : decode cX12_local 95 = .ok (.bipush 48, 2) := by decide +kernel
theorem dX12_local_97 : decode cX12_local 97 = .ok (.iload 6, 2) := by decide +kernel
theorem dX12_local_99 : decode cX12_local 99 = .ok (.imul, 1) := by decide +kernel
theorem dX12_local_100 : decode cX12_local 100 = .ok (.isub, 1) := by decide +kernel
theorem dX12_local_101 : decode cX12_local 101 = .ok (.ireturn, 1) := by decide +kernel
theorem dX12_local_102 : decode cX12_local 102 = .ok (.iload 6, 2) := by decide +kernel
theorem dX12_local_104 : decode cX12_local 104 = .ok (.bipush 7, 2) := by decide +kernel
theorem dX12_local_106 : decode cX12_local 106 = .ok (.iload 6, 2) := by decide +kernel
theorem dX12_local_108 : decode cX12_local 108 = .ok (.bipush 7, 2) := by decide +kernel
theorem dX12_local_110 : decode cX12_local 110 = .ok (.invokestatic 160, 3) := by decide +kernel
theorem dX12_local_113 : decode cX12_local 113 = .ok (.imul, 1) := by decide +kernel
theorem dX12_local_114 : decode cX12_local 114 = .ok (.isub, 1) := by decide +kernel
theorem dX12_local_115 : decode cX12_local 115 = .ok (.ireturn, 1) := by decide +kernel
theorem dX12_local_116 : decode cX12_local 116 = .ok (.iload 5, 2) := by decide +kernel
theorem dX12_local_118 : decode cX12_local 118 = .ok (.ireturn, 1) := by decide +kernel
theorem dX12_when_0 : decode cX12_when 0 = .ok (.aload_n 0, 1) := by decide +kernel
theorem dX12_when_1 : decode cX12_when 1 = .ok (.iload_n 1, 1) := by decide +kernel
theorem dX12_when_2 : decode cX12_when 2 = .ok (.invokevirtual 136, 3) := by decide +kernel
theorem dX12_when_5 : decode cX12_when 5 = .ok (.ifCond .eq 45, 3) := by decide +kernel
theorem dX12_when_8 : decode cX12_when 8 = .ok (.iload_n 2, 1) := by decide +kernel
theorem dX12_when_9 : decode cX12_when 9 = .ok (.iconst (-1), 1) := by decide +kernel
theorem dX12_when_10 : decode cX12_when 10 = .ok (.if_icmp .lt 40, 3) := by decide +kernel
theorem dX12_when_13 : decode cX12_when 13 = .ok (.iload_n 2, 1) := by decide +kernel
theorem dX12_when_14 : decode cX12_when 14 = .ok (.sipush 364, 3) := by decide +kernel
theorem dX12_when_17 : decode cX12_when 17 = .ok (.if_icmp .gt 33, 3) := by decide +kernel
theorem dX12_when_20 : decode cX12_when 20 = .ok (.iload_n 3, 1) := by decide +kernel
theorem dX12_when_21 : decode cX12_when 21 = .ok (.ifCond .lt 29, 3) := by decide +kernel
theorem dX12_when_24 : decode cX12_when 24 = .ok (.iload_n 3, 1) := by decide +kernel
theorem dX12_when_25 : decode cX12_when 25 = .ok (.bipush 47, 2) := by decide +kernel
theorem dX12_when_27 : decode cX12_when 27 = .ok (.if_icmp .gt 23, 3) := by decide +kernel
theorem dX12_when_30 : decode cX12_when 30 = .ok (.aload_n 0, 1) := by decide +kernel
theorem dX12_when_31 : decode cX12_when 31 = .ok (.iload 4, 2) := by decide +kernel
theorem dX12_when_33 : decode cX12_when 33 = .ok (.invokevirtual 152, 3) := by decide +kernel
theorem dX12_when_36 : decode cX12_when 36 = .ok (.ifCond .eq 14, 3) := by decide +kernel
theorem dX12_when_39 : decode cX12_when 39 = .ok (.iload 5, 2) := by decide +kernel
theorem dX12_when_41 : decode cX12_when 41 = .ok (.ifCond .lt 9, 3) := by decide +kernel
theorem dX12_when_44 : decode cX12_when 44 = .ok (.iload 5, 2) := by decide +kernel
theorem dX12_when_46 : decode cX12_when 46 = .ok (.iconst 2, 1) := by decide +kernel
theorem dX12_when_47 : decode cX12_when 47 = .ok (.if_icmp .le 5, 3) := by decide +kernel
theorem dX12_when_50 : decode cX12_when 50 = .ok (.iconst (-1), 1) := by decide +kernel
theorem dX12_when_51 : decode cX12_when 51 = .ok (.ireturn, 1) := by decide +kernel
theorem dX12_when_52 : decode cX12_when 52 = .ok (.bipush 48, 2) := by decide +kernel
theorem dX12_when_54 : decode cX12_when 54 = .ok (.iload_n 2, 1) := by decide +kernel
theorem dX12_when_55 : decode cX12_when 55 = .ok (.imul, 1) := by decide +kernel
theorem dX12_when_56 : decode cX12_when 56 = .ok (.iload_n 3, 1) := by decide +kernel
theorem dX12_when_57 : decode cX12_when 57 = .ok (.iadd, 1) := by decide +kernel
theorem dX12_when_58 : decode cX12_when 58 = .ok (.istore 6, 2) := by decide +kernel
theorem dX12_when_60 : decode cX12_when 60 = .ok (.iconst 0, 1) := by decide +kernel
theorem dX12_when_61 : decode cX12_when 61 = .ok (.istore 7, 2) := by decide +kernel
theorem dX12_when_63 : decode cX12_when 63 = .ok (.iconst (-1), 1) := by decide +kernel
theorem dX12_when_64 : decode cX12_when 64 = .ok (.istore 8, 2) := by decide +kernel
theorem dX12_when_66 : decode cX12_when 66 = .ok (.iconst (-1), 1) := by decide +kernel
theorem dX12_when_67 : decode cX12_when 67 = .ok (.istore 9, 2) := by decide +kernel
theorem dX12_when_69 : decode cX12_when 69 = .ok (.iload 6, 2) := by decide +kernel
theorem dX12_when_71 : decode cX12_when 71 = .ok (.bipush 28, 2) := by decide +kernel
theorem dX12_when_73 : decode cX12_when 73 = .ok (.isub, 1) := by decide +kernel
theorem dX12_when_74 : decode cX12_when 74 = .ok (.istore 10, 2) := by decide +kernel
theorem dX12_when_76 : decode cX12_when 76 = .ok (.iload 10, 2) := by decide +kernel
theorem dX12_when_78 : decode cX12_when 78 = .ok (.iload 6, 2) := by decide +kernel
theorem dX12_when_80 : decode cX12_when 80 = .ok (.bipush 24, 2) := by decide +kernel
theorem dX12_when_82 : decode cX12_when 82 = .ok (.iadd, 1) := by decide +kernel
theorem dX12_when_83 : decode cX12_when 83 = .ok (.if_icmp .gt 59, 3) := by decide +kernel
theorem dX12_when_86 : decode cX12_when 86 = .ok (.iload 10, 2) := by decide +kernel
theorem dX12_when_88 : decode cX12_when 88 = .ok (.ifCond .lt 48, 3) := by decide +kernel
theorem dX12_when_91 : decode cX12_when 91 = .ok (.iload 10, 2) := by decide +kernel
theorem dX12_when_93 : decode cX12_when 93 = .ok (.sipush 17472, 3) := by decide +kernel
theorem dX12_when_96 : decode cX12_when 96 = .ok (.if_icmp .ge 40, 3) := by decide +kernel
theorem dX12_when_99 : decode cX12_when 99 = .ok (.iload 10, 2) := by decide +kernel
theorem dX12_when_101 : decode cX12_when 101 = .ok (.aload_n 0, 1) := by decide +kernel
theorem dX12_when_102 : decode cX12_when 102 = .ok (.iload_n 1, 1) := by decide +kernel
theorem dX12_when_103 : decode cX12_when 103 = .ok (.iload 10, 2) := by decide +kernel
theorem dX12_when_105 : decode cX12_when 105 = .ok (.iload 4, 2) := by decide +kernel
theorem dX12_when_107 : decode cX12_when 107 = .ok (.invokevirtual 156, 3) := by decide +kernel
theorem dX12_when_110 : decode cX12_when 110 = .ok (.iadd, 1) := by decide +kernel
theorem dX12_when_111 : decode cX12_when 111 = .ok (.iload 6, 2) := by decide +kernel
theorem dX12_when_113 : decode cX12_when 113 = .ok (.if_icmp .eq 6, 3) := by decide +kernel
theorem dX12_when_116 : decode cX12_when 116 = .ok (.goto 20, 3) := by decide +kernel
theorem dX12_when_119 : decode cX12_when 119 = .ok (.iinc 7 1, 3) := by decide +kernel
theorem dX12_when_122 : decode cX12_when 122 = .ok (.iload 8, 2) := by decide +kernel
theorem dX12_when_124 : decode cX12_when 124 = .ok (.iconst (-1), 1) := by decide +kernel
theorem dX12_when_125 : decode cX12_when 125 = .ok (.if_icmp .ne 7, 3) := by decide +kernel
theorem dX12_when_128 : decode cX12_when 128 = .ok (.iload 10, 2) := by decide +kernel
theorem dX12_when_130 : decode cX12_when 130 = .ok (.istore 8, 2) := by decide +kernel
theorem dX12_when_132 : decode cX12_when 132 = .ok (.iload 10, 2) := by decide +kernel
theorem dX12_when_134 : decode cX12_when 134 = .ok (.istore 9, 2) := by decide +kernel
theorem dX12_when_136 : decode cX12_when 136 = .ok (.iinc 10 1, 3) := by decide +kernel
theorem dX12_when_139 : decode cX12_when 139 = .ok (.goto (-63), 3) := by decide +kernel
theorem dX12_when_142 : decode cX12_when 142 = .ok (.iload 5, 2) := by decide +kernel
theorem dX12_when_144 : decode cX12_when 144 = .ok (.ifCond .ne 8, 3) := by decide +kernel
theorem dX12_when_147 : decode cX12_when 147 = .ok (.iload 7, 2) := by decide +kernel
theorem dX12_when_149 : decode cX12_when 149 = .ok (.goto 16, 3) := by decide +kernel
theorem dX12_when_152 : decode cX12_when 152 = .ok (.iload 5, 2) := by decide +kernel
theorem dX12_when_154 : decode cX12_when 154 = .ok (.iconst 1, 1) := by decide +kernel
theorem dX12_when_155 : decode cX12_when 155 = .ok (.if_icmp .ne 8, 3) := by decide +kernel
theorem dX12_when_158 : decode cX12_when 158 = .ok (.iload 8, 2) := by decide +kernel
theorem dX12_when_160 : decode cX12_when 160 = .ok (.goto 5, 3) := by decide +kernel
theorem dX12_when_163 : decode cX12_when 163 = .ok (.iload 9, 2) := by decide +kernel
theorem dX12_when_165 : decode cX12_when 165 = .ok (.ireturn, 1) := by decide +kernel
theorem dX12_costAt_0 : decode cX12_costAt 0 = .ok (.aload_n 0, 1) := by decide +kernel
theorem dX12_costAt_1 : decode cX12_costAt 1 = .ok (.getfield 23, 3) := by decide +kernel
theorem dX12_costAt_4 : decode cX12_costAt 4 = .ok (.iload_n 1, 1) := by decide +kernel
theorem dX12_costAt_5 : decode cX12_costAt 5 = .ok (.iaload, 1) := by decide +kernel
theorem dX12_costAt_6 : decode cX12_costAt 6 = .ok (.iconst (-1), 1) := by decide +kernel
theorem dX12_costAt_7 : decode cX12_costAt 7 = .ok (.if_icmp .ne 5, 3) := by decide +kernel
theorem dX12_costAt_10 : decode cX12_costAt 10 = .ok (.iconst 0, 1) := by decide +kernel
theorem dX12_costAt_11 : decode cX12_costAt 11 = .ok (.ireturn, 1) := by decide +kernel
theorem dX12_costAt_12 : decode cX12_costAt 12 = .ok (.aload_n 0, 1) := by decide +kernel
theorem dX12_costAt_13 : decode cX12_costAt 13 = .ok (.getfield 26, 3) := by decide +kernel
theorem dX12_costAt_16 : decode cX12_costAt 16 = .ok (.bipush 48, 2) := by decide +kernel
theorem dX12_costAt_18 : decode cX12_costAt 18 = .ok (.iload_n 1, 1) := by decide +kernel
theorem dX12_costAt_19 : decode cX12_costAt 19 = .ok (.imul, 1) := by decide +kernel
theorem dX12_costAt_20 : decode cX12_costAt 20 = .ok (.iload_n 2, 1) := by decide +kernel
theorem dX12_costAt_21 : decode cX12_costAt 21 = .ok (.aload_n 0, 1) := by decide +kernel
theorem dX12_costAt_22 : decode cX12_costAt 22 = .ok (.getfield 23, 3) := by decide +kernel
theorem dX12_costAt_25 : decode cX12_costAt 25 = .ok (.iload_n 1, 1) := by decide +kernel
theorem dX12_costAt_26 : decode cX12_costAt 26 = .ok (.iaload, 1) := by decide +kernel
theorem dX12_costAt_27 : decode cX12_costAt 27 = .ok (.if_icmp .ge 7, 3) := by decide +kernel
theorem dX12_costAt_30 : decode cX12_costAt 30 = .ok (.iload_n 2, 1) := by decide +kernel
theorem dX12_costAt_31 : decode cX12_costAt 31 = .ok (.goto 11, 3) := by decide +kernel
theorem dX12_costAt_34 : decode cX12_costAt 34 = .ok (.aload_n 0, 1) := by decide +kernel
theorem dX12_costAt_35 : decode cX12_costAt 35 = .ok (.getfield 23, 3) := by decide +kernel
theorem dX12_costAt_38 : decode cX12_costAt 38 = .ok (.iload_n 1, 1) := by decide +kernel
theorem dX12_costAt_39 : decode cX12_costAt 39 = .ok (.iaload, 1) := by decide +kernel
theorem dX12_costAt_40 : decode cX12_costAt 40 = .ok (.iconst 1, 1) := by decide +kernel
theorem dX12_costAt_41 : decode cX12_costAt 41 = .ok (.isub, 1) := by decide +kernel
theorem dX12_costAt_42 : decode cX12_costAt 42 = .ok (.iadd, 1) := by decide +kernel
theorem dX12_costAt_43 : decode cX12_costAt 43 = .ok (.iaload, 1) := by decide +kernel
theorem dX12_costAt_44 : decode cX12_costAt 44 = .ok (.ireturn, 1) := by decide +kernel
theorem dX12_reason_0 : decode cX12_reason 0 = .ok (.aload_n 0, 1) := by decide +kernel
theorem dX12_reason_1 : decode cX12_reason 1 = .ok (.getfield 17, 3) := by decide +kernel
theorem dX12_reason_4 : decode cX12_reason 4 = .ok (.iload_n 1, 1) := by decide +kernel
theorem dX12_reason_5 : decode cX12_reason 5 = .ok (.iaload, 1) := by decide +kernel
theorem dX12_reason_6 : decode cX12_reason 6 = .ok (.istore 4, 2) := by decide +kernel
theorem dX12_reason_8 : decode cX12_reason 8 = .ok (.aload_n 0, 1) := by decide +kernel
theorem dX12_reason_9 : decode cX12_reason 9 = .ok (.iload 4, 2) := by decide +kernel
theorem dX12_reason_11 : decode cX12_reason 11 = .ok (.iload_n 2, 1) := by decide +kernel
theorem dX12_reason_12 : decode cX12_reason 12 = .ok (.iload_n 3, 1) := by decide +kernel
theorem dX12_reason_13 : decode cX12_reason 13 = .ok (.invokevirtual 156, 3) := by decide +kernel
theorem dX12_reason_16 : decode cX12_reason 16 = .ok (.istore 5, 2) := by decide +kernel
theorem dX12_reason_18 : decode cX12_reason 18 = .ok (.iload_n 2, 1) := by decide +kernel
theorem dX12_reason_19 : decode cX12_reason 19 = .ok (.iload 5, 2) := by decide +kernel
theorem dX12_reason_21 : decode cX12_reason 21 = .ok (.iadd, 1) := by decide +kernel
theorem dX12_reason_22 : decode cX12_reason 22 = .ok (.bipush 48, 2) := by decide +kernel
theorem dX12_reason_24 : decode cX12_reason 24 = .ok (.invokestatic 160, 3) := by decide +kernel
theorem dX12_reason_27 : decode cX12_reason 27 = .ok (.istore 6, 2) := by decide +kernel
theorem dX12_reason_29 : decode cX12_reason 29 = .ok (.aload_n 0, 1) := by decide +kernel
theorem dX12_reason_30 : decode cX12_reason 30 = .ok (.iload_n 1, 1) := by decide +kernel
theorem dX12_reason_31 : decode cX12_reason 31 = .ok (.iload_n 2, 1) := by decide +kernel
theorem dX12_reason_32 : decode cX12_reason 32 = .ok (.iload 5, 2) := by decide +kernel
theorem dX12_reason_34 : decode cX12_reason 34 = .ok (.iadd, 1) := by decide +kernel
theorem dX12_reason_35 : decode cX12_reason 35 = .ok (.bipush 48, 2) := by decide +kernel
theorem dX12_reason_37 : decode cX12_reason 37 = .ok (.iload 6, 2) := by decide +kernel
theorem dX12_reason_39 : decode cX12_reason 39 = .ok (.imul, 1) := by decide +kernel
theorem dX12_reason_40 : decode cX12_reason 40 = .ok (.isub, 1) := by decide +kernel
theorem dX12_reason_41 : decode cX12_reason 41 = .ok (.invokevirtual 164, 3) := by decide +kernel
theorem dX12_reason_44 : decode cX12_reason 44 = .ok (.iconst (-1), 1) := by decide +kernel
theorem dX12_reason_45 : decode cX12_reason 45 = .ok (.if_icmp .ne 5, 3) := by decide +kernel
theorem dX12_reason_48 : decode cX12_reason 48 = .ok (.iconst 1, 1) := by decide +kernel
theorem dX12_reason_49 : decode cX12_reason 49 = .ok (.ireturn, 1) := by decide +kernel
theorem dX12_reason_50 : decode cX12_reason 50 = .ok (.aload_n 0, 1) := by decide +kernel
theorem dX12_reason_51 : decode cX12_reason 51 = .ok (.getfield 20, 3) := by decide +kernel
theorem dX12_reason_54 : decode cX12_reason 54 = .ok (.iload_n 1, 1) := by decide +kernel
theorem dX12_reason_55 : decode cX12_reason 55 = .ok (.iaload, 1) := by decide +kernel
theorem dX12_reason_56 : decode cX12_reason 56 = .ok (.iload 6, 2) := by decide +kernel
theorem dX12_reason_58 : decode cX12_reason 58 = .ok (.bipush 7, 2) := by decide +kernel
theorem dX12_reason_60 : decode cX12_reason 60 = .ok (.iload 6, 2) := by decide +kernel
theorem dX12_reason_62 : decode cX12_reason 62 = .ok (.bipush 7, 2) := by decide +kernel
theorem dX12_reason_64 : decode cX12_reason 64 = .ok (.invokestatic 160, 3) := by decide +kernel
theorem dX12_reason_67 : decode cX12_reason 67 = .ok (.imul, 1) := by decide +kernel
theorem dX12_reason_68 : decode cX12_reason 68 = .ok (.isub, 1) := by decide +kernel
theorem dX12_reason_69 : decode cX12_reason 69 = .ok (.ishr, 1) := by decide +kernel
theorem dX12_reason_70 : decode cX12_reason 70 = .ok (.iconst 1, 1) := by decide +kernel
theorem dX12_reason_71 : decode cX12_reason 71 = .ok (.iand, 1) := by decide +kernel
theorem dX12_reason_72 : decode cX12_reason 72 = .ok (.iconst 1, 1) := by decide +kernel
theorem dX12_reason_73 : decode cX12_reason 73 = .ok (.if_icmp .ne 5, 3) := by decide +kernel
theorem dX12_reason_76 : decode cX12_reason 76 = .ok (.iconst 2, 1) := by decide +kernel
theorem dX12_reason_77 : decode cX12_reason 77 = .ok (.ireturn, 1) := by decide +kernel
theorem dX12_reason_78 : decode cX12_reason 78 = .ok (.iconst 0, 1) := by decide +kernel
theorem dX12_reason_79 : decode cX12_reason 79 = .ok (.istore 7, 2) := by decide +kernel
theorem dX12_reason_81 : decode cX12_reason 81 = .ok (.iload 7, 2) := by decide +kernel
theorem dX12_reason_83 : decode cX12_reason 83 = .ok (.iload_n 3, 1) := by decide +kernel
theorem dX12_reason_84 : decode cX12_reason 84 = .ok (.if_icmp .ge 46, 3) := by decide +kernel
theorem dX12_reason_87 : decode cX12_reason 87 = .ok (.aload_n 0, 1) := by decide +kernel
theorem dX12_reason_88 : decode cX12_reason 88 = .ok (.getfield 29, 3) := by decide +kernel
theorem dX12_reason_91 : decode cX12_reason 91 = .ok (.iload 7, 2) := by decide +kernel
theorem dX12_reason_93 : decode cX12_reason 93 = .ok (.iaload, 1) := by decide +kernel
theorem dX12_reason_94 : decode cX12_reason 94 = .ok (.iconst 1, 1) := by decide +kernel
theorem dX12_reason_95 : decode cX12_reason 95 = .ok (.if_icmp .ne 29, 3) := by decide +kernel
theorem dX12_reason_98 : decode cX12_reason 98 = .ok (.aload_n 0, 1) := by decide +kernel
theorem dX12_reason_99 : decode cX12_reason 99 = .ok (.getfield 32, 3) := by decide +kernel
theorem dX12_reason_102 : decode cX12_reason 102 = .ok (.iload 7, 2) := by decide +kernel
theorem dX12_reason_104 : decode cX12_reason 104 = .ok (.iaload, 1) := by decide +kernel
theorem dX12_reason_105 : decode cX12_reason 105 = .ok (.iload 4, 2) := by decide +kernel
theorem dX12_reason_107 : decode cX12_reason 107 = .ok (.if_icmp .ne 17, 3) := by decide +kernel
theorem dX12_reason_110 : decode cX12_reason 110 = .ok (.aload_n 0, 1) := by decide +kernel
theorem dX12_reason_111 : decode cX12_reason 111 = .ok (.getfield 35, 3) := by decide +kernel
theorem dX12_reason_114 : decode cX12_reason 114 = .ok (.iload 7, 2) := by decide +kernel
theorem dX12_reason_116 : decode cX12_reason 116 = .ok (.iaload, 1) := by decide +kernel
theorem dX12_reason_117 : decode cX12_reason 117 = .ok (.iload 6, 2) := by decide +kernel
theorem dX12_reason_119 : decode cX12_reason 119 = .ok (.if_icmp .ne 5, 3) := by decide +kernel
theorem dX12_reason_122 : decode cX12_reason 122 = .ok (.iconst 3, 1) := by decide +kernel
theorem dX12_reason_123 : decode cX12_reason 123 = .ok (.ireturn, 1) := by decide +kernel
theorem dX12_reason_124 : decode cX12_reason 124 = .ok (.iinc 7 1, 3) := by decide +kernel
theorem dX12_reason_127 : decode cX12_reason 127 = .ok (.goto (-46), 3) := by decide +kernel
theorem dX12_reason_130 : decode cX12_reason 130 = .ok (.iconst 0, 1) := by decide +kernel
theorem dX12_reason_131 : decode cX12_reason 131 = .ok (.istore 7, 2) := by decide +kernel
theorem dX12_reason_133 : decode cX12_reason 133 = .ok (.iload 7, 2) := by decide +kernel
theorem dX12_reason_135 : decode cX12_reason 135 = .ok (.iload_n 3, 1) := by decide +kernel
theorem dX12_reason_136 : decode cX12_reason 136 = .ok (.if_icmp .ge 55, 3) := by decide +kernel
theorem dX12_reason_139 : decode cX12_reason 139 = .ok (.aload_n 0, 1) := by decide +kernel
theorem dX12_reason_140 : decode cX12_reason 140 = .ok (.getfield 29, 3) := by decide +kernel
theorem dX12_reason_143 : decode cX12_reason 143 = .ok (.iload 7, 2) := by decide +kernel
theorem dX12_reason_145 : decode cX12_reason 145 = .ok (.iaload, 1) := by decide +kernel
theorem dX12_reason_146 : decode cX12_reason 146 = .ok (.iconst 2, 1) := by decide +kernel
theorem dX12_reason_147 : decode cX12_reason 147 = .ok (.if_icmp .ne 38, 3) := by decide +kernel
theorem dX12_reason_150 : decode cX12_reason 150 = .ok (.aload_n 0, 1) := by decide +kernel
theorem dX12_reason_151 : decode cX12_reason 151 = .ok (.getfield 32, 3) := by decide +kernel
theorem dX12_reason_154 : decode cX12_reason 154 = .ok (.iload 7, 2) := by decide +kernel
theorem dX12_reason_156 : decode cX12_reason 156 = .ok (.iaload, 1) := by decide +kernel
theorem dX12_reason_157 : decode cX12_reason 157 = .ok (.iload_n 1, 1) := by decide +kernel
theorem dX12_reason_158 : decode cX12_reason 158 = .ok (.if_icmp .ne 27, 3) := by decide +kernel
theorem dX12_reason_161 : decode cX12_reason 161 = .ok (.aload_n 0, 1) := by decide +kernel
theorem dX12_reason_162 : decode cX12_reason 162 = .ok (.getfield 35, 3) := by decide +kernel
theorem dX12_reason_165 : decode cX12_reason 165 = .ok (.iload 7, 2) := by decide +kernel
theorem dX12_reason_167 : decode cX12_reason 167 = .ok (.iaload, 1) := by decide +kernel
theorem dX12_reason_168 : decode cX12_reason 168 = .ok (.iload_n 2, 1) := by decide +kernel
theorem dX12_reason_169 : decode cX12_reason 169 = .ok (.if_icmp .gt 16, 3) := by decide +kernel
theorem dX12_reason_172 : decode cX12_reason 172 = .ok (.iload_n 2, 1) := by decide +kernel
theorem dX12_reason_173 : decode cX12_reason 173 = .ok (.aload_n 0, 1) := by decide +kernel
theorem dX12_reason_174 : decode cX12_reason 174 = .ok (.getfield 38, 3) := by decide +kernel
theorem dX12_reason_177 : decode cX12_reason 177 = .ok (.iload 7, 2) := by decide +kernel
theorem dX12_reason_179 : decode cX12_reason 179 = .ok (.iaload, 1) := by decide +kernel
theorem dX12_reason_180 : decode cX12_reason 180 = .ok (.if_icmp .ge 5, 3) := by decide +kernel
theorem dX12_reason_183 : decode cX12_reason 183 = .ok (.iconst 4, 1) := by decide +kernel
theorem dX12_reason_184 : decode cX12_reason 184 = .ok (.ireturn, 1) := by decide +kernel
theorem dX12_reason_185 : decode cX12_reason 185 = .ok (.iinc 7 1, 3) := by decide +kernel
theorem dX12_reason_188 : decode cX12_reason 188 = .ok (.goto (-55), 3) := by decide +kernel
theorem dX12_reason_191 : decode cX12_reason 191 = .ok (.iconst 0, 1) := by decide +kernel
theorem dX12_reason_192 : decode cX12_reason 192 = .ok (.ireturn, 1) := by decide +kernel
theorem dX12_reasons_0 : decode cX12_reasons 0 = .ok (.iconst 0, 1) := by decide +kernel
theorem dX12_reasons_1 : decode cX12_reasons 1 = .ok (.istore 5, 2) := by decide +kernel
theorem dX12_reasons_3 : decode cX12_reasons 3 = .ok (.iload 5, 2) := by decide +kernel
theorem dX12_reasons_5 : decode cX12_reasons 5 = .ok (.iload_n 3, 1) := by decide +kernel
theorem dX12_reasons_6 : decode cX12_reasons 6 = .ok (.if_icmp .ge 30, 3) := by decide +kernel
theorem dX12_reasons_9 : decode cX12_reasons 9 = .ok (.aload_n 0, 1) := by decide +kernel
theorem dX12_reasons_10 : decode cX12_reasons 10 = .ok (.iload_n 1, 1) := by decide +kernel
theorem dX12_reasons_11 : decode cX12_reasons 11 = .ok (.iload_n 2, 1) := by decide +kernel
theorem dX12_reasons_12 : decode cX12_reasons 12 = .ok (.iload 5, 2) := by decide +kernel
theorem dX12_reasons_14 : decode cX12_reasons 14 = .ok (.iadd, 1) := by decide +kernel
theorem dX12_reasons_15 : decode cX12_reasons 15 = .ok (.iload 4, 2) := by decide +kernel
theorem dX12_reasons_17 : decode cX12_reasons 17 = .ok (.invokevirtual 167, 3) := by decide +kernel
theorem dX12_reasons_20 : decode cX12_reasons 20 = .ok (.istore 6, 2) := by decide +kernel
theorem dX12_reasons_22 : decode cX12_reasons 22 = .ok (.iload 6, 2) := by decide +kernel
theorem dX12_reasons_24 : decode cX12_reasons 24 = .ok (.ifCond .le 6, 3) := by decide +kernel
theorem dX12_reasons_27 : decode cX12_reasons 27 = .ok (.iload 6, 2) := by decide +kernel
theorem dX12_reasons_29 : decode cX12_reasons 29 = .ok (.ireturn, 1) := by decide +kernel
theorem dX12_reasons_30 : decode cX12_reasons 30 = .ok (.iinc 5 1, 3) := by decide +kernel
theorem dX12_reasons_33 : decode cX12_reasons 33 = .ok (.goto (-30), 3) := by decide +kernel
theorem dX12_reasons_36 : decode cX12_reasons 36 = .ok (.iconst 0, 1) := by decide +kernel
theorem dX12_reasons_37 : decode cX12_reasons 37 = .ok (.ireturn, 1) := by decide +kernel
theorem dX12_costs_0 : decode cX12_costs 0 = .ok (.iconst 0, 1) := by decide +kernel
theorem dX12_costs_1 : decode cX12_costs 1 = .ok (.istore 5, 2) := by decide +kernel
theorem dX12_costs_3 : decode cX12_costs 3 = .ok (.iconst 0, 1) := by decide +kernel
theorem dX12_costs_4 : decode cX12_costs 4 = .ok (.istore 6, 2) := by decide +kernel
theorem dX12_costs_6 : decode cX12_costs 6 = .ok (.iload 6, 2) := by decide +kernel
theorem dX12_costs_8 : decode cX12_costs 8 = .ok (.iload_n 3, 1) := by decide +kernel
theorem dX12_costs_9 : decode cX12_costs 9 = .ok (.if_icmp .ge 64, 3) := by decide +kernel
theorem dX12_costs_12 : decode cX12_costs 12 = .ok (.iload_n 2, 1) := by decide +kernel
theorem dX12_costs_13 : decode cX12_costs 13 = .ok (.iload 6, 2) := by decide +kernel
theorem dX12_costs_15 : decode cX12_costs 15 = .ok (.iadd, 1) := by decide +kernel
theorem dX12_costs_16 : decode cX12_costs 16 = .ok (.aload_n 0, 1) := by decide +kernel
theorem dX12_costs_17 : decode cX12_costs 17 = .ok (.aload_n 0, 1) := by decide +kernel
theorem dX12_costs_18 : decode cX12_costs 18 = .ok (.getfield 17, 3) := by decide +kernel
theorem dX12_costs_21 : decode cX12_costs 21 = .ok (.iload_n 1, 1) := by decide +kernel
theorem dX12_costs_22 : decode cX12_costs 22 = .ok (.iaload, 1) := by decide +kernel
theorem dX12_costs_23 : decode cX12_costs 23 = .ok (.iload_n 2, 1) := by decide +kernel
theorem dX12_costs_24 : decode cX12_costs 24 = .ok (.iload 6, 2) := by decide +kernel
theorem dX12_costs_26 : decode cX12_costs 26 = .ok (.iadd, 1) := by decide +kernel
theorem dX12_costs_27 : decode cX12_costs 27 = .ok (.iload 4, 2) := by decide +kernel
theorem dX12_costs_29 : decode cX12_costs 29 = .ok (.invokevirtual 156, 3) := by decide +kernel
theorem dX12_costs_32 : decode cX12_costs 32 = .ok (.iadd, 1) := by decide +kernel
theorem dX12_costs_33 : decode cX12_costs 33 = .ok (.istore 7, 2) := by decide +kernel
theorem dX12_costs_35 : decode cX12_costs 35 = .ok (.aload_n 0, 1) := by decide +kernel
theorem dX12_costs_36 : decode cX12_costs 36 = .ok (.iload_n 1, 1) := by decide +kernel
theorem dX12_costs_37 : decode cX12_costs 37 = .ok (.iload 7, 2) := by decide +kernel
theorem dX12_costs_39 : decode cX12_costs 39 = .ok (.bipush 48, 2) := by decide +kernel
theorem dX12_costs_41 : decode cX12_costs 41 = .ok (.iload 7, 2) := by decide +kernel
theorem dX12_costs_43 : decode cX12_costs 43 = .ok (.bipush 48, 2) := by decide +kernel
theorem dX12_costs_45 : decode cX12_costs 45 = .ok (.invokestatic 160, 3) := by decide +kernel
theorem dX12_costs_48 : decode cX12_costs 48 = .ok (.imul, 1) := by decide +kernel
theorem dX12_costs_49 : decode cX12_costs 49 = .ok (.isub, 1) := by decide +kernel
theorem dX12_costs_50 : decode cX12_costs 50 = .ok (.invokevirtual 164, 3) := by decide +kernel
theorem dX12_costs_53 : decode cX12_costs 53 = .ok (.istore 8, 2) := by decide +kernel
theorem dX12_costs_55 : decode cX12_costs 55 = .ok (.iload 8, 2) := by decide +kernel
theorem dX12_costs_57 : decode cX12_costs 57 = .ok (.ifCond .le 10, 3) := by decide +kernel
theorem dX12_costs_60 : decode cX12_costs 60 = .ok (.iload 5, 2) := by decide +kernel
theorem dX12_costs_62 : decode cX12_costs 62 = .ok (.iload 8, 2) := by decide +kernel
theorem dX12_costs_64 : decode cX12_costs 64 = .ok (.iadd, 1) := by decide +kernel
theorem dX12_costs_65 : decode cX12_costs 65 = .ok (.istore 5, 2) := by decide +kernel
theorem dX12_costs_67 : decode cX12_costs 67 = .ok (.iinc 6 1, 3) := by decide +kernel
theorem dX12_costs_70 : decode cX12_costs 70 = .ok (.goto (-64), 3) := by decide +kernel
theorem dX12_costs_73 : decode cX12_costs 73 = .ok (.iload 5, 2) := by decide +kernel
theorem dX12_costs_75 : decode cX12_costs 75 = .ok (.ireturn, 1) := by decide +kernel
theorem dX12_isSpan_0 : decode cX12_isSpan 0 = .ok (.aload_n 0, 1) := by decide +kernel
theorem dX12_isSpan_1 : decode cX12_isSpan 1 = .ok (.iload_n 1, 1) := by decide +kernel
theorem dX12_isSpan_2 : decode cX12_isSpan 2 = .ok (.invokevirtual 139, 3) := by decide +kernel
theorem dX12_isSpan_5 : decode cX12_isSpan 5 = .ok (.ifCond .eq 40, 3) := by decide +kernel
theorem dX12_isSpan_8 : decode cX12_isSpan 8 = .ok (.iload_n 3, 1) := by decide +kernel
theorem dX12_isSpan_9 : decode cX12_isSpan 9 = .ok (.iconst 1, 1) := by decide +kernel
theorem dX12_isSpan_10 : decode cX12_isSpan 10 = .ok (.if_icmp .lt 35, 3) := by decide +kernel
theorem dX12_isSpan_13 : decode cX12_isSpan 13 = .ok (.iload_n 3, 1) := by decide +kernel
theorem dX12_isSpan_14 : decode cX12_isSpan 14 = .ok (.bipush 6, 2) := by decide +kernel
theorem dX12_isSpan_16 : decode cX12_isSpan 16 = .ok (.if_icmp .gt 29, 3) := by decide +kernel
theorem dX12_isSpan_19 : decode cX12_isSpan 19 = .ok (.iload_n 2, 1) := by decide +kernel
theorem dX12_isSpan_20 : decode cX12_isSpan 20 = .ok (.ifCond .lt 25, 3) := by decide +kernel
theorem dX12_isSpan_23 : decode cX12_isSpan 23 = .ok (.iload_n 2, 1) := by decide +kernel
theorem dX12_isSpan_24 : decode cX12_isSpan 24 = .ok (.sipush 17472, 3) := by decide +kernel
theorem dX12_isSpan_27 : decode cX12_isSpan 27 = .ok (.iload_n 3, 1) := by decide +kernel
theorem dX12_isSpan_28 : decode cX12_isSpan 28 = .ok (.isub, 1) := by decide +kernel
theorem dX12_isSpan_29 : decode cX12_isSpan 29 = .ok (.if_icmp .gt 16, 3) := by decide +kernel
theorem dX12_isSpan_32 : decode cX12_isSpan 32 = .ok (.aload_n 0, 1) := by decide +kernel
theorem dX12_isSpan_33 : decode cX12_isSpan 33 = .ok (.iload 4, 2) := by decide +kernel
theorem dX12_isSpan_35 : decode cX12_isSpan 35 = .ok (.invokevirtual 152, 3) := by decide +kernel
theorem dX12_isSpan_38 : decode cX12_isSpan 38 = .ok (.ifCond .eq 7, 3) := by decide +kernel
theorem dX12_isSpan_41 : decode cX12_isSpan 41 = .ok (.iconst 1, 1) := by decide +kernel
theorem dX12_isSpan_42 : decode cX12_isSpan 42 = .ok (.goto 4, 3) := by decide +kernel
theorem dX12_isSpan_45 : decode cX12_isSpan 45 = .ok (.iconst 0, 1) := by decide +kernel
theorem dX12_isSpan_46 : decode cX12_isSpan 46 = .ok (.ireturn, 1) := by decide +kernel
theorem dX12_can_0 : decode cX12_can 0 = .ok (.aload_n 0, 1) := by decide +kernel
theorem dX12_can_1 : decode cX12_can 1 = .ok (.iload_n 1, 1) := by decide +kernel
theorem dX12_can_2 : decode cX12_can 2 = .ok (.iload_n 2, 1) := by decide +kernel
theorem dX12_can_3 : decode cX12_can 3 = .ok (.iload_n 3, 1) := by decide +kernel
theorem dX12_can_4 : decode cX12_can 4 = .ok (.iload 4, 2) := by decide +kernel
theorem dX12_can_6 : decode cX12_can 6 = .ok (.invokevirtual 170, 3) := by decide +kernel
theorem dX12_can_9 : decode cX12_can 9 = .ok (.ifCond .eq 15, 3) := by decide +kernel
theorem dX12_can_12 : decode cX12_can 12 = .ok (.aload_n 0, 1) := by decide +kernel
theorem dX12_can_13 : decode cX12_can 13 = .ok (.iload_n 1, 1) := by decide +kernel
theorem dX12_can_14 : decode cX12_can 14 = .ok (.iload_n 2, 1) := by decide +kernel
theorem dX12_can_15 : decode cX12_can 15 = .ok (.iload_n 3, 1) := by decide +kernel
theorem dX12_can_16 : decode cX12_can 16 = .ok (.iload 4, 2) := by decide +kernel
theorem dX12_can_18 : decode cX12_can 18 = .ok (.invokevirtual 174, 3) := by decide +kernel
theorem dX12_can_21 : decode cX12_can 21 = .ok (.goto 4, 3) := by decide +kernel
theorem dX12_can_24 : decode cX12_can 24 = .ok (.iconst (-1), 1) := by decide +kernel
theorem dX12_can_25 : decode cX12_can 25 = .ok (.ireturn, 1) := by decide +kernel
theorem dX12_cost_0 : decode cX12_cost 0 = .ok (.aload_n 0, 1) := by decide +kernel
theorem dX12_cost_1 : decode cX12_cost 1 = .ok (.iload_n 1, 1) := by decide +kernel
theorem dX12_cost_2 : decode cX12_cost 2 = .ok (.iload_n 2, 1) := by decide +kernel
theorem dX12_cost_3 : decode cX12_cost 3 = .ok (.iload_n 3, 1) := by decide +kernel
theorem dX12_cost_4 : decode cX12_cost 4 = .ok (.iload 4, 2) := by decide +kernel
theorem dX12_cost_6 : decode cX12_cost 6 = .ok (.invokevirtual 170, 3) := by decide +kernel
theorem dX12_cost_9 : decode cX12_cost 9 = .ok (.ifCond .eq 15, 3) := by decide +kernel
theorem dX12_cost_12 : decode cX12_cost 12 = .ok (.aload_n 0, 1) := by decide +kernel
theorem dX12_cost_13 : decode cX12_cost 13 = .ok (.iload_n 1, 1) := by decide +kernel
theorem dX12_cost_14 : decode cX12_cost 14 = .ok (.iload_n 2, 1) := by decide +kernel
theorem dX12_cost_15 : decode cX12_cost 15 = .ok (.iload_n 3, 1) := by decide +kernel
theorem dX12_cost_16 : decode cX12_cost 16 = .ok (.iload 4, 2) := by decide +kernel
theorem dX12_cost_18 : decode cX12_cost 18 = .ok (.invokevirtual 178, 3) := by decide +kernel
theorem dX12_cost_21 : decode cX12_cost 21 = .ok (.goto 4, 3) := by decide +kernel
theorem dX12_cost_24 : decode cX12_cost 24 = .ok (.iconst (-1), 1) := by decide +kernel
theorem dX12_cost_25 : decode cX12_cost 25 = .ok (.ireturn, 1) := by decide +kernel
theorem dX12_span_0 : decode cX12_span 0 = .ok (.aload_n 0, 1) := by decide +kernel
theorem dX12_span_1 : decode cX12_span 1 = .ok (.iload_n 1, 1) := by decide +kernel
theorem dX12_span_2 : decode cX12_span 2 = .ok (.invokevirtual 139, 3) := by decide +kernel
theorem dX12_span_5 : decode cX12_span 5 = .ok (.ifCond .eq 22, 3) := by decide +kernel
theorem dX12_span_8 : decode cX12_span 8 = .ok (.iload_n 2, 1) := by decide +kernel
theorem dX12_span_9 : decode cX12_span 9 = .ok (.ifCond .lt 18, 3) := by decide +kernel
theorem dX12_span_12 : decode cX12_span 12 = .ok (.iload_n 2, 1) := by decide +kernel
theorem dX12_span_13 : decode cX12_span 13 = .ok (.sipush 17472, 3) := by decide +kernel
theorem dX12_span_16 : decode cX12_span 16 = .ok (.if_icmp .ge 11, 3) := by decide +kernel
theorem dX12_span_19 : decode cX12_span 19 = .ok (.aload_n 0, 1) := by decide +kernel
theorem dX12_span_20 : decode cX12_span 20 = .ok (.iload_n 3, 1) := by decide +kernel
theorem dX12_span_21 : decode cX12_span 21 = .ok (.invokevirtual 152, 3) := by decide +kernel
theorem dX12_span_24 : decode cX12_span 24 = .ok (.ifCond .ne 5, 3) := by decide +kernel
theorem dX12_span_27 : decode cX12_span 27 = .ok (.iconst (-1), 1) := by decide +kernel
theorem dX12_span_28 : decode cX12_span 28 = .ok (.ireturn, 1) := by decide +kernel
theorem dX12_span_29 : decode cX12_span 29 = .ok (.iload_n 3, 1) := by decide +kernel
theorem dX12_span_30 : decode cX12_span 30 = .ok (.iconst 1, 1) := by decide +kernel
theorem dX12_span_31 : decode cX12_span 31 = .ok (.isub, 1) := by decide +kernel
theorem dX12_span_32 : decode cX12_span 32 = .ok (.istore 4, 2) := by decide +kernel
theorem dX12_span_34 : decode cX12_span 34 = .ok (.iload 4, 2) := by decide +kernel
theorem dX12_span_36 : decode cX12_span 36 = .ok (.ifCond .lt 71, 3) := by decide +kernel
theorem dX12_span_39 : decode cX12_span 39 = .ok (.aload_n 0, 1) := by decide +kernel
theorem dX12_span_40 : decode cX12_span 40 = .ok (.getfield 29, 3) := by decide +kernel
theorem dX12_span_43 : decode cX12_span 43 = .ok (.iload 4, 2) := by decide +kernel
theorem dX12_span_45 : decode cX12_span 45 = .ok (.iaload, 1) := by decide +kernel
theorem dX12_span_46 : decode cX12_span 46 = .ok (.iconst 2, 1) := by decide +kernel
theorem dX12_span_47 : decode cX12_span 47 = .ok (.if_icmp .ne 54, 3) := by decide +kernel
theorem dX12_span_50 : decode cX12_span 50 = .ok (.aload_n 0, 1) := by decide +kernel
theorem dX12_span_51 : decode cX12_span 51 = .ok (.getfield 32, 3) := by decide +kernel
theorem dX12_span_54 : decode cX12_span 54 = .ok (.iload 4, 2) := by decide +kernel
theorem dX12_span_56 : decode cX12_span 56 = .ok (.iaload, 1) := by decide +kernel
theorem dX12_span_57 : decode cX12_span 57 = .ok (.iload_n 1, 1) := by decide +kernel
theorem dX12_span_58 : decode cX12_span 58 = .ok (.if_icmp .ne 43, 3) := by decide +kernel
theorem dX12_span_61 : decode cX12_span 61 = .ok (.aload_n 0, 1) := by decide +kernel
theorem dX12_span_62 : decode cX12_span 62 = .ok (.getfield 35, 3) := by decide +kernel
theorem dX12_span_65 : decode cX12_span 65 = .ok (.iload 4, 2) := by decide +kernel
theorem dX12_span_67 : decode cX12_span 67 = .ok (.iaload, 1) := by decide +kernel
theorem dX12_span_68 : decode cX12_span 68 = .ok (.iload_n 2, 1) := by decide +kernel
theorem dX12_span_69 : decode cX12_span 69 = .ok (.if_icmp .gt 32, 3) := by decide +kernel
theorem dX12_span_72 : decode cX12_span 72 = .ok (.iload_n 2, 1) := by decide +kernel
theorem dX12_span_73 : decode cX12_span 73 = .ok (.aload_n 0, 1) := by decide +kernel
theorem dX12_span_74 : decode cX12_span 74 = .ok (.getfield 38, 3) := by decide +kernel
theorem dX12_span_77 : decode cX12_span 77 = .ok (.iload 4, 2) := by decide +kernel
theorem dX12_span_79 : decode cX12_span 79 = .ok (.iaload, 1) := by decide +kernel
theorem dX12_span_80 : decode cX12_span 80 = .ok (.if_icmp .ge 21, 3) := by decide +kernel
theorem dX12_span_83 : decode cX12_span 83 = .ok (.aload_n 0, 1) := by decide +kernel
theorem dX12_span_84 : decode cX12_span 84 = .ok (.getfield 41, 3) := by decide +kernel
theorem dX12_span_87 : decode cX12_span 87 = .ok (.iload 4, 2) := by decide +kernel
theorem dX12_span_89 : decode cX12_span 89 = .ok (.baload, 1) := by decide +kernel
theorem dX12_span_90 : decode cX12_span 90 = .ok (.ifCond .eq 8, 3) := by decide +kernel
theorem dX12_span_93 : decode cX12_span 93 = .ok (.bipush (-2), 2) := by decide +kernel
theorem dX12_span_95 : decode cX12_span 95 = .ok (.goto 5, 3) := by decide +kernel
theorem dX12_span_98 : decode cX12_span 98 = .ok (.iload 4, 2) := by decide +kernel
theorem dX12_span_100 : decode cX12_span 100 = .ok (.ireturn, 1) := by decide +kernel
theorem dX12_span_101 : decode cX12_span 101 = .ok (.iinc 4 (-1), 3) := by decide +kernel
theorem dX12_span_104 : decode cX12_span 104 = .ok (.goto (-70), 3) := by decide +kernel
theorem dX12_span_107 : decode cX12_span 107 = .ok (.iconst (-1), 1) := by decide +kernel
theorem dX12_span_108 : decode cX12_span 108 = .ok (.ireturn, 1) := by decide +kernel
theorem dX12_series_0 : decode cX12_series 0 = .ok (.aload_n 0, 1) := by decide +kernel
theorem dX12_series_1 : decode cX12_series 1 = .ok (.getfield 126, 3) := by decide +kernel
theorem dX12_series_4 : decode cX12_series 4 = .ok (.iconst 4, 1) := by decide +kernel
theorem dX12_series_5 : decode cX12_series 5 = .ok (.if_icmp .eq 40, 3) := by decide +kernel
theorem dX12_series_8 : decode cX12_series 8 = .ok (.iload_n 1, 1) := by decide +kernel
theorem dX12_series_9 : decode cX12_series 9 = .ok (.iconst 1, 1) := by decide +kernel
theorem dX12_series_10 : decode cX12_series 10 = .ok (.if_icmp .lt 35, 3) := by decide +kernel
theorem dX12_series_13 : decode cX12_series 13 = .ok (.iload_n 1, 1) := by decide +kernel
theorem dX12_series_14 : decode cX12_series 14 = .ok (.bipush 6, 2) := by decide +kernel
theorem dX12_series_16 : decode cX12_series 16 = .ok (.if_icmp .gt 29, 3) := by decide +kernel
theorem dX12_series_19 : decode cX12_series 19 = .ok (.iload_n 2, 1) := by decide +kernel
theorem dX12_series_20 : decode cX12_series 20 = .ok (.iconst (-1), 1) := by decide +kernel
theorem dX12_series_21 : decode cX12_series 21 = .ok (.if_icmp .eq 11, 3) := by decide +kernel
theorem dX12_series_24 : decode cX12_series 24 = .ok (.aload_n 0, 1) := by decide +kernel
theorem dX12_series_25 : decode cX12_series 25 = .ok (.iload_n 2, 1) := by decide +kernel
theorem dX12_series_26 : decode cX12_series 26 = .ok (.invokevirtual 146, 3) := by decide +kernel
theorem dX12_series_29 : decode cX12_series 29 = .ok (.ifCond .eq 16, 3) := by decide +kernel
theorem dX12_series_32 : decode cX12_series 32 = .ok (.iload_n 3, 1) := by decide +kernel
theorem dX12_series_33 : decode cX12_series 33 = .ok (.iconst (-1), 1) := by decide +kernel
theorem dX12_series_34 : decode cX12_series 34 = .ok (.if_icmp .eq 13, 3) := by decide +kernel
theorem dX12_series_37 : decode cX12_series 37 = .ok (.aload_n 0, 1) := by decide +kernel
theorem dX12_series_38 : decode cX12_series 38 = .ok (.iload_n 3, 1) := by decide +kernel
theorem dX12_series_39 : decode cX12_series 39 = .ok (.invokevirtual 139, 3) := by decide +kernel
theorem dX12_series_42 : decode cX12_series 42 = .ok (.ifCond .ne 5, 3) := by decide +kernel
theorem dX12_series_45 : decode cX12_series 45 = .ok (.iconst (-1), 1) := by decide +kernel
theorem dX12_series_46 : decode cX12_series 46 = .ok (.ireturn, 1) := by decide +kernel
theorem dX12_series_47 : decode cX12_series 47 = .ok (.aload_n 0, 1) := by decide +kernel
theorem dX12_series_48 : decode cX12_series 48 = .ok (.getfield 45, 3) := by decide +kernel
theorem dX12_series_51 : decode cX12_series 51 = .ok (.aload_n 0, 1) := by decide +kernel
theorem dX12_series_52 : decode cX12_series 52 = .ok (.getfield 126, 3) := by decide +kernel
theorem dX12_series_55 : decode cX12_series 55 = .ok (.iload_n 1, 1) := by decide +kernel
theorem dX12_series_56 : decode cX12_series 56 = .ok (.iastore, 1) := by decide +kernel
theorem dX12_series_57 : decode cX12_series 57 = .ok (.aload_n 0, 1) := by decide +kernel
theorem dX12_series_58 : decode cX12_series 58 = .ok (.getfield 48, 3) := by decide +kernel
theorem dX12_series_61 : decode cX12_series 61 = .ok (.aload_n 0, 1) := by decide +kernel
theorem dX12_series_62 : decode cX12_series 62 = .ok (.getfield 126, 3) := by decide +kernel
theorem dX12_series_65 : decode cX12_series 65 = .ok (.iload_n 2, 1) := by decide +kernel
theorem dX12_series_66 : decode cX12_series 66 = .ok (.iastore, 1) := by decide +kernel
theorem dX12_series_67 : decode cX12_series 67 = .ok (.aload_n 0, 1) := by decide +kernel
theorem dX12_series_68 : decode cX12_series 68 = .ok (.getfield 51, 3) := by decide +kernel
theorem dX12_series_71 : decode cX12_series 71 = .ok (.aload_n 0, 1) := by decide +kernel
theorem dX12_series_72 : decode cX12_series 72 = .ok (.getfield 126, 3) := by decide +kernel
theorem dX12_series_75 : decode cX12_series 75 = .ok (.iload_n 3, 1) := by decide +kernel
theorem dX12_series_76 : decode cX12_series 76 = .ok (.iastore, 1) := by decide +kernel
theorem dX12_series_77 : decode cX12_series 77 = .ok (.aload_n 0, 1) := by decide +kernel
theorem dX12_series_78 : decode cX12_series 78 = .ok (.dup, 1) := by decide +kernel
theorem dX12_series_79 : decode cX12_series 79 = .ok (.getfield 126, 3) := by decide +kernel
theorem dX12_series_82 : decode cX12_series 82 = .ok (.iconst 1, 1) := by decide +kernel
theorem dX12_series_83 : decode cX12_series 83 = .ok (.iadd, 1) := by decide +kernel
theorem dX12_series_84 : decode cX12_series 84 = .ok (.putfield 126, 3) := by decide +kernel
theorem dX12_series_87 : decode cX12_series 87 = .ok (.aload_n 0, 1) := by decide +kernel
theorem dX12_series_88 : decode cX12_series 88 = .ok (.getfield 126, 3) := by decide +kernel
theorem dX12_series_91 : decode cX12_series 91 = .ok (.iconst 1, 1) := by decide +kernel
theorem dX12_series_92 : decode cX12_series 92 = .ok (.isub, 1) := by decide +kernel
theorem dX12_series_93 : decode cX12_series 93 = .ok (.ireturn, 1) := by decide +kernel
theorem dX12_option_0 : decode cX12_option 0 = .ok (.aload_n 0, 1) := by decide +kernel
theorem dX12_option_1 : decode cX12_option 1 = .ok (.iload_n 1, 1) := by decide +kernel
theorem dX12_option_2 : decode cX12_option 2 = .ok (.invokevirtual 146, 3) := by decide +kernel
theorem dX12_option_5 : decode cX12_option 5 = .ok (.ifCond .eq 25, 3) := by decide +kernel
theorem dX12_option_8 : decode cX12_option 8 = .ok (.aload_n 0, 1) := by decide +kernel
theorem dX12_option_9 : decode cX12_option 9 = .ok (.getfield 54, 3) := by decide +kernel
theorem dX12_option_12 : decode cX12_option 12 = .ok (.iload_n 1, 1) := by decide +kernel
theorem dX12_option_13 : decode cX12_option 13 = .ok (.iaload, 1) := by decide +kernel
theorem dX12_option_14 : decode cX12_option 14 = .ok (.bipush 6, 2) := by decide +kernel
theorem dX12_option_16 : decode cX12_option 16 = .ok (.if_icmp .eq 14, 3) := by decide +kernel
theorem dX12_option_19 : decode cX12_option 19 = .ok (.iload_n 2, 1) := by decide +kernel
theorem dX12_option_20 : decode cX12_option 20 = .ok (.ifCond .lt 10, 3) := by decide +kernel
theorem dX12_option_23 : decode cX12_option 23 = .ok (.iload_n 2, 1) := by decide +kernel
theorem dX12_option_24 : decode cX12_option 24 = .ok (.sipush 336, 3) := by decide +kernel
theorem dX12_option_27 : decode cX12_option 27 = .ok (.if_icmp .lt 5, 3) := by decide +kernel
theorem dX12_option_30 : decode cX12_option 30 = .ok (.iconst (-1), 1) := by decide +kernel
theorem dX12_option_31 : decode cX12_option 31 = .ok (.ireturn, 1) := by decide +kernel
theorem dX12_option_32 : decode cX12_option 32 = .ok (.aload_n 0, 1) := by decide +kernel
theorem dX12_option_33 : decode cX12_option 33 = .ok (.getfield 57, 3) := by decide +kernel
theorem dX12_option_36 : decode cX12_option 36 = .ok (.bipush 6, 2) := by decide +kernel
theorem dX12_option_38 : decode cX12_option 38 = .ok (.iload_n 1, 1) := by decide +kernel
theorem dX12_option_39 : decode cX12_option 39 = .ok (.imul, 1) := by decide +kernel
theorem dX12_option_40 : decode cX12_option 40 = .ok (.aload_n 0, 1) := by decide +kernel
theorem dX12_option_41 : decode cX12_option 41 = .ok (.getfield 54, 3) := by decide +kernel
theorem dX12_option_44 : decode cX12_option 44 = .ok (.iload_n 1, 1) := by decide +kernel
theorem dX12_option_45 : decode cX12_option 45 = .ok (.iaload, 1) := by decide +kernel
theorem dX12_option_46 : decode cX12_option 46 = .ok (.iadd, 1) := by decide +kernel
theorem dX12_option_47 : decode cX12_option 47 = .ok (.iload_n 2, 1) := by decide +kernel
theorem dX12_option_48 : decode cX12_option 48 = .ok (.iastore, 1) := by decide +kernel
theorem dX12_option_49 : decode cX12_option 49 = .ok (.aload_n 0, 1) := by decide +kernel
theorem dX12_option_50 : decode cX12_option 50 = .ok (.getfield 54, 3) := by decide +kernel
theorem dX12_option_53 : decode cX12_option 53 = .ok (.iload_n 1, 1) := by decide +kernel
theorem dX12_option_54 : decode cX12_option 54 = .ok (.dup2, 1) := by decide +kernel
theorem dX12_option_55 : decode cX12_option 55 = .ok (.iaload, 1) := by decide +kernel
theorem dX12_option_56 : decode cX12_option 56 = .ok (.iconst 1, 1) := by decide +kernel
theorem dX12_option_57 : decode cX12_option 57 = .ok (.iadd, 1) := by decide +kernel
theorem dX12_option_58 : decode cX12_option 58 = .ok (.iastore, 1) := by decide +kernel
theorem dX12_option_59 : decode cX12_option 59 = .ok (.aload_n 0, 1) := by decide +kernel
theorem dX12_option_60 : decode cX12_option 60 = .ok (.getfield 54, 3) := by decide +kernel
theorem dX12_option_63 : decode cX12_option 63 = .ok (.iload_n 1, 1) := by decide +kernel
theorem dX12_option_64 : decode cX12_option 64 = .ok (.iaload, 1) := by decide +kernel
theorem dX12_option_65 : decode cX12_option 65 = .ok (.iconst 1, 1) := by decide +kernel
theorem dX12_option_66 : decode cX12_option 66 = .ok (.isub, 1) := by decide +kernel
theorem dX12_option_67 : decode cX12_option 67 = .ok (.ireturn, 1) := by decide +kernel
theorem dX12_role_0 : decode cX12_role 0 = .ok (.aload_n 0, 1) := by decide +kernel
theorem dX12_role_1 : decode cX12_role 1 = .ok (.iload_n 1, 1) := by decide +kernel
theorem dX12_role_2 : decode cX12_role 2 = .ok (.invokevirtual 146, 3) := by decide +kernel
theorem dX12_role_5 : decode cX12_role 5 = .ok (.ifCond .eq 20, 3) := by decide +kernel
theorem dX12_role_8 : decode cX12_role 8 = .ok (.aload_n 0, 1) := by decide +kernel
theorem dX12_role_9 : decode cX12_role 9 = .ok (.iload_n 2, 1) := by decide +kernel
theorem dX12_role_10 : decode cX12_role 10 = .ok (.invokevirtual 139, 3) := by decide +kernel
theorem dX12_role_13 : decode cX12_role 13 = .ok (.ifCond .eq 12, 3) := by decide +kernel
theorem dX12_role_16 : decode cX12_role 16 = .ok (.iload_n 3, 1) := by decide +kernel
theorem dX12_role_17 : decode cX12_role 17 = .ok (.ifCond .lt 8, 3) := by decide +kernel
theorem dX12_role_20 : decode cX12_role 20 = .ok (.iload_n 3, 1) := by decide +kernel
theorem dX12_role_21 : decode cX12_role 21 = .ok (.iconst 5, 1) := by decide +kernel
theorem dX12_role_22 : decode cX12_role 22 = .ok (.if_icmp .le 5, 3) := by decide +kernel
theorem dX12_role_25 : decode cX12_role 25 = .ok (.iconst 0, 1) := by decide +kernel
theorem dX12_role_26 : decode cX12_role 26 = .ok (.ireturn, 1) := by decide +kernel
theorem dX12_role_27 : decode cX12_role 27 = .ok (.aload_n 0, 1) := by decide +kernel
theorem dX12_role_28 : decode cX12_role 28 = .ok (.getfield 60, 3) := by decide +kernel
theorem dX12_role_31 : decode cX12_role 31 = .ok (.bipush 12, 2) := by decide +kernel
theorem dX12_role_33 : decode cX12_role 33 = .ok (.iload_n 1, 1) := by decide +kernel
theorem dX12_role_34 : decode cX12_role 34 = .ok (.imul, 1) := by decide +kernel
theorem dX12_role_35 : decode cX12_role 35 = .ok (.iload_n 2, 1) := by decide +kernel
theorem dX12_role_36 : decode cX12_role 36 = .ok (.iadd, 1) := by decide +kernel
theorem dX12_role_37 : decode cX12_role 37 = .ok (.iload_n 3, 1) := by decide +kernel
theorem dX12_role_38 : decode cX12_role 38 = .ok (.iastore, 1) := by decide +kernel
theorem dX12_role_39 : decode cX12_role 39 = .ok (.iconst 1, 1) := by decide +kernel
theorem dX12_role_40 : decode cX12_role 40 = .ok (.ireturn, 1) := by decide +kernel
theorem dX12_slotOf_0 : decode cX12_slotOf 0 = .ok (.sipush 336, 3) := by decide +kernel
theorem dX12_slotOf_3 : decode cX12_slotOf 3 = .ok (.aload_n 0, 1) := by decide +kernel
theorem dX12_slotOf_4 : decode cX12_slotOf 4 = .ok (.getfield 181, 3) := by decide +kernel
theorem dX12_slotOf_7 : decode cX12_slotOf 7 = .ok (.imul, 1) := by decide +kernel
theorem dX12_slotOf_8 : decode cX12_slotOf 8 = .ok (.aload_n 0, 1) := by decide +kernel
theorem dX12_slotOf_9 : decode cX12_slotOf 9 = .ok (.getfield 57, 3) := by decide +kernel
theorem dX12_slotOf_12 : decode cX12_slotOf 12 = .ok (.bipush 6, 2) := by decide +kernel
theorem dX12_slotOf_14 : decode cX12_slotOf 14 = .ok (.iload_n 1, 1) := by decide +kernel
theorem dX12_slotOf_15 : decode cX12_slotOf 15 = .ok (.imul, 1) := by decide +kernel
theorem dX12_slotOf_16 : decode cX12_slotOf 16 = .ok (.iload_n 2, 1) := by decide +kernel
theorem dX12_slotOf_17 : decode cX12_slotOf 17 = .ok (.iadd, 1) := by decide +kernel
theorem dX12_slotOf_18 : decode cX12_slotOf 18 = .ok (.iaload, 1) := by decide +kernel
theorem dX12_slotOf_19 : decode cX12_slotOf 19 = .ok (.iadd, 1) := by decide +kernel
theorem dX12_slotOf_20 : decode cX12_slotOf 20 = .ok (.ireturn, 1) := by decide +kernel
theorem dX12_isIn_0 : decode cX12_isIn 0 = .ok (.aload_n 0, 1) := by decide +kernel
theorem dX12_isIn_1 : decode cX12_isIn 1 = .ok (.iload_n 1, 1) := by decide +kernel
theorem dX12_isIn_2 : decode cX12_isIn 2 = .ok (.iload_n 2, 1) := by decide +kernel
theorem dX12_isIn_3 : decode cX12_isIn 3 = .ok (.invokevirtual 184, 3) := by decide +kernel
theorem dX12_isIn_6 : decode cX12_isIn 6 = .ok (.aload_n 0, 1) := by decide +kernel
theorem dX12_isIn_7 : decode cX12_isIn 7 = .ok (.getfield 45, 3) := by decide +kernel
theorem dX12_isIn_10 : decode cX12_isIn 10 = .ok (.iload_n 1, 1) := by decide +kernel
theorem dX12_isIn_11 : decode cX12_isIn 11 = .ok (.iaload, 1) := by decide +kernel
theorem dX12_isIn_12 : decode cX12_isIn 12 = .ok (.iadd, 1) := by decide +kernel
theorem dX12_isIn_13 : decode cX12_isIn 13 = .ok (.sipush 17472, 3) := by decide +kernel
theorem dX12_isIn_16 : decode cX12_isIn 16 = .ok (.if_icmp .gt 7, 3) := by decide +kernel
theorem dX12_isIn_19 : decode cX12_isIn 19 = .ok (.iconst 1, 1) := by decide +kernel
theorem dX12_isIn_20 : decode cX12_isIn 20 = .ok (.goto 4, 3) := by decide +kernel
theorem dX12_isIn_23 : decode cX12_isIn 23 = .ok (.iconst 0, 1) := by decide +kernel
theorem dX12_isIn_24 : decode cX12_isIn 24 = .ok (.ireturn, 1) := by decide +kernel
theorem dX12_meet_0 : decode cX12_meet 0 = .ok (.aload_n 0, 1) := by decide +kernel
theorem dX12_meet_1 : decode cX12_meet 1 = .ok (.iload_n 1, 1) := by decide +kernel
theorem dX12_meet_2 : decode cX12_meet 2 = .ok (.iload_n 2, 1) := by decide +kernel
theorem dX12_meet_3 : decode cX12_meet 3 = .ok (.invokevirtual 184, 3) := by decide +kernel
theorem dX12_meet_6 : decode cX12_meet 6 = .ok (.istore 5, 2) := by decide +kernel
theorem dX12_meet_8 : decode cX12_meet 8 = .ok (.aload_n 0, 1) := by decide +kernel
theorem dX12_meet_9 : decode cX12_meet 9 = .ok (.iload_n 3, 1) := by decide +kernel
theorem dX12_meet_10 : decode cX12_meet 10 = .ok (.iload 4, 2) := by decide +kernel
theorem dX12_meet_12 : decode cX12_meet 12 = .ok (.invokevirtual 184, 3) := by decide +kernel
theorem dX12_meet_15 : decode cX12_meet 15 = .ok (.istore 6, 2) := by decide +kernel
theorem dX12_meet_17 : decode cX12_meet 17 = .ok (.iload 5, 2) := by decide +kernel
theorem dX12_meet_19 : decode cX12_meet 19 = .ok (.iload 6, 2) := by decide +kernel
theorem dX12_meet_21 : decode cX12_meet 21 = .ok (.aload_n 0, 1) := by decide +kernel
theorem dX12_meet_22 : decode cX12_meet 22 = .ok (.getfield 45, 3) := by decide +kernel
theorem dX12_meet_25 : decode cX12_meet 25 = .ok (.iload_n 3, 1) := by decide +kernel
theorem dX12_meet_26 : decode cX12_meet 26 = .ok (.iaload, 1) := by decide +kernel
theorem dX12_meet_27 : decode cX12_meet 27 = .ok (.iadd, 1) := by decide +kernel
theorem dX12_meet_28 : decode cX12_meet 28 = .ok (.if_icmp .ge 21, 3) := by decide +kernel
theorem dX12_meet_31 : decode cX12_meet 31 = .ok (.iload 6, 2) := by decide +kernel
theorem dX12_meet_33 : decode cX12_meet 33 = .ok (.iload 5, 2) := by decide +kernel
theorem dX12_meet_35 : decode cX12_meet 35 = .ok (.aload_n 0, 1) := by decide +kernel
theorem dX12_meet_36 : decode cX12_meet 36 = .ok (.getfield 45, 3) := by decide +kernel
theorem dX12_meet_39 : decode cX12_meet 39 = .ok (.iload_n 1, 1) := by decide +kernel
theorem dX12_meet_40 : decode cX12_meet 40 = .ok (.iaload, 1) := by decide +kernel
theorem dX12_meet_41 : decode cX12_meet 41 = .ok (.iadd, 1) := by decide +kernel
theorem dX12_meet_42 : decode cX12_meet 42 = .ok (.if_icmp .ge 7, 3) := by decide +kernel
theorem dX12_meet_45 : decode cX12_meet 45 = .ok (.iconst 1, 1) := by decide +kernel
theorem dX12_meet_46 : decode cX12_meet 46 = .ok (.goto 4, 3) := by decide +kernel
theorem dX12_meet_49 : decode cX12_meet 49 = .ok (.iconst 0, 1) := by decide +kernel
theorem dX12_meet_50 : decode cX12_meet 50 = .ok (.ireturn, 1) := by decide +kernel
theorem dX12_isFree_0 : decode cX12_isFree 0 = .ok (.aload_n 0, 1) := by decide +kernel
theorem dX12_isFree_1 : decode cX12_isFree 1 = .ok (.iload_n 1, 1) := by decide +kernel
theorem dX12_isFree_2 : decode cX12_isFree 2 = .ok (.aload_n 0, 1) := by decide +kernel
theorem dX12_isFree_3 : decode cX12_isFree 3 = .ok (.iload_n 2, 1) := by decide +kernel
theorem dX12_isFree_4 : decode cX12_isFree 4 = .ok (.iload_n 3, 1) := by decide +kernel
theorem dX12_isFree_5 : decode cX12_isFree 5 = .ok (.invokevirtual 184, 3) := by decide +kernel
theorem dX12_isFree_8 : decode cX12_isFree 8 = .ok (.aload_n 0, 1) := by decide +kernel
theorem dX12_isFree_9 : decode cX12_isFree 9 = .ok (.getfield 45, 3) := by decide +kernel
theorem dX12_isFree_12 : decode cX12_isFree 12 = .ok (.iload_n 2, 1) := by decide +kernel
theorem dX12_isFree_13 : decode cX12_isFree 13 = .ok (.iaload, 1) := by decide +kernel
theorem dX12_isFree_14 : decode cX12_isFree 14 = .ok (.aload_n 0, 1) := by decide +kernel
theorem dX12_isFree_15 : decode cX12_isFree 15 = .ok (.getfield 187, 3) := by decide +kernel
theorem dX12_isFree_18 : decode cX12_isFree 18 = .ok (.invokevirtual 174, 3) := by decide +kernel
theorem dX12_isFree_21 : decode cX12_isFree 21 = .ok (.ifCond .le 5, 3) := by decide +kernel
theorem dX12_isFree_24 : decode cX12_isFree 24 = .ok (.iconst 0, 1) := by decide +kernel
theorem dX12_isFree_25 : decode cX12_isFree 25 = .ok (.ireturn, 1) := by decide +kernel
theorem dX12_isFree_26 : decode cX12_isFree 26 = .ok (.iconst 0, 1) := by decide +kernel
theorem dX12_isFree_27 : decode cX12_isFree 27 = .ok (.istore 4, 2) := by decide +kernel
theorem dX12_isFree_29 : decode cX12_isFree 29 = .ok (.iload 4, 2) := by decide +kernel
theorem dX12_isFree_31 : decode cX12_isFree 31 = .ok (.aload_n 0, 1) := by decide +kernel
theorem dX12_isFree_32 : decode cX12_isFree 32 = .ok (.getfield 187, 3) := by decide +kernel
theorem dX12_isFree_35 : decode cX12_isFree 35 = .ok (.if_icmp .ge 58, 3) := by decide +kernel
theorem dX12_isFree_38 : decode cX12_isFree 38 = .ok (.aload_n 0, 1) := by decide +kernel
theorem dX12_isFree_39 : decode cX12_isFree 39 = .ok (.getfield 29, 3) := by decide +kernel
theorem dX12_isFree_42 : decode cX12_isFree 42 = .ok (.iload 4, 2) := by decide +kernel
theorem dX12_isFree_44 : decode cX12_isFree 44 = .ok (.iaload, 1) := by decide +kernel
theorem dX12_isFree_45 : decode cX12_isFree 45 = .ok (.iconst 3, 1) := by decide +kernel
theorem dX12_isFree_46 : decode cX12_isFree 46 = .ok (.if_icmp .ne 41, 3) := by decide +kernel
theorem dX12_isFree_49 : decode cX12_isFree 49 = .ok (.aload_n 0, 1) := by decide +kernel
theorem dX12_isFree_50 : decode cX12_isFree 50 = .ok (.getfield 32, 3) := by decide +kernel
theorem dX12_isFree_53 : decode cX12_isFree 53 = .ok (.iload 4, 2) := by decide +kernel
theorem dX12_isFree_55 : decode cX12_isFree 55 = .ok (.iaload, 1) := by decide +kernel
theorem dX12_isFree_56 : decode cX12_isFree 56 = .ok (.iload_n 1, 1) := by decide +kernel
theorem dX12_isFree_57 : decode cX12_isFree 57 = .ok (.if_icmp .ne 30, 3) := by decide +kernel
theorem dX12_isFree_60 : decode cX12_isFree 60 = .ok (.aload_n 0, 1) := by decide +kernel
theorem dX12_isFree_61 : decode cX12_isFree 61 = .ok (.getfield 35, 3) := by decide +kernel
theorem dX12_isFree_64 : decode cX12_isFree 64 = .ok (.iload 4, 2) := by decide +kernel
theorem dX12_isFree_66 : decode cX12_isFree 66 = .ok (.iaload, 1) := by decide +kernel
theorem dX12_isFree_67 : decode cX12_isFree 67 = .ok (.iload_n 2, 1) := by decide +kernel
theorem dX12_isFree_68 : decode cX12_isFree 68 = .ok (.if_icmp .ne 19, 3) := by decide +kernel
theorem dX12_isFree_71 : decode cX12_isFree 71 = .ok (.aload_n 0, 1) := by decide +kernel
theorem dX12_isFree_72 : decode cX12_isFree 72 = .ok (.getfield 38, 3) := by decide +kernel
theorem dX12_isFree_75 : decode cX12_isFree 75 = .ok (.iload 4, 2) := by decide +kernel
theorem dX12_isFree_77 : decode cX12_isFree 77 = .ok (.iaload, 1) := by decide +kernel
theorem dX12_isFree_78 : decode cX12_isFree 78 = .ok (.aload_n 0, 1) := by decide +kernel
theorem dX12_isFree_79 : decode cX12_isFree 79 = .ok (.getfield 181, 3) := by decide +kernel
theorem dX12_isFree_82 : decode cX12_isFree 82 = .ok (.if_icmp .ne 5, 3) := by decide +kernel
theorem dX12_isFree_85 : decode cX12_isFree 85 = .ok (.iconst 0, 1) := by decide +kernel
theorem dX12_isFree_86 : decode cX12_isFree 86 = .ok (.ireturn, 1) := by decide +kernel
theorem dX12_isFree_87 : decode cX12_isFree 87 = .ok (.iinc 4 1, 3) := by decide +kernel
theorem dX12_isFree_90 : decode cX12_isFree 90 = .ok (.goto (-61), 3) := by decide +kernel
theorem dX12_isFree_93 : decode cX12_isFree 93 = .ok (.iconst 0, 1) := by decide +kernel
theorem dX12_isFree_94 : decode cX12_isFree 94 = .ok (.istore 4, 2) := by decide +kernel
theorem dX12_isFree_96 : decode cX12_isFree 96 = .ok (.iload 4, 2) := by decide +kernel
theorem dX12_isFree_98 : decode cX12_isFree 98 = .ok (.iload_n 2, 1) := by decide +kernel
theorem dX12_isFree_99 : decode cX12_isFree 99 = .ok (.if_icmp .ge 83, 3) := by decide +kernel
theorem dX12_isFree_102 : decode cX12_isFree 102 = .ok (.aload_n 0, 1) := by decide +kernel
theorem dX12_isFree_103 : decode cX12_isFree 103 = .ok (.getfield 72, 3) := by decide +kernel
theorem dX12_isFree_106 : decode cX12_isFree 106 = .ok (.bipush 12, 2) := by decide +kernel
theorem dX12_isFree_108 : decode cX12_isFree 108 = .ok (.iload 4, 2) := by decide +kernel
theorem dX12_isFree_110 : decode cX12_isFree 110 = .ok (.imul, 1) := by decide +kernel
theorem dX12_isFree_111 : decode cX12_isFree 111 = .ok (.iload_n 1, 1) := by decide +kernel
theorem dX12_isFree_112 : decode cX12_isFree 112 = .ok (.iadd, 1) := by decide +kernel
theorem dX12_isFree_113 : decode cX12_isFree 113 = .ok (.iaload, 1) := by decide +kernel
theorem dX12_isFree_114 : decode cX12_isFree 114 = .ok (.iconst 1, 1) := by decide +kernel
theorem dX12_isFree_115 : decode cX12_isFree 115 = .ok (.iand, 1) := by decide +kernel
theorem dX12_isFree_116 : decode cX12_isFree 116 = .ok (.iconst 1, 1) := by decide +kernel
theorem dX12_isFree_117 : decode cX12_isFree 117 = .ok (.if_icmp .ne 21, 3) := by decide +kernel
theorem dX12_isFree_120 : decode cX12_isFree 120 = .ok (.aload_n 0, 1) := by decide +kernel
theorem dX12_isFree_121 : decode cX12_isFree 121 = .ok (.iload_n 2, 1) := by decide +kernel
theorem dX12_isFree_122 : decode cX12_isFree 122 = .ok (.iload_n 3, 1) := by decide +kernel
theorem dX12_isFree_123 : decode cX12_isFree 123 = .ok (.iload 4, 2) := by decide +kernel
theorem dX12_isFree_125 : decode cX12_isFree 125 = .ok (.aload_n 0, 1) := by decide +kernel
theorem dX12_isFree_126 : decode cX12_isFree 126 = .ok (.getfield 66, 3) := by decide +kernel
theorem dX12_isFree_129 : decode cX12_isFree 129 = .ok (.iload 4, 2) := by decide +kernel
theorem dX12_isFree_131 : decode cX12_isFree 131 = .ok (.iaload, 1) := by decide +kernel
theorem dX12_isFree_132 : decode cX12_isFree 132 = .ok (.invokevirtual 190, 3) := by decide +kernel
theorem dX12_isFree_135 : decode cX12_isFree 135 = .ok (.ifCond .ne 39, 3) := by decide +kernel
theorem dX12_isFree_138 : decode cX12_isFree 138 = .ok (.aload_n 0, 1) := by decide +kernel
theorem dX12_isFree_139 : decode cX12_isFree 139 = .ok (.getfield 72, 3) := by decide +kernel
theorem dX12_isFree_142 : decode cX12_isFree 142 = .ok (.bipush 12, 2) := by decide +kernel
theorem dX12_isFree_144 : decode cX12_isFree 144 = .ok (.iload 4, 2) := by decide +kernel
theorem dX12_isFree_146 : decode cX12_isFree 146 = .ok (.imul, 1) := by decide +kernel
theorem dX12_isFree_147 : decode cX12_isFree 147 = .ok (.iload_n 1, 1) := by decide +kernel
theorem dX12_isFree_148 : decode cX12_isFree 148 = .ok (.iadd, 1) := by decide +kernel
theorem dX12_isFree_149 : decode cX12_isFree 149 = .ok (.iaload, 1) := by decide +kernel
theorem dX12_isFree_150 : decode cX12_isFree 150 = .ok (.iconst 2, 1) := by decide +kernel
theorem dX12_isFree_151 : decode cX12_isFree 151 = .ok (.iand, 1) := by decide +kernel
theorem dX12_isFree_152 : decode cX12_isFree 152 = .ok (.iconst 2, 1) := by decide +kernel
theorem dX12_isFree_153 : decode cX12_isFree 153 = .ok (.if_icmp .ne 23, 3) := by decide +kernel
theorem dX12_isFree_156 : decode cX12_isFree 156 = .ok (.aload_n 0, 1) := by decide +kernel
theorem dX12_isFree_157 : decode cX12_isFree 157 = .ok (.iload_n 2, 1) := by decide +kernel
theorem dX12_isFree_158 : decode cX12_isFree 158 = .ok (.iload_n 3, 1) := by decide +kernel
theorem dX12_isFree_159 : decode cX12_isFree 159 = .ok (.iload 4, 2) := by decide +kernel
theorem dX12_isFree_161 : decode cX12_isFree 161 = .ok (.aload_n 0, 1) := by decide +kernel
theorem dX12_isFree_162 : decode cX12_isFree 162 = .ok (.getfield 69, 3) := by decide +kernel
theorem dX12_isFree_165 : decode cX12_isFree 165 = .ok (.iload 4, 2) := by decide +kernel
theorem dX12_isFree_167 : decode cX12_isFree 167 = .ok (.iaload, 1) := by decide +kernel
theorem dX12_isFree_168 : decode cX12_isFree 168 = .ok (.invokevirtual 190, 3) := by decide +kernel
theorem dX12_isFree_171 : decode cX12_isFree 171 = .ok (.ifCond .eq 5, 3) := by decide +kernel
theorem dX12_isFree_174 : decode cX12_isFree 174 = .ok (.iconst 0, 1) := by decide +kernel
theorem dX12_isFree_175 : decode cX12_isFree 175 = .ok (.ireturn, 1) := by decide +kernel
theorem dX12_isFree_176 : decode cX12_isFree 176 = .ok (.iinc 4 1, 3) := by decide +kernel
theorem dX12_isFree_179 : decode cX12_isFree 179 = .ok (.goto (-83), 3) := by decide +kernel
theorem dX12_isFree_182 : decode cX12_isFree 182 = .ok (.iconst 1, 1) := by decide +kernel
theorem dX12_isFree_183 : decode cX12_isFree 183 = .ok (.ireturn, 1) := by decide +kernel
theorem dX12_asksFree_0 : decode cX12_asksFree 0 = .ok (.iconst 0, 1) := by decide +kernel
theorem dX12_asksFree_1 : decode cX12_asksFree 1 = .ok (.istore_n 2, 1) := by decide +kernel
theorem dX12_asksFree_2 : decode cX12_asksFree 2 = .ok (.iload_n 2, 1) := by decide +kernel
theorem dX12_asksFree_3 : decode cX12_asksFree 3 = .ok (.aload_n 0, 1) := by decide +kernel
theorem dX12_asksFree_4 : decode cX12_asksFree 4 = .ok (.getfield 123, 3) := by decide +kernel
theorem dX12_asksFree_7 : decode cX12_asksFree 7 = .ok (.if_icmp .ge 62, 3) := by decide +kernel
theorem dX12_asksFree_10 : decode cX12_asksFree 10 = .ok (.iconst 0, 1) := by decide +kernel
theorem dX12_asksFree_11 : decode cX12_asksFree 11 = .ok (.istore_n 3, 1) := by decide +kernel
theorem dX12_asksFree_12 : decode cX12_asksFree 12 = .ok (.iload_n 3, 1) := by decide +kernel
theorem dX12_asksFree_13 : decode cX12_asksFree 13 = .ok (.aload_n 0, 1) := by decide +kernel
theorem dX12_asksFree_14 : decode cX12_asksFree 14 = .ok (.getfield 54, 3) := by decide +kernel
theorem dX12_asksFree_17 : decode cX12_asksFree 17 = .ok (.iload_n 1, 1) := by decide +kernel
theorem dX12_asksFree_18 : decode cX12_asksFree 18 = .ok (.iaload, 1) := by decide +kernel
theorem dX12_asksFree_19 : decode cX12_asksFree 19 = .ok (.if_icmp .ge 44, 3) := by decide +kernel
theorem dX12_asksFree_22 : decode cX12_asksFree 22 = .ok (.aload_n 0, 1) := by decide +kernel
theorem dX12_asksFree_23 : decode cX12_asksFree 23 = .ok (.getfield 75, 3) := by decide +kernel
theorem dX12_asksFree_26 : decode cX12_asksFree 26 = .ok (.bipush 6, 2) := by decide +kernel
theorem dX12_asksFree_28 : decode cX12_asksFree 28 = .ok (.iload_n 2, 1) := by decide +kernel
theorem dX12_asksFree_29 : decode cX12_asksFree 29 = .ok (.imul, 1) := by decide +kernel
theorem dX12_asksFree_30 : decode cX12_asksFree 30 = .ok (.iload_n 3, 1) := by decide +kernel
theorem dX12_asksFree_31 : decode cX12_asksFree 31 = .ok (.iadd, 1) := by decide +kernel
theorem dX12_asksFree_32 : decode cX12_asksFree 32 = .ok (.aload_n 0, 1) := by decide +kernel
theorem dX12_asksFree_33 : decode cX12_asksFree 33 = .ok (.iload_n 1, 1) := by decide +kernel
theorem dX12_asksFree_34 : decode cX12_asksFree 34 = .ok (.iload_n 3, 1) := by decide +kernel
theorem dX12_asksFree_35 : decode cX12_asksFree 35 = .ok (.invokevirtual 193, 3) := by decide +kernel
theorem dX12_asksFree_38 : decode cX12_asksFree 38 = .ok (.ifCond .eq 17, 3) := by decide +kernel
theorem dX12_asksFree_41 : decode cX12_asksFree 41 = .ok (.aload_n 0, 1) := by decide +kernel
theorem dX12_asksFree_42 : decode cX12_asksFree 42 = .ok (.iload_n 2, 1) := by decide +kernel
theorem dX12_asksFree_43 : decode cX12_asksFree 43 = .ok (.iload_n 1, 1) := by decide +kernel
theorem dX12_asksFree_44 : decode cX12_asksFree 44 = .ok (.iload_n 3, 1) := by decide +kernel
theorem dX12_asksFree_45 : decode cX12_asksFree 45 = .ok (.invokevirtual 197, 3) := by decide +kernel
theorem dX12_asksFree_48 : decode cX12_asksFree 48 = .ok (.ifCond .eq 7, 3) := by decide +kernel
theorem dX12_asksFree_51 : decode cX12_asksFree 51 = .ok (.iconst 1, 1) := by decide +kernel
theorem dX12_asksFree_52 : decode cX12_asksFree 52 = .ok (.goto 4, 3) := by decide +kernel
theorem dX12_asksFree_55 : decode cX12_asksFree 55 = .ok (.iconst 0, 1) := by decide +kernel
theorem dX12_asksFree_56 : decode cX12_asksFree 56 = .ok (.bastore, 1) := by decide +kernel
theorem dX12_asksFree_57 : decode cX12_asksFree 57 = .ok (.iinc 3 1, 3) := by decide +kernel
theorem dX12_asksFree_60 : decode cX12_asksFree 60 = .ok (.goto (-48), 3) := by decide +kernel
theorem dX12_asksFree_63 : decode cX12_asksFree 63 = .ok (.iinc 2 1, 3) := by decide +kernel
theorem dX12_asksFree_66 : decode cX12_asksFree 66 = .ok (.goto (-64), 3) := by decide +kernel
theorem dX12_asksFree_69 : decode cX12_asksFree 69 = .ok (.return_, 1) := by decide +kernel
theorem dX12_comesTo_0 : decode cX12_comesTo 0 = .ok (.iload 4, 2) := by decide +kernel
theorem dX12_comesTo_2 : decode cX12_comesTo 2 = .ok (.iconst (-1), 1) := by decide +kernel
theorem dX12_comesTo_3 : decode cX12_comesTo 3 = .ok (.if_icmp .ne 37, 3) := by decide +kernel
theorem dX12_comesTo_6 : decode cX12_comesTo 6 = .ok (.aload_n 0, 1) := by decide +kernel
theorem dX12_comesTo_7 : decode cX12_comesTo 7 = .ok (.getfield 60, 3) := by decide +kernel
theorem dX12_comesTo_10 : decode cX12_comesTo 10 = .ok (.bipush 12, 2) := by decide +kernel
theorem dX12_comesTo_12 : decode cX12_comesTo 12 = .ok (.iload_n 2, 1) := by decide +kernel
theorem dX12_comesTo_13 : decode cX12_comesTo 13 = .ok (.imul, 1) := by decide +kernel
theorem dX12_comesTo_14 : decode cX12_comesTo 14 = .ok (.iload_n 1, 1) := by decide +kernel
theorem dX12_comesTo_15 : decode cX12_comesTo 15 = .ok (.iadd, 1) := by decide +kernel
theorem dX12_comesTo_16 : decode cX12_comesTo 16 = .ok (.iaload, 1) := by decide +kernel
theorem dX12_comesTo_17 : decode cX12_comesTo 17 = .ok (.ifCond .le 21, 3) := by decide +kernel
theorem dX12_comesTo_20 : decode cX12_comesTo 20 = .ok (.aload_n 0, 1) := by decide +kernel
theorem dX12_comesTo_21 : decode cX12_comesTo 21 = .ok (.getfield 75, 3) := by decide +kernel
theorem dX12_comesTo_24 : decode cX12_comesTo 24 = .ok (.bipush 6, 2) := by decide +kernel
theorem dX12_comesTo_26 : decode cX12_comesTo 26 = .ok (.iload_n 1, 1) := by decide +kernel
theorem dX12_comesTo_27 : decode cX12_comesTo 27 = .ok (.imul, 1) := by decide +kernel
theorem dX12_comesTo_28 : decode cX12_comesTo 28 = .ok (.iload_n 3, 1) := by decide +kernel
theorem dX12_comesTo_29 : decode cX12_comesTo 29 = .ok (.iadd, 1) := by decide +kernel
theorem dX12_comesTo_30 : decode cX12_comesTo 30 = .ok (.baload, 1) := by decide +kernel
theorem dX12_comesTo_31 : decode cX12_comesTo 31 = .ok (.ifCond .eq 7, 3) := by decide +kernel
theorem dX12_comesTo_34 : decode cX12_comesTo 34 = .ok (.iconst 1, 1) := by decide +kernel
theorem dX12_comesTo_35 : decode cX12_comesTo 35 = .ok (.goto 4, 3) := by decide +kernel
theorem dX12_comesTo_38 : decode cX12_comesTo 38 = .ok (.iconst 0, 1) := by decide +kernel
theorem dX12_comesTo_39 : decode cX12_comesTo 39 = .ok (.ireturn, 1) := by decide +kernel
theorem dX12_comesTo_40 : decode cX12_comesTo 40 = .ok (.aload_n 0, 1) := by decide +kernel
theorem dX12_comesTo_41 : decode cX12_comesTo 41 = .ok (.getfield 75, 3) := by decide +kernel
theorem dX12_comesTo_44 : decode cX12_comesTo 44 = .ok (.bipush 6, 2) := by decide +kernel
theorem dX12_comesTo_46 : decode cX12_comesTo 46 = .ok (.iload_n 1, 1) := by decide +kernel
theorem dX12_comesTo_47 : decode cX12_comesTo 47 = .ok (.imul, 1) := by decide +kernel
theorem dX12_comesTo_48 : decode cX12_comesTo 48 = .ok (.iload_n 3, 1) := by decide +kernel
theorem dX12_comesTo_49 : decode cX12_comesTo 49 = .ok (.iadd, 1) := by decide +kernel
theorem dX12_comesTo_50 : decode cX12_comesTo 50 = .ok (.baload, 1) := by decide +kernel
theorem dX12_comesTo_51 : decode cX12_comesTo 51 = .ok (.istore 5, 2) := by decide +kernel
theorem dX12_comesTo_53 : decode cX12_comesTo 53 = .ok (.aload_n 0, 1) := by decide +kernel
theorem dX12_comesTo_54 : decode cX12_comesTo 54 = .ok (.getfield 75, 3) := by decide +kernel
theorem dX12_comesTo_57 : decode cX12_comesTo 57 = .ok (.bipush 6, 2) := by decide +kernel
theorem dX12_comesTo_59 : decode cX12_comesTo 59 = .ok (.iload_n 1, 1) := by decide +kernel
theorem dX12_comesTo_60 : decode cX12_comesTo 60 = .ok (.imul, 1) := by decide +kernel
theorem dX12_comesTo_61 : decode cX12_comesTo 61 = .ok (.iload 4, 2) := by decide +kernel
theorem dX12_comesTo_63 : decode cX12_comesTo 63 = .ok (.iadd, 1) := by decide +kernel
theorem dX12_comesTo_64 : decode cX12_comesTo 64 = .ok (.baload, 1) := by decide +kernel
theorem dX12_comesTo_65 : decode cX12_comesTo 65 = .ok (.istore 6, 2) := by decide +kernel
theorem dX12_comesTo_67 : decode cX12_comesTo 67 = .ok (.iload_n 1, 1) := by decide +kernel
theorem dX12_comesTo_68 : decode cX12_comesTo 68 = .ok (.aload_n 0, 1) := by decide +kernel
theorem dX12_comesTo_69 : decode cX12_comesTo 69 = .ok (.getfield 51, 3) := by decide +kernel
theorem dX12_comesTo_72 : decode cX12_comesTo 72 = .ok (.iload_n 2, 1) := by decide +kernel
theorem dX12_comesTo_73 : decode cX12_comesTo 73 = .ok (.iaload, 1) := by decide +kernel
theorem dX12_comesTo_74 : decode cX12_comesTo 74 = .ok (.if_icmp .ne 25, 3) := by decide +kernel
theorem dX12_comesTo_77 : decode cX12_comesTo 77 = .ok (.iload 5, 2) := by decide +kernel
theorem dX12_comesTo_79 : decode cX12_comesTo 79 = .ok (.ifCond .eq 7, 3) := by decide +kernel
theorem dX12_comesTo_82 : decode cX12_comesTo 82 = .ok (.iconst 1, 1) := by decide +kernel
theorem dX12_comesTo_83 : decode cX12_comesTo 83 = .ok (.goto 4, 3) := by decide +kernel
theorem dX12_comesTo_86 : decode cX12_comesTo 86 = .ok (.iconst 0, 1) := by decide +kernel
theorem dX12_comesTo_87 : decode cX12_comesTo 87 = .ok (.iload 6, 2) := by decide +kernel
theorem dX12_comesTo_89 : decode cX12_comesTo 89 = .ok (.ifCond .eq 7, 3) := by decide +kernel
theorem dX12_comesTo_92 : decode cX12_comesTo 92 = .ok (.iconst 2, 1) := by decide +kernel
theorem dX12_comesTo_93 : decode cX12_comesTo 93 = .ok (.goto 4, 3) := by decide +kernel
theorem dX12_comesTo_96 : decode cX12_comesTo 96 = .ok (.iconst 0, 1) := by decide +kernel
theorem dX12_comesTo_97 : decode cX12_comesTo 97 = .ok (.iadd, 1) := by decide +kernel
theorem dX12_comesTo_98 : decode cX12_comesTo 98 = .ok (.ireturn, 1) := by decide +kernel
theorem dX12_comesTo_99 : decode cX12_comesTo 99 = .ok (.aload_n 0, 1) := by decide +kernel
theorem dX12_comesTo_100 : decode cX12_comesTo 100 = .ok (.getfield 60, 3) := by decide +kernel
theorem dX12_comesTo_103 : decode cX12_comesTo 103 = .ok (.bipush 12, 2) := by decide +kernel
theorem dX12_comesTo_105 : decode cX12_comesTo 105 = .ok (.iload_n 2, 1) := by decide +kernel
theorem dX12_comesTo_106 : decode cX12_comesTo 106 = .ok (.imul, 1) := by decide +kernel
theorem dX12_comesTo_107 : decode cX12_comesTo 107 = .ok (.iload_n 1, 1) := by decide +kernel
theorem dX12_comesTo_108 : decode cX12_comesTo 108 = .ok (.iadd, 1) := by decide +kernel
theorem dX12_comesTo_109 : decode cX12_comesTo 109 = .ok (.iaload, 1) := by decide +kernel
theorem dX12_comesTo_110 : decode cX12_comesTo 110 = .ok (.ifCond .eq 13, 3) := by decide +kernel
theorem dX12_comesTo_113 : decode cX12_comesTo 113 = .ok (.iload 5, 2) := by decide +kernel
theorem dX12_comesTo_115 : decode cX12_comesTo 115 = .ok (.ifCond .ne 10, 3) := by decide +kernel
theorem dX12_comesTo_118 : decode cX12_comesTo 118 = .ok (.iload 6, 2) := by decide +kernel
theorem dX12_comesTo_120 : decode cX12_comesTo 120 = .ok (.ifCond .ne 5, 3) := by decide +kernel
theorem dX12_comesTo_123 : decode cX12_comesTo 123 = .ok (.iconst 0, 1) := by decide +kernel
theorem dX12_comesTo_124 : decode cX12_comesTo 124 = .ok (.ireturn, 1) := by decide +kernel
theorem dX12_comesTo_125 : decode cX12_comesTo 125 = .ok (.iload 5, 2) := by decide +kernel
theorem dX12_comesTo_127 : decode cX12_comesTo 127 = .ok (.ifCond .eq 60, 3) := by decide +kernel
theorem dX12_comesTo_130 : decode cX12_comesTo 130 = .ok (.iload 6, 2) := by decide +kernel
theorem dX12_comesTo_132 : decode cX12_comesTo 132 = .ok (.ifCond .eq 55, 3) := by decide +kernel
theorem dX12_comesTo_135 : decode cX12_comesTo 135 = .ok (.aload_n 0, 1) := by decide +kernel
theorem dX12_comesTo_136 : decode cX12_comesTo 136 = .ok (.iload_n 1, 1) := by decide +kernel
theorem dX12_comesTo_137 : decode cX12_comesTo 137 = .ok (.aload_n 0, 1) := by decide +kernel
theorem dX12_comesTo_138 : decode cX12_comesTo 138 = .ok (.iload_n 2, 1) := by decide +kernel
theorem dX12_comesTo_139 : decode cX12_comesTo 139 = .ok (.iload 4, 2) := by decide +kernel
theorem dX12_comesTo_141 : decode cX12_comesTo 141 = .ok (.invokevirtual 184, 3) := by decide +kernel
theorem dX12_comesTo_144 : decode cX12_comesTo 144 = .ok (.aload_n 0, 1) := by decide +kernel
theorem dX12_comesTo_145 : decode cX12_comesTo 145 = .ok (.getfield 45, 3) := by decide +kernel
theorem dX12_comesTo_148 : decode cX12_comesTo 148 = .ok (.iload_n 2, 1) := by decide +kernel
theorem dX12_comesTo_149 : decode cX12_comesTo 149 = .ok (.iaload, 1) := by decide +kernel
theorem dX12_comesTo_150 : decode cX12_comesTo 150 = .ok (.aload_n 0, 1) := by decide +kernel
theorem dX12_comesTo_151 : decode cX12_comesTo 151 = .ok (.getfield 187, 3) := by decide +kernel
theorem dX12_comesTo_154 : decode cX12_comesTo 154 = .ok (.invokevirtual 178, 3) := by decide +kernel
theorem dX12_comesTo_157 : decode cX12_comesTo 157 = .ok (.aload_n 0, 1) := by decide +kernel
theorem dX12_comesTo_158 : decode cX12_comesTo 158 = .ok (.iload_n 1, 1) := by decide +kernel
theorem dX12_comesTo_159 : decode cX12_comesTo 159 = .ok (.aload_n 0, 1) := by decide +kernel
theorem dX12_comesTo_160 : decode cX12_comesTo 160 = .ok (.iload_n 2, 1) := by decide +kernel
theorem dX12_comesTo_161 : decode cX12_comesTo 161 = .ok (.iload_n 3, 1) := by decide +kernel
theorem dX12_comesTo_162 : decode cX12_comesTo 162 = .ok (.invokevirtual 184, 3) := by decide +kernel
theorem dX12_comesTo_165 : decode cX12_comesTo 165 = .ok (.aload_n 0, 1) := by decide +kernel
theorem dX12_comesTo_166 : decode cX12_comesTo 166 = .ok (.getfield 45, 3) := by decide +kernel
theorem dX12_comesTo_169 : decode cX12_comesTo 169 = .ok (.iload_n 2, 1) := by decide +kernel
theorem dX12_comesTo_170 : decode cX12_comesTo 170 = .ok (.iaload, 1) := by decide +kernel
theorem dX12_comesTo_171 : decode cX12_comesTo 171 = .ok (.aload_n 0, 1) := by decide +kernel
theorem dX12_comesTo_172 : decode cX12_comesTo 172 = .ok (.getfield 187, 3) := by decide +kernel
theorem dX12_comesTo_175 : decode cX12_comesTo 175 = .ok (.invokevirtual 178, 3) := by decide +kernel
theorem dX12_comesTo_178 : decode cX12_comesTo 178 = .ok (.if_icmp .ge 7, 3) := by decide +kernel
theorem dX12_comesTo_181 : decode cX12_comesTo 181 = .ok (.iconst 2, 1) := by decide +kernel
theorem dX12_comesTo_182 : decode cX12_comesTo 182 = .ok (.goto 4, 3) := by decide +kernel
theorem dX12_comesTo_185 : decode cX12_comesTo 185 = .ok (.iconst 1, 1) := by decide +kernel
theorem dX12_comesTo_186 : decode cX12_comesTo 186 = .ok (.ireturn, 1) := by decide +kernel
theorem dX12_comesTo_187 : decode cX12_comesTo 187 = .ok (.iload 5, 2) := by decide +kernel
theorem dX12_comesTo_189 : decode cX12_comesTo 189 = .ok (.ifCond .eq 7, 3) := by decide +kernel
theorem dX12_comesTo_192 : decode cX12_comesTo 192 = .ok (.iconst 1, 1) := by decide +kernel
theorem dX12_comesTo_193 : decode cX12_comesTo 193 = .ok (.goto 4, 3) := by decide +kernel
theorem dX12_comesTo_196 : decode cX12_comesTo 196 = .ok (.iconst 2, 1) := by decide +kernel
theorem dX12_comesTo_197 : decode cX12_comesTo 197 = .ok (.ireturn, 1) := by decide +kernel
theorem dX12_comeAll_0 : decode cX12_comeAll 0 = .ok (.iconst 0, 1) := by decide +kernel
theorem dX12_comeAll_1 : decode cX12_comeAll 1 = .ok (.istore_n 2, 1) := by decide +kernel
theorem dX12_comeAll_2 : decode cX12_comeAll 2 = .ok (.iload_n 2, 1) := by decide +kernel
theorem dX12_comeAll_3 : decode cX12_comeAll 3 = .ok (.iload_n 1, 1) := by decide +kernel
theorem dX12_comeAll_4 : decode cX12_comeAll 4 = .ok (.if_icmp .ge 98, 3) := by decide +kernel
theorem dX12_comeAll_7 : decode cX12_comeAll 7 = .ok (.iconst 0, 1) := by decide +kernel
theorem dX12_comeAll_8 : decode cX12_comeAll 8 = .ok (.istore_n 3, 1) := by decide +kernel
theorem dX12_comeAll_9 : decode cX12_comeAll 9 = .ok (.iload_n 3, 1) := by decide +kernel
theorem dX12_comeAll_10 : decode cX12_comeAll 10 = .ok (.bipush 12, 2) := by decide +kernel
theorem dX12_comeAll_12 : decode cX12_comeAll 12 = .ok (.if_icmp .ge 21, 3) := by decide +kernel
theorem dX12_comeAll_15 : decode cX12_comeAll 15 = .ok (.aload_n 0, 1) := by decide +kernel
theorem dX12_comeAll_16 : decode cX12_comeAll 16 = .ok (.getfield 72, 3) := by decide +kernel
theorem dX12_comeAll_19 : decode cX12_comeAll 19 = .ok (.bipush 12, 2) := by decide +kernel
theorem dX12_comeAll_21 : decode cX12_comeAll 21 = .ok (.iload_n 2, 1) := by decide +kernel
theorem dX12_comeAll_22 : decode cX12_comeAll 22 = .ok (.imul, 1) := by decide +kernel
theorem dX12_comeAll_23 : decode cX12_comeAll 23 = .ok (.iload_n 3, 1) := by decide +kernel
theorem dX12_comeAll_24 : decode cX12_comeAll 24 = .ok (.iadd, 1) := by decide +kernel
theorem dX12_comeAll_25 : decode cX12_comeAll 25 = .ok (.iconst 0, 1) := by decide +kernel
theorem dX12_comeAll_26 : decode cX12_comeAll 26 = .ok (.iastore, 1) := by decide +kernel
theorem dX12_comeAll_27 : decode cX12_comeAll 27 = .ok (.iinc 3 1, 3) := by decide +kernel
theorem dX12_comeAll_30 : decode cX12_comeAll 30 = .ok (.goto (-21), 3) := by decide +kernel
theorem dX12_comeAll_33 : decode cX12_comeAll 33 = .ok (.aload_n 0, 1) := by decide +kernel
theorem dX12_comeAll_34 : decode cX12_comeAll 34 = .ok (.getfield 66, 3) := by decide +kernel
theorem dX12_comeAll_37 : decode cX12_comeAll 37 = .ok (.iload_n 2, 1) := by decide +kernel
theorem dX12_comeAll_38 : decode cX12_comeAll 38 = .ok (.iaload, 1) := by decide +kernel
theorem dX12_comeAll_39 : decode cX12_comeAll 39 = .ok (.iconst (-1), 1) := by decide +kernel
theorem dX12_comeAll_40 : decode cX12_comeAll 40 = .ok (.if_icmp .ne 6, 3) := by decide +kernel
theorem dX12_comeAll_43 : decode cX12_comeAll 43 = .ok (.goto 53, 3) := by decide +kernel
theorem dX12_comeAll_46 : decode cX12_comeAll 46 = .ok (.aload_n 0, 1) := by decide +kernel
theorem dX12_comeAll_47 : decode cX12_comeAll 47 = .ok (.iload_n 2, 1) := by decide +kernel
theorem dX12_comeAll_48 : decode cX12_comeAll 48 = .ok (.invokevirtual 201, 3) := by decide +kernel
theorem dX12_comeAll_51 : decode cX12_comeAll 51 = .ok (.iconst 0, 1) := by decide +kernel
theorem dX12_comeAll_52 : decode cX12_comeAll 52 = .ok (.istore_n 3, 1) := by decide +kernel
theorem dX12_comeAll_53 : decode cX12_comeAll 53 = .ok (.iload_n 3, 1) := by decide +kernel
theorem dX12_comeAll_54 : decode cX12_comeAll 54 = .ok (.aload_n 0, 1) := by decide +kernel
theorem dX12_comeAll_55 : decode cX12_comeAll 55 = .ok (.getfield 123, 3) := by decide +kernel
theorem dX12_comeAll_58 : decode cX12_comeAll 58 = .ok (.if_icmp .ge 38, 3) := by decide +kernel
theorem dX12_comeAll_61 : decode cX12_comeAll 61 = .ok (.aload_n 0, 1) := by decide +kernel
theorem dX12_comeAll_62 : decode cX12_comeAll 62 = .ok (.getfield 72, 3) := by decide +kernel
theorem dX12_comeAll_65 : decode cX12_comeAll 65 = .ok (.bipush 12, 2) := by decide +kernel
theorem dX12_comeAll_67 : decode cX12_comeAll 67 = .ok (.iload_n 2, 1) := by decide +kernel
theorem dX12_comeAll_68 : decode cX12_comeAll 68 = .ok (.imul, 1) := by decide +kernel
theorem dX12_comeAll_69 : decode cX12_comeAll 69 = .ok (.iload_n 3, 1) := by decide +kernel
theorem dX12_comeAll_70 : decode cX12_comeAll 70 = .ok (.iadd, 1) := by decide +kernel
theorem dX12_comeAll_71 : decode cX12_comeAll 71 = .ok (.aload_n 0, 1) := by decide +kernel
theorem dX12_comeAll_72 : decode cX12_comeAll 72 = .ok (.iload_n 3, 1) := by decide +kernel
theorem dX12_comeAll_73 : decode cX12_comeAll 73 = .ok (.iload_n 2, 1) := by decide +kernel
theorem dX12_comeAll_74 : decode cX12_comeAll 74 = .ok (.aload_n 0, 1) := by decide +kernel
theorem dX12_comeAll_75 : decode cX12_comeAll 75 = .ok (.getfield 66, 3) := by decide +kernel
theorem dX12_comeAll_78 : decode cX12_comeAll 78 = .ok (.iload_n 2, 1) := by decide +kernel
theorem dX12_comeAll_79 : decode cX12_comeAll 79 = .ok (.iaload, 1) := by decide +kernel
theorem dX12_comeAll_80 : decode cX12_comeAll 80 = .ok (.aload_n 0, 1) := by decide +kernel
theorem dX12_comeAll_81 : decode cX12_comeAll 81 = .ok (.getfield 69, 3) := by decide +kernel
theorem dX12_comeAll_84 : decode cX12_comeAll 84 = .ok (.iload_n 2, 1) := by decide +kernel
theorem dX12_comeAll_85 : decode cX12_comeAll 85 = .ok (.iaload, 1) := by decide +kernel
theorem dX12_comeAll_86 : decode cX12_comeAll 86 = .ok (.invokevirtual 205, 3) := by decide +kernel
theorem dX12_comeAll_89 : decode cX12_comeAll 89 = .ok (.iastore, 1) := by decide +kernel
theorem dX12_comeAll_90 : decode cX12_comeAll 90 = .ok (.iinc 3 1, 3) := by decide +kernel
theorem dX12_comeAll_93 : decode cX12_comeAll 93 = .ok (.goto (-40), 3) := by decide +kernel
theorem dX12_comeAll_96 : decode cX12_comeAll 96 = .ok (.iinc 2 1, 3) := by decide +kernel
theorem dX12_comeAll_99 : decode cX12_comeAll 99 = .ok (.goto (-97), 3) := by decide +kernel
theorem dX12_comeAll_102 : decode cX12_comeAll 102 = .ok (.return_, 1) := by decide +kernel
theorem dX12_takesWeek_0 : decode cX12_takesWeek 0 = .ok (.aload_n 0, 1) := by decide +kernel
theorem dX12_takesWeek_1 : decode cX12_takesWeek 1 = .ok (.iload_n 1, 1) := by decide +kernel
theorem dX12_takesWeek_2 : decode cX12_takesWeek 2 = .ok (.putfield 181, 3) := by decide +kernel
theorem dX12_takesWeek_5 : decode cX12_takesWeek 5 = .ok (.aload_n 0, 1) := by decide +kernel
theorem dX12_takesWeek_6 : decode cX12_takesWeek 6 = .ok (.iload_n 2, 1) := by decide +kernel
theorem dX12_takesWeek_7 : decode cX12_takesWeek 7 = .ok (.putfield 187, 3) := by decide +kernel
theorem dX12_takesWeek_10 : decode cX12_takesWeek 10 = .ok (.iconst 0, 1) := by decide +kernel
theorem dX12_takesWeek_11 : decode cX12_takesWeek 11 = .ok (.istore_n 3, 1) := by decide +kernel
theorem dX12_takesWeek_12 : decode cX12_takesWeek 12 = .ok (.iload_n 3, 1) := by decide +kernel
theorem dX12_takesWeek_13 : decode cX12_takesWeek 13 = .ok (.iconst 4, 1) := by decide +kernel
theorem dX12_takesWeek_14 : decode cX12_takesWeek 14 = .ok (.if_icmp .ge 49, 3) := by decide +kernel
theorem dX12_takesWeek_17 : decode cX12_takesWeek 17 = .ok (.aload_n 0, 1) := by decide +kernel
theorem dX12_takesWeek_18 : decode cX12_takesWeek 18 = .ok (.getfield 66, 3) := by decide +kernel
theorem dX12_takesWeek_21 : decode cX12_takesWeek 21 = .ok (.iload_n 3, 1) := by decide +kernel
theorem dX12_takesWeek_22 : decode cX12_takesWeek 22 = .ok (.aload_n 0, 1) := by decide +kernel
theorem dX12_takesWeek_23 : decode cX12_takesWeek 23 = .ok (.getfield 63, 3) := by decide +kernel
theorem dX12_takesWeek_26 : decode cX12_takesWeek 26 = .ok (.iconst 2, 1) := by decide +kernel
theorem dX12_takesWeek_27 : decode cX12_takesWeek 27 = .ok (.bipush 52, 2) := by decide +kernel
theorem dX12_takesWeek_29 : decode cX12_takesWeek 29 = .ok (.iload_n 3, 1) := by decide +kernel
theorem dX12_takesWeek_30 : decode cX12_takesWeek 30 = .ok (.imul, 1) := by decide +kernel
theorem dX12_takesWeek_31 : decode cX12_takesWeek 31 = .ok (.iload_n 1, 1) := by decide +kernel
theorem dX12_takesWeek_32 : decode cX12_takesWeek 32 = .ok (.iadd, 1) := by decide +kernel
theorem dX12_takesWeek_33 : decode cX12_takesWeek 33 = .ok (.imul, 1) := by decide +kernel
theorem dX12_takesWeek_34 : decode cX12_takesWeek 34 = .ok (.iaload, 1) := by decide +kernel
theorem dX12_takesWeek_35 : decode cX12_takesWeek 35 = .ok (.iastore, 1) := by decide +kernel
theorem dX12_takesWeek_36 : decode cX12_takesWeek 36 = .ok (.aload_n 0, 1) := by decide +kernel
theorem dX12_takesWeek_37 : decode cX12_takesWeek 37 = .ok (.getfield 69, 3) := by decide +kernel
theorem dX12_takesWeek_40 : decode cX12_takesWeek 40 = .ok (.iload_n 3, 1) := by decide +kernel
theorem dX12_takesWeek_41 : decode cX12_takesWeek 41 = .ok (.aload_n 0, 1) := by decide +kernel
theorem dX12_takesWeek_42 : decode cX12_takesWeek 42 = .ok (.getfield 63, 3) := by decide +kernel
theorem dX12_takesWeek_45 : decode cX12_takesWeek 45 = .ok (.iconst 2, 1) := by decide +kernel
theorem dX12_takesWeek_46 : decode cX12_takesWeek 46 = .ok (.bipush 52, 2) := by decide +kernel
theorem dX12_takesWeek_48 : decode cX12_takesWeek 48 = .ok (.iload_n 3, 1) := by decide +kernel
theorem dX12_takesWeek_49 : decode cX12_takesWeek 49 = .ok (.imul, 1) := by decide +kernel
theorem dX12_takesWeek_50 : decode cX12_takesWeek 50 = .ok (.iload_n 1, 1) := by decide +kernel
theorem dX12_takesWeek_51 : decode cX12_takesWeek 51 = .ok (.iadd, 1) := by decide +kernel
theorem dX12_takesWeek_52 : decode cX12_takesWeek 52 = .ok (.imul, 1) := by decide +kernel
theorem dX12_takesWeek_53 : decode cX12_takesWeek 53 = .ok (.iconst 1, 1) := by decide +kernel
theorem dX12_takesWeek_54 : decode cX12_takesWeek 54 = .ok (.iadd, 1) := by decide +kernel
theorem dX12_takesWeek_55 : decode cX12_takesWeek 55 = .ok (.iaload, 1) := by decide +kernel
theorem dX12_takesWeek_56 : decode cX12_takesWeek 56 = .ok (.iastore, 1) := by decide +kernel
theorem dX12_takesWeek_57 : decode cX12_takesWeek 57 = .ok (.iinc 3 1, 3) := by decide +kernel
theorem dX12_takesWeek_60 : decode cX12_takesWeek 60 = .ok (.goto (-48), 3) := by decide +kernel
theorem dX12_takesWeek_63 : decode cX12_takesWeek 63 = .ok (.return_, 1) := by decide +kernel
theorem dX12_isBehind_0 : decode cX12_isBehind 0 = .ok (.aload_n 0, 1) := by decide +kernel
theorem dX12_isBehind_1 : decode cX12_isBehind 1 = .ok (.getfield 48, 3) := by decide +kernel
theorem dX12_isBehind_4 : decode cX12_isBehind 4 = .ok (.iload_n 1, 1) := by decide +kernel
theorem dX12_isBehind_5 : decode cX12_isBehind 5 = .ok (.iaload, 1) := by decide +kernel
theorem dX12_isBehind_6 : decode cX12_isBehind 6 = .ok (.istore_n 3, 1) := by decide +kernel
theorem dX12_isBehind_7 : decode cX12_isBehind 7 = .ok (.iload_n 3, 1) := by decide +kernel
theorem dX12_isBehind_8 : decode cX12_isBehind 8 = .ok (.iconst (-1), 1) := by decide +kernel
theorem dX12_isBehind_9 : decode cX12_isBehind 9 = .ok (.if_icmp .eq 13, 3) := by decide +kernel
theorem dX12_isBehind_12 : decode cX12_isBehind 12 = .ok (.aload_n 0, 1) := by decide +kernel
theorem dX12_isBehind_13 : decode cX12_isBehind 13 = .ok (.getfield 66, 3) := by decide +kernel
theorem dX12_isBehind_16 : decode cX12_isBehind 16 = .ok (.iload_n 3, 1) := by decide +kernel
theorem dX12_isBehind_17 : decode cX12_isBehind 17 = .ok (.iaload, 1) := by decide +kernel
theorem dX12_isBehind_18 : decode cX12_isBehind 18 = .ok (.iconst (-1), 1) := by decide +kernel
theorem dX12_isBehind_19 : decode cX12_isBehind 19 = .ok (.if_icmp .ne 5, 3) := by decide +kernel
theorem dX12_isBehind_22 : decode cX12_isBehind 22 = .ok (.iconst 1, 1) := by decide +kernel
theorem dX12_isBehind_23 : decode cX12_isBehind 23 = .ok (.ireturn, 1) := by decide +kernel
theorem dX12_isBehind_24 : decode cX12_isBehind 24 = .ok (.aload_n 0, 1) := by decide +kernel
theorem dX12_isBehind_25 : decode cX12_isBehind 25 = .ok (.iload_n 3, 1) := by decide +kernel
theorem dX12_isBehind_26 : decode cX12_isBehind 26 = .ok (.aload_n 0, 1) := by decide +kernel
theorem dX12_isBehind_27 : decode cX12_isBehind 27 = .ok (.getfield 66, 3) := by decide +kernel
theorem dX12_isBehind_30 : decode cX12_isBehind 30 = .ok (.iload_n 3, 1) := by decide +kernel
theorem dX12_isBehind_31 : decode cX12_isBehind 31 = .ok (.iaload, 1) := by decide +kernel
theorem dX12_isBehind_32 : decode cX12_isBehind 32 = .ok (.invokevirtual 184, 3) := by decide +kernel
theorem dX12_isBehind_35 : decode cX12_isBehind 35 = .ok (.aload_n 0, 1) := by decide +kernel
theorem dX12_isBehind_36 : decode cX12_isBehind 36 = .ok (.getfield 45, 3) := by decide +kernel
theorem dX12_isBehind_39 : decode cX12_isBehind 39 = .ok (.iload_n 3, 1) := by decide +kernel
theorem dX12_isBehind_40 : decode cX12_isBehind 40 = .ok (.iaload, 1) := by decide +kernel
theorem dX12_isBehind_41 : decode cX12_isBehind 41 = .ok (.iadd, 1) := by decide +kernel
theorem dX12_isBehind_42 : decode cX12_isBehind 42 = .ok (.aload_n 0, 1) := by decide +kernel
theorem dX12_isBehind_43 : decode cX12_isBehind 43 = .ok (.iload_n 1, 1) := by decide +kernel
theorem dX12_isBehind_44 : decode cX12_isBehind 44 = .ok (.iload_n 2, 1) := by decide +kernel
theorem dX12_isBehind_45 : decode cX12_isBehind 45 = .ok (.invokevirtual 184, 3) := by decide +kernel
theorem dX12_isBehind_48 : decode cX12_isBehind 48 = .ok (.if_icmp .le 5, 3) := by decide +kernel
theorem dX12_isBehind_51 : decode cX12_isBehind 51 = .ok (.iconst 0, 1) := by decide +kernel
theorem dX12_isBehind_52 : decode cX12_isBehind 52 = .ok (.ireturn, 1) := by decide +kernel
theorem dX12_isBehind_53 : decode cX12_isBehind 53 = .ok (.aload_n 0, 1) := by decide +kernel
theorem dX12_isBehind_54 : decode cX12_isBehind 54 = .ok (.getfield 69, 3) := by decide +kernel
theorem dX12_isBehind_57 : decode cX12_isBehind 57 = .ok (.iload_n 3, 1) := by decide +kernel
theorem dX12_isBehind_58 : decode cX12_isBehind 58 = .ok (.iaload, 1) := by decide +kernel
theorem dX12_isBehind_59 : decode cX12_isBehind 59 = .ok (.iconst (-1), 1) := by decide +kernel
theorem dX12_isBehind_60 : decode cX12_isBehind 60 = .ok (.if_icmp .eq 30, 3) := by decide +kernel
theorem dX12_isBehind_63 : decode cX12_isBehind 63 = .ok (.aload_n 0, 1) := by decide +kernel
theorem dX12_isBehind_64 : decode cX12_isBehind 64 = .ok (.iload_n 3, 1) := by decide +kernel
theorem dX12_isBehind_65 : decode cX12_isBehind 65 = .ok (.aload_n 0, 1) := by decide +kernel
theorem dX12_isBehind_66 : decode cX12_isBehind 66 = .ok (.getfield 69, 3) := by decide +kernel
theorem dX12_isBehind_69 : decode cX12_isBehind 69 = .ok (.iload_n 3, 1) := by decide +kernel
theorem dX12_isBehind_70 : decode cX12_isBehind 70 = .ok (.iaload, 1) := by decide +kernel
theorem dX12_isBehind_71 : decode cX12_isBehind 71 = .ok (.invokevirtual 184, 3) := by decide +kernel
theorem dX12_isBehind_74 : decode cX12_isBehind 74 = .ok (.aload_n 0, 1) := by decide +kernel
theorem dX12_isBehind_75 : decode cX12_isBehind 75 = .ok (.getfield 45, 3) := by decide +kernel
theorem dX12_isBehind_78 : decode cX12_isBehind 78 = .ok (.iload_n 3, 1) := by decide +kernel
theorem dX12_isBehind_79 : decode cX12_isBehind 79 = .ok (.iaload, 1) := by decide +kernel
theorem dX12_isBehind_80 : decode cX12_isBehind 80 = .ok (.iadd, 1) := by decide +kernel
theorem dX12_isBehind_81 : decode cX12_isBehind 81 = .ok (.aload_n 0, 1) := by decide +kernel
theorem dX12_isBehind_82 : decode cX12_isBehind 82 = .ok (.iload_n 1, 1) := by decide +kernel
theorem dX12_isBehind_83 : decode cX12_isBehind 83 = .ok (.iload_n 2, 1) := by decide +kernel
theorem dX12_isBehind_84 : decode cX12_isBehind 84 = .ok (.invokevirtual 184, 3) := by decide +kernel
theorem dX12_isBehind_87 : decode cX12_isBehind 87 = .ok (.if_icmp .gt 7, 3) := by decide +kernel
theorem dX12_isBehind_90 : decode cX12_isBehind 90 = .ok (.iconst 1, 1) := by decide +kernel
theorem dX12_isBehind_91 : decode cX12_isBehind 91 = .ok (.goto 4, 3) := by decide +kernel
theorem dX12_isBehind_94 : decode cX12_isBehind 94 = .ok (.iconst 0, 1) := by decide +kernel
theorem dX12_isBehind_95 : decode cX12_isBehind 95 = .ok (.ireturn, 1) := by decide +kernel
theorem dX12_fitsBy_0 : decode cX12_fitsBy 0 = .ok (.aload_n 0, 1) := by decide +kernel
theorem dX12_fitsBy_1 : decode cX12_fitsBy 1 = .ok (.iload_n 1, 1) := by decide +kernel
theorem dX12_fitsBy_2 : decode cX12_fitsBy 2 = .ok (.iload_n 2, 1) := by decide +kernel
theorem dX12_fitsBy_3 : decode cX12_fitsBy 3 = .ok (.invokevirtual 193, 3) := by decide +kernel
theorem dX12_fitsBy_6 : decode cX12_fitsBy 6 = .ok (.ifCond .eq 12, 3) := by decide +kernel
theorem dX12_fitsBy_9 : decode cX12_fitsBy 9 = .ok (.aload_n 0, 1) := by decide +kernel
theorem dX12_fitsBy_10 : decode cX12_fitsBy 10 = .ok (.iload_n 1, 1) := by decide +kernel
theorem dX12_fitsBy_11 : decode cX12_fitsBy 11 = .ok (.iload_n 2, 1) := by decide +kernel
theorem dX12_fitsBy_12 : decode cX12_fitsBy 12 = .ok (.invokevirtual 208, 3) := by decide +kernel
theorem dX12_fitsBy_15 : decode cX12_fitsBy 15 = .ok (.ifCond .ne 5, 3) := by decide +kernel
theorem dX12_fitsBy_18 : decode cX12_fitsBy 18 = .ok (.iconst 0, 1) := by decide +kernel
theorem dX12_fitsBy_19 : decode cX12_fitsBy 19 = .ok (.ireturn, 1) := by decide +kernel
theorem dX12_fitsBy_20 : decode cX12_fitsBy 20 = .ok (.iload_n 3, 1) := by decide +kernel
theorem dX12_fitsBy_21 : decode cX12_fitsBy 21 = .ok (.iconst (-1), 1) := by decide +kernel
theorem dX12_fitsBy_22 : decode cX12_fitsBy 22 = .ok (.if_icmp .eq 34, 3) := by decide +kernel
theorem dX12_fitsBy_25 : decode cX12_fitsBy 25 = .ok (.aload_n 0, 1) := by decide +kernel
theorem dX12_fitsBy_26 : decode cX12_fitsBy 26 = .ok (.iload_n 1, 1) := by decide +kernel
theorem dX12_fitsBy_27 : decode cX12_fitsBy 27 = .ok (.iload_n 3, 1) := by decide +kernel
theorem dX12_fitsBy_28 : decode cX12_fitsBy 28 = .ok (.invokevirtual 193, 3) := by decide +kernel
theorem dX12_fitsBy_31 : decode cX12_fitsBy 31 = .ok (.ifCond .eq 23, 3) := by decide +kernel
theorem dX12_fitsBy_34 : decode cX12_fitsBy 34 = .ok (.aload_n 0, 1) := by decide +kernel
theorem dX12_fitsBy_35 : decode cX12_fitsBy 35 = .ok (.iload_n 1, 1) := by decide +kernel
theorem dX12_fitsBy_36 : decode cX12_fitsBy 36 = .ok (.iload_n 3, 1) := by decide +kernel
theorem dX12_fitsBy_37 : decode cX12_fitsBy 37 = .ok (.invokevirtual 208, 3) := by decide +kernel
theorem dX12_fitsBy_40 : decode cX12_fitsBy 40 = .ok (.ifCond .eq 14, 3) := by decide +kernel
theorem dX12_fitsBy_43 : decode cX12_fitsBy 43 = .ok (.aload_n 0, 1) := by decide +kernel
theorem dX12_fitsBy_44 : decode cX12_fitsBy 44 = .ok (.iload_n 1, 1) := by decide +kernel
theorem dX12_fitsBy_45 : decode cX12_fitsBy 45 = .ok (.iload_n 2, 1) := by decide +kernel
theorem dX12_fitsBy_46 : decode cX12_fitsBy 46 = .ok (.iload_n 1, 1) := by decide +kernel
theorem dX12_fitsBy_47 : decode cX12_fitsBy 47 = .ok (.iload_n 3, 1) := by decide +kernel
theorem dX12_fitsBy_48 : decode cX12_fitsBy 48 = .ok (.invokevirtual 190, 3) := by decide +kernel
theorem dX12_fitsBy_51 : decode cX12_fitsBy 51 = .ok (.ifCond .eq 5, 3) := by decide +kernel
theorem dX12_fitsBy_54 : decode cX12_fitsBy 54 = .ok (.iconst 0, 1) := by decide +kernel
theorem dX12_fitsBy_55 : decode cX12_fitsBy 55 = .ok (.ireturn, 1) := by decide +kernel
theorem dX12_fitsBy_56 : decode cX12_fitsBy 56 = .ok (.iconst 0, 1) := by decide +kernel
theorem dX12_fitsBy_57 : decode cX12_fitsBy 57 = .ok (.istore 4, 2) := by decide +kernel
theorem dX12_fitsBy_59 : decode cX12_fitsBy 59 = .ok (.iconst 0, 1) := by decide +kernel
theorem dX12_fitsBy_60 : decode cX12_fitsBy 60 = .ok (.istore 5, 2) := by decide +kernel
theorem dX12_fitsBy_62 : decode cX12_fitsBy 62 = .ok (.iconst 0, 1) := by decide +kernel
theorem dX12_fitsBy_63 : decode cX12_fitsBy 63 = .ok (.istore 6, 2) := by decide +kernel
theorem dX12_fitsBy_65 : decode cX12_fitsBy 65 = .ok (.iload 6, 2) := by decide +kernel
theorem dX12_fitsBy_67 : decode cX12_fitsBy 67 = .ok (.aload_n 0, 1) := by decide +kernel
theorem dX12_fitsBy_68 : decode cX12_fitsBy 68 = .ok (.getfield 123, 3) := by decide +kernel
theorem dX12_fitsBy_71 : decode cX12_fitsBy 71 = .ok (.if_icmp .ge 152, 3) := by decide +kernel
theorem dX12_fitsBy_74 : decode cX12_fitsBy 74 = .ok (.aload_n 0, 1) := by decide +kernel
theorem dX12_fitsBy_75 : decode cX12_fitsBy 75 = .ok (.getfield 60, 3) := by decide +kernel
theorem dX12_fitsBy_78 : decode cX12_fitsBy 78 = .ok (.bipush 12, 2) := by decide +kernel
theorem dX12_fitsBy_80 : decode cX12_fitsBy 80 = .ok (.iload_n 1, 1) := by decide +kernel
theorem dX12_fitsBy_81 : decode cX12_fitsBy 81 = .ok (.imul, 1) := by decide +kernel
theorem dX12_fitsBy_82 : decode cX12_fitsBy 82 = .ok (.iload 6, 2) := by decide +kernel
theorem dX12_fitsBy_84 : decode cX12_fitsBy 84 = .ok (.iadd, 1) := by decide +kernel
theorem dX12_fitsBy_85 : decode cX12_fitsBy 85 = .ok (.iaload, 1) := by decide +kernel
theorem dX12_fitsBy_86 : decode cX12_fitsBy 86 = .ok (.istore 7, 2) := by decide +kernel
theorem dX12_fitsBy_88 : decode cX12_fitsBy 88 = .ok (.aload_n 0, 1) := by decide +kernel
theorem dX12_fitsBy_89 : decode cX12_fitsBy 89 = .ok (.getfield 75, 3) := by decide +kernel
theorem dX12_fitsBy_92 : decode cX12_fitsBy 92 = .ok (.bipush 6, 2) := by decide +kernel
theorem dX12_fitsBy_94 : decode cX12_fitsBy 94 = .ok (.iload 6, 2) := by decide +kernel
theorem dX12_fitsBy_96 : decode cX12_fitsBy 96 = .ok (.imul, 1) := by decide +kernel
theorem dX12_fitsBy_97 : decode cX12_fitsBy 97 = .ok (.iload_n 2, 1) := by decide +kernel
theorem dX12_fitsBy_98 : decode cX12_fitsBy 98 = .ok (.iadd, 1) := by decide +kernel
theorem dX12_fitsBy_99 : decode cX12_fitsBy 99 = .ok (.baload, 1) := by decide +kernel
theorem dX12_fitsBy_100 : decode cX12_fitsBy 100 = .ok (.istore 8, 2) := by decide +kernel
theorem dX12_fitsBy_102 : decode cX12_fitsBy 102 = .ok (.iload 8, 2) := by decide +kernel
theorem dX12_fitsBy_104 : decode cX12_fitsBy 104 = .ok (.ifCond .ne 23, 3) := by decide +kernel
theorem dX12_fitsBy_107 : decode cX12_fitsBy 107 = .ok (.iload_n 3, 1) := by decide +kernel
theorem dX12_fitsBy_108 : decode cX12_fitsBy 108 = .ok (.iconst (-1), 1) := by decide +kernel
theorem dX12_fitsBy_109 : decode cX12_fitsBy 109 = .ok (.if_icmp .eq 22, 3) := by decide +kernel
theorem dX12_fitsBy_112 : decode cX12_fitsBy 112 = .ok (.aload_n 0, 1) := by decide +kernel
theorem dX12_fitsBy_113 : decode cX12_fitsBy 113 = .ok (.getfield 75, 3) := by decide +kernel
theorem dX12_fitsBy_116 : decode cX12_fitsBy 116 = .ok (.bipush 6, 2) := by decide +kernel
theorem dX12_fitsBy_118 : decode cX12_fitsBy 118 = .ok (.iload 6, 2) := by decide +kernel
theorem dX12_fitsBy_120 : decode cX12_fitsBy 120 = .ok (.imul, 1) := by decide +kernel
theorem dX12_fitsBy_121 : decode cX12_fitsBy 121 = .ok (.iload_n 3, 1) := by decide +kernel
theorem dX12_fitsBy_122 : decode cX12_fitsBy 122 = .ok (.iadd, 1) := by decide +kernel
theorem dX12_fitsBy_123 : decode cX12_fitsBy 123 = .ok (.baload, 1) := by decide +kernel
theorem dX12_fitsBy_124 : decode cX12_fitsBy 124 = .ok (.ifCond .eq 7, 3) := by decide +kernel
theorem dX12_fitsBy_127 : decode cX12_fitsBy 127 = .ok (.iconst 1, 1) := by decide +kernel
theorem dX12_fitsBy_128 : decode cX12_fitsBy 128 = .ok (.goto 4, 3) := by decide +kernel
theorem dX12_fitsBy_131 : decode cX12_fitsBy 131 = .ok (.iconst 0, 1) := by decide +kernel
theorem dX12_fitsBy_132 : decode cX12_fitsBy 132 = .ok (.istore 9, 2) := by decide +kernel
theorem dX12_fitsBy_134 : decode cX12_fitsBy 134 = .ok (.iload 7, 2) := by decide +kernel
theorem dX12_fitsBy_136 : decode cX12_fitsBy 136 = .ok (.iconst 1, 1) := by decide +kernel
theorem dX12_fitsBy_137 : decode cX12_fitsBy 137 = .ok (.if_icmp .ne 10, 3) := by decide +kernel
theorem dX12_fitsBy_140 : decode cX12_fitsBy 140 = .ok (.iload 9, 2) := by decide +kernel
theorem dX12_fitsBy_142 : decode cX12_fitsBy 142 = .ok (.ifCond .ne 5, 3) := by decide +kernel
theorem dX12_fitsBy_145 : decode cX12_fitsBy 145 = .ok (.iconst 0, 1) := by decide +kernel
theorem dX12_fitsBy_146 : decode cX12_fitsBy 146 = .ok (.ireturn, 1) := by decide +kernel
theorem dX12_fitsBy_147 : decode cX12_fitsBy 147 = .ok (.iload 6, 2) := by decide +kernel
theorem dX12_fitsBy_149 : decode cX12_fitsBy 149 = .ok (.aload_n 0, 1) := by decide +kernel
theorem dX12_fitsBy_150 : decode cX12_fitsBy 150 = .ok (.getfield 51, 3) := by decide +kernel
theorem dX12_fitsBy_153 : decode cX12_fitsBy 153 = .ok (.iload_n 1, 1) := by decide +kernel
theorem dX12_fitsBy_154 : decode cX12_fitsBy 154 = .ok (.iaload, 1) := by decide +kernel
theorem dX12_fitsBy_155 : decode cX12_fitsBy 155 = .ok (.if_icmp .ne 30, 3) := by decide +kernel
theorem dX12_fitsBy_158 : decode cX12_fitsBy 158 = .ok (.iload_n 3, 1) := by decide +kernel
theorem dX12_fitsBy_159 : decode cX12_fitsBy 159 = .ok (.iconst (-1), 1) := by decide +kernel
theorem dX12_fitsBy_160 : decode cX12_fitsBy 160 = .ok (.if_icmp .eq 25, 3) := by decide +kernel
theorem dX12_fitsBy_163 : decode cX12_fitsBy 163 = .ok (.iload 8, 2) := by decide +kernel
theorem dX12_fitsBy_165 : decode cX12_fitsBy 165 = .ok (.ifCond .eq 18, 3) := by decide +kernel
theorem dX12_fitsBy_168 : decode cX12_fitsBy 168 = .ok (.aload_n 0, 1) := by decide +kernel
theorem dX12_fitsBy_169 : decode cX12_fitsBy 169 = .ok (.getfield 75, 3) := by decide +kernel
theorem dX12_fitsBy_172 : decode cX12_fitsBy 172 = .ok (.bipush 6, 2) := by decide +kernel
theorem dX12_fitsBy_174 : decode cX12_fitsBy 174 = .ok (.iload 6, 2) := by decide +kernel
theorem dX12_fitsBy_176 : decode cX12_fitsBy 176 = .ok (.imul, 1) := by decide +kernel
theorem dX12_fitsBy_177 : decode cX12_fitsBy 177 = .ok (.iload_n 3, 1) := by decide +kernel
theorem dX12_fitsBy_178 : decode cX12_fitsBy 178 = .ok (.iadd, 1) := by decide +kernel
theorem dX12_fitsBy_179 : decode cX12_fitsBy 179 = .ok (.baload, 1) := by decide +kernel
theorem dX12_fitsBy_180 : decode cX12_fitsBy 180 = .ok (.ifCond .ne 5, 3) := by decide +kernel
theorem dX12_fitsBy_183 : decode cX12_fitsBy 183 = .ok (.iconst 0, 1) := by decide +kernel
theorem dX12_fitsBy_184 : decode cX12_fitsBy 184 = .ok (.ireturn, 1) := by decide +kernel
theorem dX12_fitsBy_185 : decode cX12_fitsBy 185 = .ok (.iload 7, 2) := by decide +kernel
theorem dX12_fitsBy_187 : decode cX12_fitsBy 187 = .ok (.iconst 3, 1) := by decide +kernel
theorem dX12_fitsBy_188 : decode cX12_fitsBy 188 = .ok (.if_icmp .ge 6, 3) := by decide +kernel
theorem dX12_fitsBy_191 : decode cX12_fitsBy 191 = .ok (.goto 26, 3) := by decide +kernel
theorem dX12_fitsBy_194 : decode cX12_fitsBy 194 = .ok (.iload 4, 2) := by decide +kernel
theorem dX12_fitsBy_196 : decode cX12_fitsBy 196 = .ok (.iconst 1, 1) := by decide +kernel
theorem dX12_fitsBy_197 : decode cX12_fitsBy 197 = .ok (.iload 7, 2) := by decide +kernel
theorem dX12_fitsBy_199 : decode cX12_fitsBy 199 = .ok (.ishl, 1) := by decide +kernel
theorem dX12_fitsBy_200 : decode cX12_fitsBy 200 = .ok (.ior, 1) := by decide +kernel
theorem dX12_fitsBy_201 : decode cX12_fitsBy 201 = .ok (.istore 4, 2) := by decide +kernel
theorem dX12_fitsBy_203 : decode cX12_fitsBy 203 = .ok (.iload 9, 2) := by decide +kernel
theorem dX12_fitsBy_205 : decode cX12_fitsBy 205 = .ok (.ifCond .eq 12, 3) := by decide +kernel
theorem dX12_fitsBy_208 : decode cX12_fitsBy 208 = .ok (.iload 5, 2) := by decide +kernel
theorem dX12_fitsBy_210 : decode cX12_fitsBy 210 = .ok (.iconst 1, 1) := by decide +kernel
theorem dX12_fitsBy_211 : decode cX12_fitsBy 211 = .ok (.iload 7, 2) := by decide +kernel
theorem dX12_fitsBy_213 : decode cX12_fitsBy 213 = .ok (.ishl, 1) := by decide +kernel
theorem dX12_fitsBy_214 : decode cX12_fitsBy 214 = .ok (.ior, 1) := by decide +kernel
theorem dX12_fitsBy_215 : decode cX12_fitsBy 215 = .ok (.istore 5, 2) := by decide +kernel
theorem dX12_fitsBy_217 : decode cX12_fitsBy 217 = .ok (.iinc 6 1, 3) := by decide +kernel
theorem dX12_fitsBy_220 : decode cX12_fitsBy 220 = .ok (.goto (-155), 3) := by decide +kernel
theorem dX12_fitsBy_223 : decode cX12_fitsBy 223 = .ok (.iload 4, 2) := by decide +kernel
theorem dX12_fitsBy_225 : decode cX12_fitsBy 225 = .ok (.iload 5, 2) := by decide +kernel
theorem dX12_fitsBy_227 : decode cX12_fitsBy 227 = .ok (.if_icmp .ne 7, 3) := by decide +kernel
theorem dX12_fitsBy_230 : decode cX12_fitsBy 230 = .ok (.iconst 1, 1) := by decide +kernel
theorem dX12_fitsBy_231 : decode cX12_fitsBy 231 = .ok (.goto 4, 3) := by decide +kernel
theorem dX12_fitsBy_234 : decode cX12_fitsBy 234 = .ok (.iconst 0, 1) := by decide +kernel
theorem dX12_fitsBy_235 : decode cX12_fitsBy 235 = .ok (.ireturn, 1) := by decide +kernel
theorem dX12_isPair_0 : decode cX12_isPair 0 = .ok (.iload_n 2, 1) := by decide +kernel
theorem dX12_isPair_1 : decode cX12_isPair 1 = .ok (.ifCond .lt 13, 3) := by decide +kernel
theorem dX12_isPair_4 : decode cX12_isPair 4 = .ok (.iload_n 2, 1) := by decide +kernel
theorem dX12_isPair_5 : decode cX12_isPair 5 = .ok (.aload_n 0, 1) := by decide +kernel
theorem dX12_isPair_6 : decode cX12_isPair 6 = .ok (.getfield 54, 3) := by decide +kernel
theorem dX12_isPair_9 : decode cX12_isPair 9 = .ok (.iload_n 1, 1) := by decide +kernel
theorem dX12_isPair_10 : decode cX12_isPair 10 = .ok (.iaload, 1) := by decide +kernel
theorem dX12_isPair_11 : decode cX12_isPair 11 = .ok (.if_icmp .lt 5, 3) := by decide +kernel
theorem dX12_isPair_14 : decode cX12_isPair 14 = .ok (.iconst 0, 1) := by decide +kernel
theorem dX12_isPair_15 : decode cX12_isPair 15 = .ok (.ireturn, 1) := by decide +kernel
theorem dX12_isPair_16 : decode cX12_isPair 16 = .ok (.aload_n 0, 1) := by decide +kernel
theorem dX12_isPair_17 : decode cX12_isPair 17 = .ok (.getfield 51, 3) := by decide +kernel
theorem dX12_isPair_20 : decode cX12_isPair 20 = .ok (.iload_n 1, 1) := by decide +kernel
theorem dX12_isPair_21 : decode cX12_isPair 21 = .ok (.iaload, 1) := by decide +kernel
theorem dX12_isPair_22 : decode cX12_isPair 22 = .ok (.iconst (-1), 1) := by decide +kernel
theorem dX12_isPair_23 : decode cX12_isPair 23 = .ok (.if_icmp .ne 16, 3) := by decide +kernel
theorem dX12_isPair_26 : decode cX12_isPair 26 = .ok (.iload_n 3, 1) := by decide +kernel
theorem dX12_isPair_27 : decode cX12_isPair 27 = .ok (.iconst (-1), 1) := by decide +kernel
theorem dX12_isPair_28 : decode cX12_isPair 28 = .ok (.if_icmp .ne 7, 3) := by decide +kernel
theorem dX12_isPair_31 : decode cX12_isPair 31 = .ok (.iconst 1, 1) := by decide +kernel
theorem dX12_isPair_32 : decode cX12_isPair 32 = .ok (.goto 27, 3) := by decide +kernel
theorem dX12_isPair_35 : decode cX12_isPair 35 = .ok (.iconst 0, 1) := by decide +kernel
theorem dX12_isPair_36 : decode cX12_isPair 36 = .ok (.goto 23, 3) := by decide +kernel
theorem dX12_isPair_39 : decode cX12_isPair 39 = .ok (.iload_n 2, 1) := by decide +kernel
theorem dX12_isPair_40 : decode cX12_isPair 40 = .ok (.iload_n 3, 1) := by decide +kernel
theorem dX12_isPair_41 : decode cX12_isPair 41 = .ok (.if_icmp .ge 17, 3) := by decide +kernel
theorem dX12_isPair_44 : decode cX12_isPair 44 = .ok (.iload_n 3, 1) := by decide +kernel
theorem dX12_isPair_45 : decode cX12_isPair 45 = .ok (.aload_n 0, 1) := by decide +kernel
theorem dX12_isPair_46 : decode cX12_isPair 46 = .ok (.getfield 54, 3) := by decide +kernel
theorem dX12_isPair_49 : decode cX12_isPair 49 = .ok (.iload_n 1, 1) := by decide +kernel
theorem dX12_isPair_50 : decode cX12_isPair 50 = .ok (.iaload, 1) := by decide +kernel
theorem dX12_isPair_51 : decode cX12_isPair 51 = .ok (.if_icmp .ge 7, 3) := by decide +kernel
theorem dX12_isPair_54 : decode cX12_isPair 54 = .ok (.iconst 1, 1) := by decide +kernel
theorem dX12_isPair_55 : decode cX12_isPair 55 = .ok (.goto 4, 3) := by decide +kernel
theorem dX12_isPair_58 : decode cX12_isPair 58 = .ok (.iconst 0, 1) := by decide +kernel
theorem dX12_isPair_59 : decode cX12_isPair 59 = .ok (.ireturn, 1) := by decide +kernel
theorem dX12_fits_0 : decode cX12_fits 0 = .ok (.aload_n 0, 1) := by decide +kernel
theorem dX12_fits_1 : decode cX12_fits 1 = .ok (.iload_n 1, 1) := by decide +kernel
theorem dX12_fits_2 : decode cX12_fits 2 = .ok (.invokevirtual 146, 3) := by decide +kernel
theorem dX12_fits_5 : decode cX12_fits 5 = .ok (.ifCond .eq 30, 3) := by decide +kernel
theorem dX12_fits_8 : decode cX12_fits 8 = .ok (.iload_n 2, 1) := by decide +kernel
theorem dX12_fits_9 : decode cX12_fits 9 = .ok (.invokestatic 149, 3) := by decide +kernel
theorem dX12_fits_12 : decode cX12_fits 12 = .ok (.ifCond .eq 23, 3) := by decide +kernel
theorem dX12_fits_15 : decode cX12_fits 15 = .ok (.aload_n 0, 1) := by decide +kernel
theorem dX12_fits_16 : decode cX12_fits 16 = .ok (.iload 5, 2) := by decide +kernel
theorem dX12_fits_18 : decode cX12_fits 18 = .ok (.invokevirtual 152, 3) := by decide +kernel
theorem dX12_fits_21 : decode cX12_fits 21 = .ok (.ifCond .eq 14, 3) := by decide +kernel
theorem dX12_fits_24 : decode cX12_fits 24 = .ok (.aload_n 0, 1) := by decide +kernel
theorem dX12_fits_25 : decode cX12_fits 25 = .ok (.iload_n 1, 1) := by decide +kernel
theorem dX12_fits_26 : decode cX12_fits 26 = .ok (.iload_n 3, 1) := by decide +kernel
theorem dX12_fits_27 : decode cX12_fits 27 = .ok (.iload 4, 2) := by decide +kernel
theorem dX12_fits_29 : decode cX12_fits 29 = .ok (.invokevirtual 211, 3) := by decide +kernel
theorem dX12_fits_32 : decode cX12_fits 32 = .ok (.ifCond .ne 5, 3) := by decide +kernel
theorem dX12_fits_35 : decode cX12_fits 35 = .ok (.iconst (-1), 1) := by decide +kernel
theorem dX12_fits_36 : decode cX12_fits 36 = .ok (.ireturn, 1) := by decide +kernel
theorem dX12_fits_37 : decode cX12_fits 37 = .ok (.aload_n 0, 1) := by decide +kernel
theorem dX12_fits_38 : decode cX12_fits 38 = .ok (.iload_n 2, 1) := by decide +kernel
theorem dX12_fits_39 : decode cX12_fits 39 = .ok (.iload 5, 2) := by decide +kernel
theorem dX12_fits_41 : decode cX12_fits 41 = .ok (.invokevirtual 214, 3) := by decide +kernel
theorem dX12_fits_44 : decode cX12_fits 44 = .ok (.aload_n 0, 1) := by decide +kernel
theorem dX12_fits_45 : decode cX12_fits 45 = .ok (.iload_n 1, 1) := by decide +kernel
theorem dX12_fits_46 : decode cX12_fits 46 = .ok (.invokevirtual 218, 3) := by decide +kernel
theorem dX12_fits_49 : decode cX12_fits 49 = .ok (.aload_n 0, 1) := by decide +kernel
theorem dX12_fits_50 : decode cX12_fits 50 = .ok (.iload_n 1, 1) := by decide +kernel
theorem dX12_fits_51 : decode cX12_fits 51 = .ok (.invokevirtual 201, 3) := by decide +kernel
theorem dX12_fits_54 : decode cX12_fits 54 = .ok (.aload_n 0, 1) := by decide +kernel
theorem dX12_fits_55 : decode cX12_fits 55 = .ok (.iload_n 1, 1) := by decide +kernel
theorem dX12_fits_56 : decode cX12_fits 56 = .ok (.iload_n 3, 1) := by decide +kernel
theorem dX12_fits_57 : decode cX12_fits 57 = .ok (.iload 4, 2) := by decide +kernel
theorem dX12_fits_59 : decode cX12_fits 59 = .ok (.invokevirtual 221, 3) := by decide +kernel
theorem dX12_fits_62 : decode cX12_fits 62 = .ok (.ifCond .eq 7, 3) := by decide +kernel
theorem dX12_fits_65 : decode cX12_fits 65 = .ok (.iconst 1, 1) := by decide +kernel
theorem dX12_fits_66 : decode cX12_fits 66 = .ok (.goto 4, 3) := by decide +kernel
theorem dX12_fits_69 : decode cX12_fits 69 = .ok (.iconst 0, 1) := by decide +kernel
theorem dX12_fits_70 : decode cX12_fits 70 = .ok (.ireturn, 1) := by decide +kernel
theorem dX12_lists_0 : decode cX12_lists 0 = .ok (.aload_n 0, 1) := by decide +kernel
theorem dX12_lists_1 : decode cX12_lists 1 = .ok (.getfield 84, 3) := by decide +kernel
theorem dX12_lists_4 : decode cX12_lists 4 = .ok (.iload_n 1, 1) := by decide +kernel
theorem dX12_lists_5 : decode cX12_lists 5 = .ok (.iconst 0, 1) := by decide +kernel
theorem dX12_lists_6 : decode cX12_lists 6 = .ok (.iastore, 1) := by decide +kernel
theorem dX12_lists_7 : decode cX12_lists 7 = .ok (.iconst 0, 1) := by decide +kernel
theorem dX12_lists_8 : decode cX12_lists 8 = .ok (.istore_n 2, 1) := by decide +kernel
theorem dX12_lists_9 : decode cX12_lists 9 = .ok (.iload_n 2, 1) := by decide +kernel
theorem dX12_lists_10 : decode cX12_lists 10 = .ok (.aload_n 0, 1) := by decide +kernel
theorem dX12_lists_11 : decode cX12_lists 11 = .ok (.getfield 54, 3) := by decide +kernel
theorem dX12_lists_14 : decode cX12_lists 14 = .ok (.iload_n 1, 1) := by decide +kernel
theorem dX12_lists_15 : decode cX12_lists 15 = .ok (.iaload, 1) := by decide +kernel
theorem dX12_lists_16 : decode cX12_lists 16 = .ok (.if_icmp .ge 95, 3) := by decide +kernel
theorem dX12_lists_19 : decode cX12_lists 19 = .ok (.aload_n 0, 1) := by decide +kernel
theorem dX12_lists_20 : decode cX12_lists 20 = .ok (.getfield 51, 3) := by decide +kernel
theorem dX12_lists_23 : decode cX12_lists 23 = .ok (.iload_n 1, 1) := by decide +kernel
theorem dX12_lists_24 : decode cX12_lists 24 = .ok (.iaload, 1) := by decide +kernel
theorem dX12_lists_25 : decode cX12_lists 25 = .ok (.iconst (-1), 1) := by decide +kernel
theorem dX12_lists_26 : decode cX12_lists 26 = .ok (.if_icmp .ne 7, 3) := by decide +kernel
theorem dX12_lists_29 : decode cX12_lists 29 = .ok (.iconst (-1), 1) := by decide +kernel
theorem dX12_lists_30 : decode cX12_lists 30 = .ok (.goto 6, 3) := by decide +kernel
theorem dX12_lists_33 : decode cX12_lists 33 = .ok (.iload_n 2, 1) := by decide +kernel
theorem dX12_lists_34 : decode cX12_lists 34 = .ok (.iconst 1, 1) := by decide +kernel
theorem dX12_lists_35 : decode cX12_lists 35 = .ok (.iadd, 1) := by decide +kernel
theorem dX12_lists_36 : decode cX12_lists 36 = .ok (.istore_n 3, 1) := by decide +kernel
theorem dX12_lists_37 : decode cX12_lists 37 = .ok (.iload_n 3, 1) := by decide +kernel
theorem dX12_lists_38 : decode cX12_lists 38 = .ok (.aload_n 0, 1) := by decide +kernel
theorem dX12_lists_39 : decode cX12_lists 39 = .ok (.getfield 54, 3) := by decide +kernel
theorem dX12_lists_42 : decode cX12_lists 42 = .ok (.iload_n 1, 1) := by decide +kernel
theorem dX12_lists_43 : decode cX12_lists 43 = .ok (.iaload, 1) := by decide +kernel
theorem dX12_lists_44 : decode cX12_lists 44 = .ok (.if_icmp .ge 61, 3) := by decide +kernel
theorem dX12_lists_47 : decode cX12_lists 47 = .ok (.bipush 15, 2) := by decide +kernel
theorem dX12_lists_49 : decode cX12_lists 49 = .ok (.iload_n 1, 1) := by decide +kernel
theorem dX12_lists_50 : decode cX12_lists 50 = .ok (.imul, 1) := by decide +kernel
theorem dX12_lists_51 : decode cX12_lists 51 = .ok (.aload_n 0, 1) := by decide +kernel
theorem dX12_lists_52 : decode cX12_lists 52 = .ok (.getfield 84, 3) := by decide +kernel
theorem dX12_lists_55 : decode cX12_lists 55 = .ok (.iload_n 1, 1) := by decide +kernel
theorem dX12_lists_56 : decode cX12_lists 56 = .ok (.iaload, 1) := by decide +kernel
theorem dX12_lists_57 : decode cX12_lists 57 = .ok (.iadd, 1) := by decide +kernel
theorem dX12_lists_58 : decode cX12_lists 58 = .ok (.istore 4, 2) := by decide +kernel
theorem dX12_lists_60 : decode cX12_lists 60 = .ok (.aload_n 0, 1) := by decide +kernel
theorem dX12_lists_61 : decode cX12_lists 61 = .ok (.getfield 78, 3) := by decide +kernel
theorem dX12_lists_64 : decode cX12_lists 64 = .ok (.iload 4, 2) := by decide +kernel
theorem dX12_lists_66 : decode cX12_lists 66 = .ok (.iload_n 2, 1) := by decide +kernel
theorem dX12_lists_67 : decode cX12_lists 67 = .ok (.iastore, 1) := by decide +kernel
theorem dX12_lists_68 : decode cX12_lists 68 = .ok (.aload_n 0, 1) := by decide +kernel
theorem dX12_lists_69 : decode cX12_lists 69 = .ok (.getfield 81, 3) := by decide +kernel
theorem dX12_lists_72 : decode cX12_lists 72 = .ok (.iload 4, 2) := by decide +kernel
theorem dX12_lists_74 : decode cX12_lists 74 = .ok (.iload_n 3, 1) := by decide +kernel
theorem dX12_lists_75 : decode cX12_lists 75 = .ok (.iastore, 1) := by decide +kernel
theorem dX12_lists_76 : decode cX12_lists 76 = .ok (.aload_n 0, 1) := by decide +kernel
theorem dX12_lists_77 : decode cX12_lists 77 = .ok (.getfield 84, 3) := by decide +kernel
theorem dX12_lists_80 : decode cX12_lists 80 = .ok (.iload_n 1, 1) := by decide +kernel
theorem dX12_lists_81 : decode cX12_lists 81 = .ok (.dup2, 1) := by decide +kernel
theorem dX12_lists_82 : decode cX12_lists 82 = .ok (.iaload, 1) := by decide +kernel
theorem dX12_lists_83 : decode cX12_lists 83 = .ok (.iconst 1, 1) := by decide +kernel
theorem dX12_lists_84 : decode cX12_lists 84 = .ok (.iadd, 1) := by decide +kernel
theorem dX12_lists_85 : decode cX12_lists 85 = .ok (.iastore, 1) := by decide +kernel
theorem dX12_lists_86 : decode cX12_lists 86 = .ok (.aload_n 0, 1) := by decide +kernel
theorem dX12_lists_87 : decode cX12_lists 87 = .ok (.getfield 51, 3) := by decide +kernel
theorem dX12_lists_90 : decode cX12_lists 90 = .ok (.iload_n 1, 1) := by decide +kernel
theorem dX12_lists_91 : decode cX12_lists 91 = .ok (.iaload, 1) := by decide +kernel
theorem dX12_lists_92 : decode cX12_lists 92 = .ok (.iconst (-1), 1) := by decide +kernel
theorem dX12_lists_93 : decode cX12_lists 93 = .ok (.if_icmp .ne 6, 3) := by decide +kernel
theorem dX12_lists_96 : decode cX12_lists 96 = .ok (.goto 9, 3) := by decide +kernel
theorem dX12_lists_99 : decode cX12_lists 99 = .ok (.iinc 3 1, 3) := by decide +kernel
theorem dX12_lists_102 : decode cX12_lists 102 = .ok (.goto (-65), 3) := by decide +kernel
theorem dX12_lists_105 : decode cX12_lists 105 = .ok (.iinc 2 1, 3) := by decide +kernel
theorem dX12_lists_108 : decode cX12_lists 108 = .ok (.goto (-99), 3) := by decide +kernel
theorem dX12_lists_111 : decode cX12_lists 111 = .ok (.return_, 1) := by decide +kernel
theorem dX12_sorts_0 : decode cX12_sorts 0 = .ok (.iconst 0, 1) := by decide +kernel
theorem dX12_sorts_1 : decode cX12_sorts 1 = .ok (.istore_n 1, 1) := by decide +kernel
theorem dX12_sorts_2 : decode cX12_sorts 2 = .ok (.iload_n 1, 1) := by decide +kernel
theorem dX12_sorts_3 : decode cX12_sorts 3 = .ok (.aload_n 0, 1) := by decide +kernel
theorem dX12_sorts_4 : decode cX12_sorts 4 = .ok (.getfield 123, 3) := by decide +kernel
theorem dX12_sorts_7 : decode cX12_sorts 7 = .ok (.if_icmp .ge 64, 3) := by decide +kernel
theorem dX12_sorts_10 : decode cX12_sorts 10 = .ok (.iload_n 1, 1) := by decide +kernel
theorem dX12_sorts_11 : decode cX12_sorts 11 = .ok (.istore_n 2, 1) := by decide +kernel
theorem dX12_sorts_12 : decode cX12_sorts 12 = .ok (.iload_n 2, 1) := by decide +kernel
theorem dX12_sorts_13 : decode cX12_sorts 13 = .ok (.ifCond .le 40, 3) := by decide +kernel
theorem dX12_sorts_16 : decode cX12_sorts 16 = .ok (.aload_n 0, 1) := by decide +kernel
theorem dX12_sorts_17 : decode cX12_sorts 17 = .ok (.getfield 90, 3) := by decide +kernel
theorem dX12_sorts_20 : decode cX12_sorts 20 = .ok (.iload_n 2, 1) := by decide +kernel
theorem dX12_sorts_21 : decode cX12_sorts 21 = .ok (.iconst 1, 1) := by decide +kernel
theorem dX12_sorts_22 : decode cX12_sorts 22 = .ok (.isub, 1) := by decide +kernel
theorem dX12_sorts_23 : decode cX12_sorts 23 = .ok (.iaload, 1) := by decide +kernel
theorem dX12_sorts_24 : decode cX12_sorts 24 = .ok (.aload_n 0, 1) := by decide +kernel
theorem dX12_sorts_25 : decode cX12_sorts 25 = .ok (.getfield 87, 3) := by decide +kernel
theorem dX12_sorts_28 : decode cX12_sorts 28 = .ok (.iload_n 1, 1) := by decide +kernel
theorem dX12_sorts_29 : decode cX12_sorts 29 = .ok (.iaload, 1) := by decide +kernel
theorem dX12_sorts_30 : decode cX12_sorts 30 = .ok (.if_icmp .ge 23, 3) := by decide +kernel
theorem dX12_sorts_33 : decode cX12_sorts 33 = .ok (.aload_n 0, 1) := by decide +kernel
theorem dX12_sorts_34 : decode cX12_sorts 34 = .ok (.getfield 90, 3) := by decide +kernel
theorem dX12_sorts_37 : decode cX12_sorts 37 = .ok (.iload_n 2, 1) := by decide +kernel
theorem dX12_sorts_38 : decode cX12_sorts 38 = .ok (.aload_n 0, 1) := by decide +kernel
theorem dX12_sorts_39 : decode cX12_sorts 39 = .ok (.getfield 90, 3) := by decide +kernel
theorem dX12_sorts_42 : decode cX12_sorts 42 = .ok (.iload_n 2, 1) := by decide +kernel
theorem dX12_sorts_43 : decode cX12_sorts 43 = .ok (.iconst 1, 1) := by decide +kernel
theorem dX12_sorts_44 : decode cX12_sorts 44 = .ok (.isub, 1) := by decide +kernel
theorem dX12_sorts_45 : decode cX12_sorts 45 = .ok (.iaload, 1) := by decide +kernel
theorem dX12_sorts_46 : decode cX12_sorts 46 = .ok (.iastore, 1) := by decide +kernel
theorem dX12_sorts_47 : decode cX12_sorts 47 = .ok (.iinc 2 (-1), 3) := by decide +kernel
theorem dX12_sorts_50 : decode cX12_sorts 50 = .ok (.goto (-38), 3) := by decide +kernel
theorem dX12_sorts_53 : decode cX12_sorts 53 = .ok (.aload_n 0, 1) := by decide +kernel
theorem dX12_sorts_54 : decode cX12_sorts 54 = .ok (.getfield 90, 3) := by decide +kernel
theorem dX12_sorts_57 : decode cX12_sorts 57 = .ok (.iload_n 2, 1) := by decide +kernel
theorem dX12_sorts_58 : decode cX12_sorts 58 = .ok (.aload_n 0, 1) := by decide +kernel
theorem dX12_sorts_59 : decode cX12_sorts 59 = .ok (.getfield 87, 3) := by decide +kernel
theorem dX12_sorts_62 : decode cX12_sorts 62 = .ok (.iload_n 1, 1) := by decide +kernel
theorem dX12_sorts_63 : decode cX12_sorts 63 = .ok (.iaload, 1) := by decide +kernel
theorem dX12_sorts_64 : decode cX12_sorts 64 = .ok (.iastore, 1) := by decide +kernel
theorem dX12_sorts_65 : decode cX12_sorts 65 = .ok (.iinc 1 1, 3) := by decide +kernel
theorem dX12_sorts_68 : decode cX12_sorts 68 = .ok (.goto (-66), 3) := by decide +kernel
theorem dX12_sorts_71 : decode cX12_sorts 71 = .ok (.return_, 1) := by decide +kernel
theorem dX12_isLess_0 : decode cX12_isLess 0 = .ok (.iconst 0, 1) := by decide +kernel
theorem dX12_isLess_1 : decode cX12_isLess 1 = .ok (.istore_n 1, 1) := by decide +kernel
theorem dX12_isLess_2 : decode cX12_isLess 2 = .ok (.iload_n 1, 1) := by decide +kernel
theorem dX12_isLess_3 : decode cX12_isLess 3 = .ok (.aload_n 0, 1) := by decide +kernel
theorem dX12_isLess_4 : decode cX12_isLess 4 = .ok (.getfield 123, 3) := by decide +kernel
theorem dX12_isLess_7 : decode cX12_isLess 7 = .ok (.if_icmp .ge 45, 3) := by decide +kernel
theorem dX12_isLess_10 : decode cX12_isLess 10 = .ok (.aload_n 0, 1) := by decide +kernel
theorem dX12_isLess_11 : decode cX12_isLess 11 = .ok (.getfield 90, 3) := by decide +kernel
theorem dX12_isLess_14 : decode cX12_isLess 14 = .ok (.iload_n 1, 1) := by decide +kernel
theorem dX12_isLess_15 : decode cX12_isLess 15 = .ok (.iaload, 1) := by decide +kernel
theorem dX12_isLess_16 : decode cX12_isLess 16 = .ok (.aload_n 0, 1) := by decide +kernel
theorem dX12_isLess_17 : decode cX12_isLess 17 = .ok (.getfield 93, 3) := by decide +kernel
theorem dX12_isLess_20 : decode cX12_isLess 20 = .ok (.iload_n 1, 1) := by decide +kernel
theorem dX12_isLess_21 : decode cX12_isLess 21 = .ok (.iaload, 1) := by decide +kernel
theorem dX12_isLess_22 : decode cX12_isLess 22 = .ok (.if_icmp .eq 24, 3) := by decide +kernel
theorem dX12_isLess_25 : decode cX12_isLess 25 = .ok (.aload_n 0, 1) := by decide +kernel
theorem dX12_isLess_26 : decode cX12_isLess 26 = .ok (.getfield 90, 3) := by decide +kernel
theorem dX12_isLess_29 : decode cX12_isLess 29 = .ok (.iload_n 1, 1) := by decide +kernel
theorem dX12_isLess_30 : decode cX12_isLess 30 = .ok (.iaload, 1) := by decide +kernel
theorem dX12_isLess_31 : decode cX12_isLess 31 = .ok (.aload_n 0, 1) := by decide +kernel
theorem dX12_isLess_32 : decode cX12_isLess 32 = .ok (.getfield 93, 3) := by decide +kernel
theorem dX12_isLess_35 : decode cX12_isLess 35 = .ok (.iload_n 1, 1) := by decide +kernel
theorem dX12_isLess_36 : decode cX12_isLess 36 = .ok (.iaload, 1) := by decide +kernel
theorem dX12_isLess_37 : decode cX12_isLess 37 = .ok (.if_icmp .ge 7, 3) := by decide +kernel
theorem dX12_isLess_40 : decode cX12_isLess 40 = .ok (.iconst 1, 1) := by decide +kernel
theorem dX12_isLess_41 : decode cX12_isLess 41 = .ok (.goto 4, 3) := by decide +kernel
theorem dX12_isLess_44 : decode cX12_isLess 44 = .ok (.iconst 0, 1) := by decide +kernel
theorem dX12_isLess_45 : decode cX12_isLess 45 = .ok (.ireturn, 1) := by decide +kernel
theorem dX12_isLess_46 : decode cX12_isLess 46 = .ok (.iinc 1 1, 3) := by decide +kernel
theorem dX12_isLess_49 : decode cX12_isLess 49 = .ok (.goto (-47), 3) := by decide +kernel
theorem dX12_isLess_52 : decode cX12_isLess 52 = .ok (.iconst 0, 1) := by decide +kernel
theorem dX12_isLess_53 : decode cX12_isLess 53 = .ok (.ireturn, 1) := by decide +kernel
theorem dX12_isBest_0 : decode cX12_isBest 0 = .ok (.iconst 0, 1) := by decide +kernel
theorem dX12_isBest_1 : decode cX12_isBest 1 = .ok (.istore_n 1, 1) := by decide +kernel
theorem dX12_isBest_2 : decode cX12_isBest 2 = .ok (.iload_n 1, 1) := by decide +kernel
theorem dX12_isBest_3 : decode cX12_isBest 3 = .ok (.aload_n 0, 1) := by decide +kernel
theorem dX12_isBest_4 : decode cX12_isBest 4 = .ok (.getfield 123, 3) := by decide +kernel
theorem dX12_isBest_7 : decode cX12_isBest 7 = .ok (.if_icmp .ge 21, 3) := by decide +kernel
theorem dX12_isBest_10 : decode cX12_isBest 10 = .ok (.aload_n 0, 1) := by decide +kernel
theorem dX12_isBest_11 : decode cX12_isBest 11 = .ok (.getfield 93, 3) := by decide +kernel
theorem dX12_isBest_14 : decode cX12_isBest 14 = .ok (.iload_n 1, 1) := by decide +kernel
theorem dX12_isBest_15 : decode cX12_isBest 15 = .ok (.aload_n 0, 1) := by decide +kernel
theorem dX12_isBest_16 : decode cX12_isBest 16 = .ok (.getfield 90, 3) := by decide +kernel
theorem dX12_isBest_19 : decode cX12_isBest 19 = .ok (.iload_n 1, 1) := by decide +kernel
theorem dX12_isBest_20 : decode cX12_isBest 20 = .ok (.iaload, 1) := by decide +kernel
theorem dX12_isBest_21 : decode cX12_isBest 21 = .ok (.iastore, 1) := by decide +kernel
theorem dX12_isBest_22 : decode cX12_isBest 22 = .ok (.iinc 1 1, 3) := by decide +kernel
theorem dX12_isBest_25 : decode cX12_isBest 25 = .ok (.goto (-23), 3) := by decide +kernel
theorem dX12_isBest_28 : decode cX12_isBest 28 = .ok (.return_, 1) := by decide +kernel
theorem dX12_priceOf_0 : decode cX12_priceOf 0 = .ok (.iconst 0, 1) := by decide +kernel
theorem dX12_priceOf_1 : decode cX12_priceOf 1 = .ok (.istore 6, 2) := by decide +kernel
theorem dX12_priceOf_3 : decode cX12_priceOf 3 = .ok (.iload 5, 2) := by decide +kernel
theorem dX12_priceOf_5 : decode cX12_priceOf 5 = .ok (.iconst 1, 1) := by decide +kernel
theorem dX12_priceOf_6 : decode cX12_priceOf 6 = .ok (.iand, 1) := by decide +kernel
theorem dX12_priceOf_7 : decode cX12_priceOf 7 = .ok (.iconst 1, 1) := by decide +kernel
theorem dX12_priceOf_8 : decode cX12_priceOf 8 = .ok (.if_icmp .ne 29, 3) := by decide +kernel
theorem dX12_priceOf_11 : decode cX12_priceOf 11 = .ok (.iload 6, 2) := by decide +kernel
theorem dX12_priceOf_13 : decode cX12_priceOf 13 = .ok (.aload_n 0, 1) := by decide +kernel
theorem dX12_priceOf_14 : decode cX12_priceOf 14 = .ok (.iload_n 1, 1) := by decide +kernel
theorem dX12_priceOf_15 : decode cX12_priceOf 15 = .ok (.aload_n 0, 1) := by decide +kernel
theorem dX12_priceOf_16 : decode cX12_priceOf 16 = .ok (.iload_n 2, 1) := by decide +kernel
theorem dX12_priceOf_17 : decode cX12_priceOf 17 = .ok (.iload_n 3, 1) := by decide +kernel
theorem dX12_priceOf_18 : decode cX12_priceOf 18 = .ok (.invokevirtual 184, 3) := by decide +kernel
theorem dX12_priceOf_21 : decode cX12_priceOf 21 = .ok (.aload_n 0, 1) := by decide +kernel
theorem dX12_priceOf_22 : decode cX12_priceOf 22 = .ok (.getfield 45, 3) := by decide +kernel
theorem dX12_priceOf_25 : decode cX12_priceOf 25 = .ok (.iload_n 2, 1) := by decide +kernel
theorem dX12_priceOf_26 : decode cX12_priceOf 26 = .ok (.iaload, 1) := by decide +kernel
theorem dX12_priceOf_27 : decode cX12_priceOf 27 = .ok (.aload_n 0, 1) := by decide +kernel
theorem dX12_priceOf_28 : decode cX12_priceOf 28 = .ok (.getfield 187, 3) := by decide +kernel
theorem dX12_priceOf_31 : decode cX12_priceOf 31 = .ok (.invokevirtual 178, 3) := by decide +kernel
theorem dX12_priceOf_34 : decode cX12_priceOf 34 = .ok (.iadd, 1) := by decide +kernel
theorem dX12_priceOf_35 : decode cX12_priceOf 35 = .ok (.istore 6, 2) := by decide +kernel
theorem dX12_priceOf_37 : decode cX12_priceOf 37 = .ok (.iload 5, 2) := by decide +kernel
theorem dX12_priceOf_39 : decode cX12_priceOf 39 = .ok (.iconst 2, 1) := by decide +kernel
theorem dX12_priceOf_40 : decode cX12_priceOf 40 = .ok (.iand, 1) := by decide +kernel
theorem dX12_priceOf_41 : decode cX12_priceOf 41 = .ok (.iconst 2, 1) := by decide +kernel
theorem dX12_priceOf_42 : decode cX12_priceOf 42 = .ok (.if_icmp .ne 30, 3) := by decide +kernel
theorem dX12_priceOf_45 : decode cX12_priceOf 45 = .ok (.iload 6, 2) := by decide +kernel
theorem dX12_priceOf_47 : decode cX12_priceOf 47 = .ok (.aload_n 0, 1) := by decide +kernel
theorem dX12_priceOf_48 : decode cX12_priceOf 48 = .ok (.iload_n 1, 1) := by decide +kernel
theorem dX12_priceOf_49 : decode cX12_priceOf 49 = .ok (.aload_n 0, 1) := by decide +kernel
theorem dX12_priceOf_50 : decode cX12_priceOf 50 = .ok (.iload_n 2, 1) := by decide +kernel
theorem dX12_priceOf_51 : decode cX12_priceOf 51 = .ok (.iload 4, 2) := by decide +kernel
theorem dX12_priceOf_53 : decode cX12_priceOf 53 = .ok (.invokevirtual 184, 3) := by decide +kernel
theorem dX12_priceOf_56 : decode cX12_priceOf 56 = .ok (.aload_n 0, 1) := by decide +kernel
theorem dX12_priceOf_57 : decode cX12_priceOf 57 = .ok (.getfield 45, 3) := by decide +kernel
theorem dX12_priceOf_60 : decode cX12_priceOf 60 = .ok (.iload_n 2, 1) := by decide +kernel
theorem dX12_priceOf_61 : decode cX12_priceOf 61 = .ok (.iaload, 1) := by decide +kernel
theorem dX12_priceOf_62 : decode cX12_priceOf 62 = .ok (.aload_n 0, 1) := by decide +kernel
theorem dX12_priceOf_63 : decode cX12_priceOf 63 = .ok (.getfield 187, 3) := by decide +kernel
theorem dX12_priceOf_66 : decode cX12_priceOf 66 = .ok (.invokevirtual 178, 3) := by decide +kernel
theorem dX12_priceOf_69 : decode cX12_priceOf 69 = .ok (.iadd, 1) := by decide +kernel
theorem dX12_priceOf_70 : decode cX12_priceOf 70 = .ok (.istore 6, 2) := by decide +kernel
theorem dX12_priceOf_72 : decode cX12_priceOf 72 = .ok (.iload 6, 2) := by decide +kernel
theorem dX12_priceOf_74 : decode cX12_priceOf 74 = .ok (.ireturn, 1) := by decide +kernel
theorem dX12_plan_0 : decode cX12_plan 0 = .ok (.aload_n 0, 1) := by decide +kernel
theorem dX12_plan_1 : decode cX12_plan 1 = .ok (.iload_n 1, 1) := by decide +kernel
theorem dX12_plan_2 : decode cX12_plan 2 = .ok (.invokevirtual 146, 3) := by decide +kernel
theorem dX12_plan_5 : decode cX12_plan 5 = .ok (.ifCond .eq 49, 3) := by decide +kernel
theorem dX12_plan_8 : decode cX12_plan 8 = .ok (.aload_n 0, 1) := by decide +kernel
theorem dX12_plan_9 : decode cX12_plan 9 = .ok (.iload 4, 2) := by decide +kernel
theorem dX12_plan_11 : decode cX12_plan 11 = .ok (.invokevirtual 152, 3) := by decide +kernel
theorem dX12_plan_14 : decode cX12_plan 14 = .ok (.ifCond .eq 40, 3) := by decide +kernel
theorem dX12_plan_17 : decode cX12_plan 17 = .ok (.iload_n 2, 1) := by decide +kernel
theorem dX12_plan_18 : decode cX12_plan 18 = .ok (.ifCond .lt 36, 3) := by decide +kernel
theorem dX12_plan_21 : decode cX12_plan 21 = .ok (.iload_n 2, 1) := by decide +kernel
theorem dX12_plan_22 : decode cX12_plan 22 = .ok (.iload_n 3, 1) := by decide +kernel
theorem dX12_plan_23 : decode cX12_plan 23 = .ok (.if_icmp .ge 31, 3) := by decide +kernel
theorem dX12_plan_26 : decode cX12_plan 26 = .ok (.iload_n 3, 1) := by decide +kernel
theorem dX12_plan_27 : decode cX12_plan 27 = .ok (.bipush 52, 2) := by decide +kernel
theorem dX12_plan_29 : decode cX12_plan 29 = .ok (.if_icmp .gt 25, 3) := by decide +kernel
theorem dX12_plan_32 : decode cX12_plan 32 = .ok (.iload_n 3, 1) := by decide +kernel
theorem dX12_plan_33 : decode cX12_plan 33 = .ok (.iload_n 2, 1) := by decide +kernel
theorem dX12_plan_34 : decode cX12_plan 34 = .ok (.isub, 1) := by decide +kernel
theorem dX12_plan_35 : decode cX12_plan 35 = .ok (.aload_n 0, 1) := by decide +kernel
theorem dX12_plan_36 : decode cX12_plan 36 = .ok (.getfield 51, 3) := by decide +kernel
theorem dX12_plan_39 : decode cX12_plan 39 = .ok (.iload_n 1, 1) := by decide +kernel
theorem dX12_plan_40 : decode cX12_plan 40 = .ok (.iaload, 1) := by decide +kernel
theorem dX12_plan_41 : decode cX12_plan 41 = .ok (.iconst (-1), 1) := by decide +kernel
theorem dX12_plan_42 : decode cX12_plan 42 = .ok (.if_icmp .ne 8, 3) := by decide +kernel
theorem dX12_plan_45 : decode cX12_plan 45 = .ok (.bipush 6, 2) := by decide +kernel
theorem dX12_plan_47 : decode cX12_plan 47 = .ok (.goto 4, 3) := by decide +kernel
theorem dX12_plan_50 : decode cX12_plan 50 = .ok (.iconst 4, 1) := by decide +kernel
theorem dX12_plan_51 : decode cX12_plan 51 = .ok (.if_icmp .le 6, 3) := by decide +kernel
theorem dX12_plan_54 : decode cX12_plan 54 = .ok (.bipush (-2), 2) := by decide +kernel
theorem dX12_plan_56 : decode cX12_plan 56 = .ok (.ireturn, 1) := by decide +kernel
theorem dX12_plan_57 : decode cX12_plan 57 = .ok (.aload_n 0, 1) := by decide +kernel
theorem dX12_plan_58 : decode cX12_plan 58 = .ok (.iload_n 1, 1) := by decide +kernel
theorem dX12_plan_59 : decode cX12_plan 59 = .ok (.invokevirtual 224, 3) := by decide +kernel
theorem dX12_plan_62 : decode cX12_plan 62 = .ok (.aload_n 0, 1) := by decide +kernel
theorem dX12_plan_63 : decode cX12_plan 63 = .ok (.iconst 0, 1) := by decide +kernel
theorem dX12_plan_64 : decode cX12_plan 64 = .ok (.putfield 227, 3) := by decide +kernel
theorem dX12_plan_67 : decode cX12_plan 67 = .ok (.aload_n 0, 1) := by decide +kernel
theorem dX12_plan_68 : decode cX12_plan 68 = .ok (.getfield 84, 3) := by decide +kernel
theorem dX12_plan_71 : decode cX12_plan 71 = .ok (.iload_n 1, 1) := by decide +kernel
theorem dX12_plan_72 : decode cX12_plan 72 = .ok (.iaload, 1) := by decide +kernel
theorem dX12_plan_73 : decode cX12_plan 73 = .ok (.istore 5, 2) := by decide +kernel
theorem dX12_plan_75 : decode cX12_plan 75 = .ok (.iload_n 3, 1) := by decide +kernel
theorem dX12_plan_76 : decode cX12_plan 76 = .ok (.iload_n 2, 1) := by decide +kernel
theorem dX12_plan_77 : decode cX12_plan 77 = .ok (.isub, 1) := by decide +kernel
theorem dX12_plan_78 : decode cX12_plan 78 = .ok (.istore 6, 2) := by decide +kernel
theorem dX12_plan_80 : decode cX12_plan 80 = .ok (.iconst 0, 1) := by decide +kernel
theorem dX12_plan_81 : decode cX12_plan 81 = .ok (.istore 7, 2) := by decide +kernel
theorem dX12_plan_83 : decode cX12_plan 83 = .ok (.iload 7, 2) := by decide +kernel
theorem dX12_plan_85 : decode cX12_plan 85 = .ok (.iload 6, 2) := by decide +kernel
theorem dX12_plan_87 : decode cX12_plan 87 = .ok (.if_icmp .ge 224, 3) := by decide +kernel
theorem dX12_plan_90 : decode cX12_plan 90 = .ok (.aload_n 0, 1) := by decide +kernel
theorem dX12_plan_91 : decode cX12_plan 91 = .ok (.iload_n 2, 1) := by decide +kernel
theorem dX12_plan_92 : decode cX12_plan 92 = .ok (.iload 7, 2) := by decide +kernel
theorem dX12_plan_94 : decode cX12_plan 94 = .ok (.iadd, 1) := by decide +kernel
theorem dX12_plan_95 : decode cX12_plan 95 = .ok (.iload 4, 2) := by decide +kernel
theorem dX12_plan_97 : decode cX12_plan 97 = .ok (.invokevirtual 214, 3) := by decide +kernel
theorem dX12_plan_100 : decode cX12_plan 100 = .ok (.aload_n 0, 1) := by decide +kernel
theorem dX12_plan_101 : decode cX12_plan 101 = .ok (.iload_n 1, 1) := by decide +kernel
theorem dX12_plan_102 : decode cX12_plan 102 = .ok (.invokevirtual 218, 3) := by decide +kernel
theorem dX12_plan_105 : decode cX12_plan 105 = .ok (.aload_n 0, 1) := by decide +kernel
theorem dX12_plan_106 : decode cX12_plan 106 = .ok (.iload_n 1, 1) := by decide +kernel
theorem dX12_plan_107 : decode cX12_plan 107 = .ok (.invokevirtual 201, 3) := by decide +kernel
theorem dX12_plan_110 : decode cX12_plan 110 = .ok (.iconst 0, 1) := by decide +kernel
theorem dX12_plan_111 : decode cX12_plan 111 = .ok (.istore 8, 2) := by decide +kernel
theorem dX12_plan_113 : decode cX12_plan 113 = .ok (.iconst 0, 1) := by decide +kernel
theorem dX12_plan_114 : decode cX12_plan 114 = .ok (.istore 9, 2) := by decide +kernel
theorem dX12_plan_116 : decode cX12_plan 116 = .ok (.iload 9, 2) := by decide +kernel
theorem dX12_plan_118 : decode cX12_plan 118 = .ok (.iload 5, 2) := by decide +kernel
theorem dX12_plan_120 : decode cX12_plan 120 = .ok (.if_icmp .ge 166, 3) := by decide +kernel
theorem dX12_plan_123 : decode cX12_plan 123 = .ok (.aload_n 0, 1) := by decide +kernel
theorem dX12_plan_124 : decode cX12_plan 124 = .ok (.getfield 78, 3) := by decide +kernel
theorem dX12_plan_127 : decode cX12_plan 127 = .ok (.bipush 15, 2) := by decide +kernel
theorem dX12_plan_129 : decode cX12_plan 129 = .ok (.iload_n 1, 1) := by decide +kernel
theorem dX12_plan_130 : decode cX12_plan 130 = .ok (.imul, 1) := by decide +kernel
theorem dX12_plan_131 : decode cX12_plan 131 = .ok (.iload 9, 2) := by decide +kernel
theorem dX12_plan_133 : decode cX12_plan 133 = .ok (.iadd, 1) := by decide +kernel
theorem dX12_plan_134 : decode cX12_plan 134 = .ok (.iaload, 1) := by decide +kernel
theorem dX12_plan_135 : decode cX12_plan 135 = .ok (.istore 10, 2) := by decide +kernel
theorem dX12_plan_137 : decode cX12_plan 137 = .ok (.aload_n 0, 1) := by decide +kernel
theorem dX12_plan_138 : decode cX12_plan 138 = .ok (.getfield 81, 3) := by decide +kernel
theorem dX12_plan_141 : decode cX12_plan 141 = .ok (.bipush 15, 2) := by decide +kernel
theorem dX12_plan_143 : decode cX12_plan 143 = .ok (.iload_n 1, 1) := by decide +kernel
theorem dX12_plan_144 : decode cX12_plan 144 = .ok (.imul, 1) := by decide +kernel
theorem dX12_plan_145 : decode cX12_plan 145 = .ok (.iload 9, 2) := by decide +kernel
theorem dX12_plan_147 : decode cX12_plan 147 = .ok (.iadd, 1) := by decide +kernel
theorem dX12_plan_148 : decode cX12_plan 148 = .ok (.iaload, 1) := by decide +kernel
theorem dX12_plan_149 : decode cX12_plan 149 = .ok (.istore 11, 2) := by decide +kernel
theorem dX12_plan_151 : decode cX12_plan 151 = .ok (.aload_n 0, 1) := by decide +kernel
theorem dX12_plan_152 : decode cX12_plan 152 = .ok (.getfield 96, 3) := by decide +kernel
theorem dX12_plan_155 : decode cX12_plan 155 = .ok (.bipush 15, 2) := by decide +kernel
theorem dX12_plan_157 : decode cX12_plan 157 = .ok (.iload 7, 2) := by decide +kernel
theorem dX12_plan_159 : decode cX12_plan 159 = .ok (.imul, 1) := by decide +kernel
theorem dX12_plan_160 : decode cX12_plan 160 = .ok (.iload 9, 2) := by decide +kernel
theorem dX12_plan_162 : decode cX12_plan 162 = .ok (.iadd, 1) := by decide +kernel
theorem dX12_plan_163 : decode cX12_plan 163 = .ok (.aload_n 0, 1) := by decide +kernel
theorem dX12_plan_164 : decode cX12_plan 164 = .ok (.iload_n 1, 1) := by decide +kernel
theorem dX12_plan_165 : decode cX12_plan 165 = .ok (.iload 10, 2) := by decide +kernel
theorem dX12_plan_167 : decode cX12_plan 167 = .ok (.iload 11, 2) := by decide +kernel
theorem dX12_plan_169 : decode cX12_plan 169 = .ok (.invokevirtual 221, 3) := by decide +kernel
theorem dX12_plan_172 : decode cX12_plan 172 = .ok (.bastore, 1) := by decide +kernel
theorem dX12_plan_173 : decode cX12_plan 173 = .ok (.iload 8, 2) := by decide +kernel
theorem dX12_plan_175 : decode cX12_plan 175 = .ok (.ifCond .ne 19, 3) := by decide +kernel
theorem dX12_plan_178 : decode cX12_plan 178 = .ok (.aload_n 0, 1) := by decide +kernel
theorem dX12_plan_179 : decode cX12_plan 179 = .ok (.getfield 96, 3) := by decide +kernel
theorem dX12_plan_182 : decode cX12_plan 182 = .ok (.bipush 15, 2) := by decide +kernel
theorem dX12_plan_184 : decode cX12_plan 184 = .ok (.iload 7, 2) := by decide +kernel
theorem dX12_plan_186 : decode cX12_plan 186 = .ok (.imul, 1) := by decide +kernel
theorem dX12_plan_187 : decode cX12_plan 187 = .ok (.iload 9, 2) := by decide +kernel
theorem dX12_plan_189 : decode cX12_plan 189 = .ok (.iadd, 1) := by decide +kernel
theorem dX12_plan_190 : decode cX12_plan 190 = .ok (.baload, 1) := by decide +kernel
theorem dX12_plan_191 : decode cX12_plan 191 = .ok (.ifCond .eq 7, 3) := by decide +kernel
theorem dX12_plan_194 : decode cX12_plan 194 = .ok (.iconst 1, 1) := by decide +kernel
theorem dX12_plan_195 : decode cX12_plan 195 = .ok (.goto 4, 3) := by decide +kernel
theorem dX12_plan_198 : decode cX12_plan 198 = .ok (.iconst 0, 1) := by decide +kernel
theorem dX12_plan_199 : decode cX12_plan 199 = .ok (.istore 8, 2) := by decide +kernel
theorem dX12_plan_201 : decode cX12_plan 201 = .ok (.iconst 0, 1) := by decide +kernel
theorem dX12_plan_202 : decode cX12_plan 202 = .ok (.istore 12, 2) := by decide +kernel
theorem dX12_plan_204 : decode cX12_plan 204 = .ok (.iload 12, 2) := by decide +kernel
theorem dX12_plan_206 : decode cX12_plan 206 = .ok (.aload_n 0, 1) := by decide +kernel
theorem dX12_plan_207 : decode cX12_plan 207 = .ok (.getfield 123, 3) := by decide +kernel
theorem dX12_plan_210 : decode cX12_plan 210 = .ok (.if_icmp .ge 70, 3) := by decide +kernel
theorem dX12_plan_213 : decode cX12_plan 213 = .ok (.aload_n 0, 1) := by decide +kernel
theorem dX12_plan_214 : decode cX12_plan 214 = .ok (.getfield 99, 3) := by decide +kernel
theorem dX12_plan_217 : decode cX12_plan 217 = .ok (.bipush 12, 2) := by decide +kernel
theorem dX12_plan_219 : decode cX12_plan 219 = .ok (.bipush 15, 2) := by decide +kernel
theorem dX12_plan_221 : decode cX12_plan 221 = .ok (.iload 7, 2) := by decide +kernel
theorem dX12_plan_223 : decode cX12_plan 223 = .ok (.imul, 1) := by decide +kernel
theorem dX12_plan_224 : decode cX12_plan 224 = .ok (.iload 9, 2) := by decide +kernel
theorem dX12_plan_226 : decode cX12_plan 226 = .ok (.iadd, 1) := by decide +kernel
theorem dX12_plan_227 : decode cX12_plan 227 = .ok (.imul, 1) := by decide +kernel
theorem dX12_plan_228 : decode cX12_plan 228 = .ok (.iload 12, 2) := by decide +kernel
theorem dX12_plan_230 : decode cX12_plan 230 = .ok (.iadd, 1) := by decide +kernel
theorem dX12_plan_231 : decode cX12_plan 231 = .ok (.aload_n 0, 1) := by decide +kernel
theorem dX12_plan_232 : decode cX12_plan 232 = .ok (.getfield 96, 3) := by decide +kernel
theorem dX12_plan_235 : decode cX12_plan 235 = .ok (.bipush 15, 2) := by decide +kernel
theorem dX12_plan_237 : decode cX12_plan 237 = .ok (.iload 7, 2) := by decide +kernel
theorem dX12_plan_239 : decode cX12_plan 239 = .ok (.imul, 1) := by decide +kernel
theorem dX12_plan_240 : decode cX12_plan 240 = .ok (.iload 9, 2) := by decide +kernel
theorem dX12_plan_242 : decode cX12_plan 242 = .ok (.iadd, 1) := by decide +kernel
theorem dX12_plan_243 : decode cX12_plan 243 = .ok (.baload, 1) := by decide +kernel
theorem dX12_plan_244 : decode cX12_plan 244 = .ok (.ifCond .eq 28, 3) := by decide +kernel
theorem dX12_plan_247 : decode cX12_plan 247 = .ok (.aload_n 0, 1) := by decide +kernel
theorem dX12_plan_248 : decode cX12_plan 248 = .ok (.iload 12, 2) := by decide +kernel
theorem dX12_plan_250 : decode cX12_plan 250 = .ok (.iload_n 1, 1) := by decide +kernel
theorem dX12_plan_251 : decode cX12_plan 251 = .ok (.iload 10, 2) := by decide +kernel
theorem dX12_plan_253 : decode cX12_plan 253 = .ok (.iload 11, 2) := by decide +kernel
theorem dX12_plan_255 : decode cX12_plan 255 = .ok (.aload_n 0, 1) := by decide +kernel
theorem dX12_plan_256 : decode cX12_plan 256 = .ok (.iload 12, 2) := by decide +kernel
theorem dX12_plan_258 : decode cX12_plan 258 = .ok (.iload_n 1, 1) := by decide +kernel
theorem dX12_plan_259 : decode cX12_plan 259 = .ok (.iload 10, 2) := by decide +kernel
theorem dX12_plan_261 : decode cX12_plan 261 = .ok (.iload 11, 2) := by decide +kernel
theorem dX12_plan_263 : decode cX12_plan 263 = .ok (.invokevirtual 205, 3) := by decide +kernel
theorem dX12_plan_266 : decode cX12_plan 266 = .ok (.invokevirtual 230, 3) := by decide +kernel
theorem dX12_plan_269 : decode cX12_plan 269 = .ok (.goto 4, 3) := by decide +kernel
theorem dX12_plan_272 : decode cX12_plan 272 = .ok (.iconst 0, 1) := by decide +kernel
theorem dX12_plan_273 : decode cX12_plan 273 = .ok (.iastore, 1) := by decide +kernel
theorem dX12_plan_274 : decode cX12_plan 274 = .ok (.iinc 12 1, 3) := by decide +kernel
theorem dX12_plan_277 : decode cX12_plan 277 = .ok (.goto (-73), 3) := by decide +kernel
theorem dX12_plan_280 : decode cX12_plan 280 = .ok (.iinc 9 1, 3) := by decide +kernel
theorem dX12_plan_283 : decode cX12_plan 283 = .ok (.goto (-167), 3) := by decide +kernel
theorem dX12_plan_286 : decode cX12_plan 286 = .ok (.iload 8, 2) := by decide +kernel
theorem dX12_plan_288 : decode cX12_plan 288 = .ok (.ifCond .eq 6, 3) := by decide +kernel
theorem dX12_plan_291 : decode cX12_plan 291 = .ok (.goto 14, 3) := by decide +kernel
theorem dX12_plan_294 : decode cX12_plan 294 = .ok (.aload_n 0, 1) := by decide +kernel
theorem dX12_plan_295 : decode cX12_plan 295 = .ok (.aload_n 0, 1) := by decide +kernel
theorem dX12_plan_296 : decode cX12_plan 296 = .ok (.iload_n 1, 1) := by decide +kernel
theorem dX12_plan_297 : decode cX12_plan 297 = .ok (.invokevirtual 234, 3) := by decide +kernel
theorem dX12_plan_300 : decode cX12_plan 300 = .ok (.putfield 227, 3) := by decide +kernel
theorem dX12_plan_303 : decode cX12_plan 303 = .ok (.iconst (-1), 1) := by decide +kernel
theorem dX12_plan_304 : decode cX12_plan 304 = .ok (.ireturn, 1) := by decide +kernel
theorem dX12_plan_305 : decode cX12_plan 305 = .ok (.iinc 7 1, 3) := by decide +kernel
theorem dX12_plan_308 : decode cX12_plan 308 = .ok (.goto (-225), 3) := by decide +kernel
theorem dX12_plan_311 : decode cX12_plan 311 = .ok (.iconst 0, 1) := by decide +kernel
theorem dX12_plan_312 : decode cX12_plan 312 = .ok (.istore 7, 2) := by decide +kernel
theorem dX12_plan_314 : decode cX12_plan 314 = .ok (.iconst 0, 1) := by decide +kernel
theorem dX12_plan_315 : decode cX12_plan 315 = .ok (.istore 8, 2) := by decide +kernel
theorem dX12_plan_317 : decode cX12_plan 317 = .ok (.iload 8, 2) := by decide +kernel
theorem dX12_plan_319 : decode cX12_plan 319 = .ok (.iload 6, 2) := by decide +kernel
theorem dX12_plan_321 : decode cX12_plan 321 = .ok (.if_icmp .ge 17, 3) := by decide +kernel
theorem dX12_plan_324 : decode cX12_plan 324 = .ok (.aload_n 0, 1) := by decide +kernel
theorem dX12_plan_325 : decode cX12_plan 325 = .ok (.getfield 102, 3) := by decide +kernel
theorem dX12_plan_328 : decode cX12_plan 328 = .ok (.iload 8, 2) := by decide +kernel
theorem dX12_plan_330 : decode cX12_plan 330 = .ok (.iconst 0, 1) := by decide +kernel
theorem dX12_plan_331 : decode cX12_plan 331 = .ok (.iastore, 1) := by decide +kernel
theorem dX12_plan_332 : decode cX12_plan 332 = .ok (.iinc 8 1, 3) := by decide +kernel
theorem dX12_plan_335 : decode cX12_plan 335 = .ok (.goto (-18), 3) := by decide +kernel
theorem dX12_plan_338 : decode cX12_plan 338 = .ok (.iconst 1, 1) := by decide +kernel
theorem dX12_plan_339 : decode cX12_plan 339 = .ok (.istore 8, 2) := by decide +kernel
theorem dX12_plan_341 : decode cX12_plan 341 = .ok (.iload 8, 2) := by decide +kernel
theorem dX12_plan_343 : decode cX12_plan 343 = .ok (.ifCond .eq 259, 3) := by decide +kernel
theorem dX12_plan_346 : decode cX12_plan 346 = .ok (.iconst 1, 1) := by decide +kernel
theorem dX12_plan_347 : decode cX12_plan 347 = .ok (.istore 9, 2) := by decide +kernel
theorem dX12_plan_349 : decode cX12_plan 349 = .ok (.iconst 0, 1) := by decide +kernel
theorem dX12_plan_350 : decode cX12_plan 350 = .ok (.istore 10, 2) := by decide +kernel
theorem dX12_plan_352 : decode cX12_plan 352 = .ok (.iload 10, 2) := by decide +kernel
theorem dX12_plan_354 : decode cX12_plan 354 = .ok (.iload 6, 2) := by decide +kernel
theorem dX12_plan_356 : decode cX12_plan 356 = .ok (.if_icmp .ge 42, 3) := by decide +kernel
theorem dX12_plan_359 : decode cX12_plan 359 = .ok (.iload 9, 2) := by decide +kernel
theorem dX12_plan_361 : decode cX12_plan 361 = .ok (.ifCond .eq 28, 3) := by decide +kernel
theorem dX12_plan_364 : decode cX12_plan 364 = .ok (.aload_n 0, 1) := by decide +kernel
theorem dX12_plan_365 : decode cX12_plan 365 = .ok (.getfield 96, 3) := by decide +kernel
theorem dX12_plan_368 : decode cX12_plan 368 = .ok (.bipush 15, 2) := by decide +kernel
theorem dX12_plan_370 : decode cX12_plan 370 = .ok (.iload 10, 2) := by decide +kernel
theorem dX12_plan_372 : decode cX12_plan 372 = .ok (.imul, 1) := by decide +kernel
theorem dX12_plan_373 : decode cX12_plan 373 = .ok (.aload_n 0, 1) := by decide +kernel
theorem dX12_plan_374 : decode cX12_plan 374 = .ok (.getfield 102, 3) := by decide +kernel
theorem dX12_plan_377 : decode cX12_plan 377 = .ok (.iload 10, 2) := by decide +kernel
theorem dX12_plan_379 : decode cX12_plan 379 = .ok (.iaload, 1) := by decide +kernel
theorem dX12_plan_380 : decode cX12_plan 380 = .ok (.iadd, 1) := by decide +kernel
theorem dX12_plan_381 : decode cX12_plan 381 = .ok (.baload, 1) := by decide +kernel
theorem dX12_plan_382 : decode cX12_plan 382 = .ok (.ifCond .eq 7, 3) := by decide +kernel
theorem dX12_plan_385 : decode cX12_plan 385 = .ok (.iconst 1, 1) := by decide +kernel
theorem dX12_plan_386 : decode cX12_plan 386 = .ok (.goto 4, 3) := by decide +kernel
theorem dX12_plan_389 : decode cX12_plan 389 = .ok (.iconst 0, 1) := by decide +kernel
theorem dX12_plan_390 : decode cX12_plan 390 = .ok (.istore 9, 2) := by decide +kernel
theorem dX12_plan_392 : decode cX12_plan 392 = .ok (.iinc 10 1, 3) := by decide +kernel
theorem dX12_plan_395 : decode cX12_plan 395 = .ok (.goto (-43), 3) := by decide +kernel
theorem dX12_plan_398 : decode cX12_plan 398 = .ok (.iload 9, 2) := by decide +kernel
theorem dX12_plan_400 : decode cX12_plan 400 = .ok (.ifCond .eq 132, 3) := by decide +kernel
theorem dX12_plan_403 : decode cX12_plan 403 = .ok (.iconst 0, 1) := by decide +kernel
theorem dX12_plan_404 : decode cX12_plan 404 = .ok (.istore 10, 2) := by decide +kernel
theorem dX12_plan_406 : decode cX12_plan 406 = .ok (.iload 10, 2) := by decide +kernel
theorem dX12_plan_408 : decode cX12_plan 408 = .ok (.aload_n 0, 1) := by decide +kernel
theorem dX12_plan_409 : decode cX12_plan 409 = .ok (.getfield 123, 3) := by decide +kernel
theorem dX12_plan_412 : decode cX12_plan 412 = .ok (.if_icmp .ge 67, 3) := by decide +kernel
theorem dX12_plan_415 : decode cX12_plan 415 = .ok (.aload_n 0, 1) := by decide +kernel
theorem dX12_plan_416 : decode cX12_plan 416 = .ok (.getfield 87, 3) := by decide +kernel
theorem dX12_plan_419 : decode cX12_plan 419 = .ok (.iload 10, 2) := by decide +kernel
theorem dX12_plan_421 : decode cX12_plan 421 = .ok (.iconst 0, 1) := by decide +kernel
theorem dX12_plan_422 : decode cX12_plan 422 = .ok (.iastore, 1) := by decide +kernel
theorem dX12_plan_423 : decode cX12_plan 423 = .ok (.iconst 0, 1) := by decide +kernel
theorem dX12_plan_424 : decode cX12_plan 424 = .ok (.istore 11, 2) := by decide +kernel
theorem dX12_plan_426 : decode cX12_plan 426 = .ok (.iload 11, 2) := by decide +kernel
theorem dX12_plan_428 : decode cX12_plan 428 = .ok (.iload 6, 2) := by decide +kernel
theorem dX12_plan_430 : decode cX12_plan 430 = .ok (.if_icmp .ge 43, 3) := by decide +kernel
theorem dX12_plan_433 : decode cX12_plan 433 = .ok (.aload_n 0, 1) := by decide +kernel
theorem dX12_plan_434 : decode cX12_plan 434 = .ok (.getfield 87, 3) := by decide +kernel
theorem dX12_plan_437 : decode cX12_plan 437 = .ok (.iload 10, 2) := by decide +kernel
theorem dX12_plan_439 : decode cX12_plan 439 = .ok (.dup2, 1) := by decide +kernel
theorem dX12_plan_440 : decode cX12_plan 440 = .ok (.iaload, 1) := by decide +kernel
theorem dX12_plan_441 : decode cX12_plan 441 = .ok (.aload_n 0, 1) := by decide +kernel
theorem dX12_plan_442 : decode cX12_plan 442 = .ok (.getfield 99, 3) := by decide +kernel
theorem dX12_plan_445 : decode cX12_plan 445 = .ok (.bipush 12, 2) := by decide +kernel
theorem dX12_plan_447 : decode cX12_plan 447 = .ok (.bipush 15, 2) := by decide +kernel
theorem dX12_plan_449 : decode cX12_plan 449 = .ok (.iload 11, 2) := by decide +kernel
theorem dX12_plan_451 : decode cX12_plan 451 = .ok (.imul, 1) := by decide +kernel
theorem dX12_plan_452 : decode cX12_plan 452 = .ok (.aload_n 0, 1) := by decide +kernel
theorem dX12_plan_453 : decode cX12_plan 453 = .ok (.getfield 102, 3) := by decide +kernel
theorem dX12_plan_456 : decode cX12_plan 456 = .ok (.iload 11, 2) := by decide +kernel
theorem dX12_plan_458 : decode cX12_plan 458 = .ok (.iaload, 1) := by decide +kernel
theorem dX12_plan_459 : decode cX12_plan 459 = .ok (.iadd, 1) := by decide +kernel
theorem dX12_plan_460 : decode cX12_plan 460 = .ok (.imul, 1) := by decide +kernel
theorem dX12_plan_461 : decode cX12_plan 461 = .ok (.iload 10, 2) := by decide +kernel
theorem dX12_plan_463 : decode cX12_plan 463 = .ok (.iadd, 1) := by decide +kernel
theorem dX12_plan_464 : decode cX12_plan 464 = .ok (.iaload, 1) := by decide +kernel
theorem dX12_plan_465 : decode cX12_plan 465 = .ok (.iadd, 1) := by decide +kernel
theorem dX12_plan_466 : decode cX12_plan 466 = .ok (.iastore, 1) := by decide +kernel
theorem dX12_plan_467 : decode cX12_plan 467 = .ok (.iinc 11 1, 3) := by decide +kernel
theorem dX12_plan_470 : decode cX12_plan 470 = .ok (.goto (-44), 3) := by decide +kernel
theorem dX12_plan_473 : decode cX12_plan 473 = .ok (.iinc 10 1, 3) := by decide +kernel
theorem dX12_plan_476 : decode cX12_plan 476 = .ok (.goto (-70), 3) := by decide +kernel
theorem dX12_plan_479 : decode cX12_plan 479 = .ok (.aload_n 0, 1) := by decide +kernel
theorem dX12_plan_480 : decode cX12_plan 480 = .ok (.invokevirtual 238, 3) := by decide +kernel
theorem dX12_plan_483 : decode cX12_plan 483 = .ok (.iload 7, 2) := by decide +kernel
theorem dX12_plan_485 : decode cX12_plan 485 = .ok (.ifCond .eq 10, 3) := by decide +kernel
theorem dX12_plan_488 : decode cX12_plan 488 = .ok (.aload_n 0, 1) := by decide +kernel
theorem dX12_plan_489 : decode cX12_plan 489 = .ok (.invokevirtual 241, 3) := by decide +kernel
theorem dX12_plan_492 : decode cX12_plan 492 = .ok (.ifCond .eq 40, 3) := by decide +kernel
theorem dX12_plan_495 : decode cX12_plan 495 = .ok (.iconst 1, 1) := by decide +kernel
theorem dX12_plan_496 : decode cX12_plan 496 = .ok (.istore 7, 2) := by decide +kernel
theorem dX12_plan_498 : decode cX12_plan 498 = .ok (.aload_n 0, 1) := by decide +kernel
theorem dX12_plan_499 : decode cX12_plan 499 = .ok (.invokevirtual 245, 3) := by decide +kernel
theorem dX12_plan_502 : decode cX12_plan 502 = .ok (.iconst 0, 1) := by decide +kernel
theorem dX12_plan_503 : decode cX12_plan 503 = .ok (.istore 10, 2) := by decide +kernel
theorem dX12_plan_505 : decode cX12_plan 505 = .ok (.iload 10, 2) := by decide +kernel
theorem dX12_plan_507 : decode cX12_plan 507 = .ok (.iload 6, 2) := by decide +kernel
theorem dX12_plan_509 : decode cX12_plan 509 = .ok (.if_icmp .ge 23, 3) := by decide +kernel
theorem dX12_plan_512 : decode cX12_plan 512 = .ok (.aload_n 0, 1) := by decide +kernel
theorem dX12_plan_513 : decode cX12_plan 513 = .ok (.getfield 105, 3) := by decide +kernel
theorem dX12_plan_516 : decode cX12_plan 516 = .ok (.iload 10, 2) := by decide +kernel
theorem dX12_plan_518 : decode cX12_plan 518 = .ok (.aload_n 0, 1) := by decide +kernel
theorem dX12_plan_519 : decode cX12_plan 519 = .ok (.getfield 102, 3) := by decide +kernel
theorem dX12_plan_522 : decode cX12_plan 522 = .ok (.iload 10, 2) := by decide +kernel
theorem dX12_plan_524 : decode cX12_plan 524 = .ok (.iaload, 1) := by decide +kernel
theorem dX12_plan_525 : decode cX12_plan 525 = .ok (.iastore, 1) := by decide +kernel
theorem dX12_plan_526 : decode cX12_plan 526 = .ok (.iinc 10 1, 3) := by decide +kernel
theorem dX12_plan_529 : decode cX12_plan 529 = .ok (.goto (-24), 3) := by decide +kernel
theorem dX12_plan_532 : decode cX12_plan 532 = .ok (.iload 6, 2) := by decide +kernel
theorem dX12_plan_534 : decode cX12_plan 534 = .ok (.iconst 1, 1) := by decide +kernel
theorem dX12_plan_535 : decode cX12_plan 535 = .ok (.isub, 1) := by decide +kernel
theorem dX12_plan_536 : decode cX12_plan 536 = .ok (.istore 10, 2) := by decide +kernel
theorem dX12_plan_538 : decode cX12_plan 538 = .ok (.iload 10, 2) := by decide +kernel
theorem dX12_plan_540 : decode cX12_plan 540 = .ok (.ifCond .lt 31, 3) := by decide +kernel
theorem dX12_plan_543 : decode cX12_plan 543 = .ok (.aload_n 0, 1) := by decide +kernel
theorem dX12_plan_544 : decode cX12_plan 544 = .ok (.getfield 102, 3) := by decide +kernel
theorem dX12_plan_547 : decode cX12_plan 547 = .ok (.iload 10, 2) := by decide +kernel
theorem dX12_plan_549 : decode cX12_plan 549 = .ok (.iaload, 1) := by decide +kernel
theorem dX12_plan_550 : decode cX12_plan 550 = .ok (.iload 5, 2) := by decide +kernel
theorem dX12_plan_552 : decode cX12_plan 552 = .ok (.iconst 1, 1) := by decide +kernel
theorem dX12_plan_553 : decode cX12_plan 553 = .ok (.isub, 1) := by decide +kernel
theorem dX12_plan_554 : decode cX12_plan 554 = .ok (.if_icmp .ne 17, 3) := by decide +kernel
theorem dX12_plan_557 : decode cX12_plan 557 = .ok (.aload_n 0, 1) := by decide +kernel
theorem dX12_plan_558 : decode cX12_plan 558 = .ok (.getfield 102, 3) := by decide +kernel
theorem dX12_plan_561 : decode cX12_plan 561 = .ok (.iload 10, 2) := by decide +kernel
theorem dX12_plan_563 : decode cX12_plan 563 = .ok (.iconst 0, 1) := by decide +kernel
theorem dX12_plan_564 : decode cX12_plan 564 = .ok (.iastore, 1) := by decide +kernel
theorem dX12_plan_565 : decode cX12_plan 565 = .ok (.iinc 10 (-1), 3) := by decide +kernel
theorem dX12_plan_568 : decode cX12_plan 568 = .ok (.goto (-30), 3) := by decide +kernel
theorem dX12_plan_571 : decode cX12_plan 571 = .ok (.iload 10, 2) := by decide +kernel
theorem dX12_plan_573 : decode cX12_plan 573 = .ok (.ifCond .lt 7, 3) := by decide +kernel
theorem dX12_plan_576 : decode cX12_plan 576 = .ok (.iconst 1, 1) := by decide +kernel
theorem dX12_plan_577 : decode cX12_plan 577 = .ok (.goto 4, 3) := by decide +kernel
theorem dX12_plan_580 : decode cX12_plan 580 = .ok (.iconst 0, 1) := by decide +kernel
theorem dX12_plan_581 : decode cX12_plan 581 = .ok (.istore 8, 2) := by decide +kernel
theorem dX12_plan_583 : decode cX12_plan 583 = .ok (.iload 8, 2) := by decide +kernel
theorem dX12_plan_585 : decode cX12_plan 585 = .ok (.ifCond .eq 14, 3) := by decide +kernel
theorem dX12_plan_588 : decode cX12_plan 588 = .ok (.aload_n 0, 1) := by decide +kernel
theorem dX12_plan_589 : decode cX12_plan 589 = .ok (.getfield 102, 3) := by decide +kernel
theorem dX12_plan_592 : decode cX12_plan 592 = .ok (.iload 10, 2) := by decide +kernel
theorem dX12_plan_594 : decode cX12_plan 594 = .ok (.dup2, 1) := by decide +kernel
theorem dX12_plan_595 : decode cX12_plan 595 = .ok (.iaload, 1) := by decide +kernel
theorem dX12_plan_596 : decode cX12_plan 596 = .ok (.iconst 1, 1) := by decide +kernel
theorem dX12_plan_597 : decode cX12_plan 597 = .ok (.iadd, 1) := by decide +kernel
theorem dX12_plan_598 : decode cX12_plan 598 = .ok (.iastore, 1) := by decide +kernel
theorem dX12_plan_599 : decode cX12_plan 599 = .ok (.goto (-258), 3) := by decide +kernel
theorem dX12_plan_602 : decode cX12_plan 602 = .ok (.iconst 0, 1) := by decide +kernel
theorem dX12_plan_603 : decode cX12_plan 603 = .ok (.istore 9, 2) := by decide +kernel
theorem dX12_plan_605 : decode cX12_plan 605 = .ok (.iload 9, 2) := by decide +kernel
theorem dX12_plan_607 : decode cX12_plan 607 = .ok (.iload 6, 2) := by decide +kernel
theorem dX12_plan_609 : decode cX12_plan 609 = .ok (.if_icmp .ge 77, 3) := by decide +kernel
theorem dX12_plan_612 : decode cX12_plan 612 = .ok (.aload_n 0, 1) := by decide +kernel
theorem dX12_plan_613 : decode cX12_plan 613 = .ok (.getfield 63, 3) := by decide +kernel
theorem dX12_plan_616 : decode cX12_plan 616 = .ok (.iconst 2, 1) := by decide +kernel
theorem dX12_plan_617 : decode cX12_plan 617 = .ok (.bipush 52, 2) := by decide +kernel
theorem dX12_plan_619 : decode cX12_plan 619 = .ok (.iload_n 1, 1) := by decide +kernel
theorem dX12_plan_620 : decode cX12_plan 620 = .ok (.imul, 1) := by decide +kernel
theorem dX12_plan_621 : decode cX12_plan 621 = .ok (.iload_n 2, 1) := by decide +kernel
theorem dX12_plan_622 : decode cX12_plan 622 = .ok (.iadd, 1) := by decide +kernel
theorem dX12_plan_623 : decode cX12_plan 623 = .ok (.iload 9, 2) := by decide +kernel
theorem dX12_plan_625 : decode cX12_plan 625 = .ok (.iadd, 1) := by decide +kernel
theorem dX12_plan_626 : decode cX12_plan 626 = .ok (.imul, 1) := by decide +kernel
theorem dX12_plan_627 : decode cX12_plan 627 = .ok (.aload_n 0, 1) := by decide +kernel
theorem dX12_plan_628 : decode cX12_plan 628 = .ok (.getfield 78, 3) := by decide +kernel
theorem dX12_plan_631 : decode cX12_plan 631 = .ok (.bipush 15, 2) := by decide +kernel
theorem dX12_plan_633 : decode cX12_plan 633 = .ok (.iload_n 1, 1) := by decide +kernel
theorem dX12_plan_634 : decode cX12_plan 634 = .ok (.imul, 1) := by decide +kernel
theorem dX12_plan_635 : decode cX12_plan 635 = .ok (.aload_n 0, 1) := by decide +kernel
theorem dX12_plan_636 : decode cX12_plan 636 = .ok (.getfield 105, 3) := by decide +kernel
theorem dX12_plan_639 : decode cX12_plan 639 = .ok (.iload 9, 2) := by decide +kernel
theorem dX12_plan_641 : decode cX12_plan 641 = .ok (.iaload, 1) := by decide +kernel
theorem dX12_plan_642 : decode cX12_plan 642 = .ok (.iadd, 1) := by decide +kernel
theorem dX12_plan_643 : decode cX12_plan 643 = .ok (.iaload, 1) := by decide +kernel
theorem dX12_plan_644 : decode cX12_plan 644 = .ok (.iastore, 1) := by decide +kernel
theorem dX12_plan_645 : decode cX12_plan 645 = .ok (.aload_n 0, 1) := by decide +kernel
theorem dX12_plan_646 : decode cX12_plan 646 = .ok (.getfield 63, 3) := by decide +kernel
theorem dX12_plan_649 : decode cX12_plan 649 = .ok (.iconst 2, 1) := by decide +kernel
theorem dX12_plan_650 : decode cX12_plan 650 = .ok (.bipush 52, 2) := by decide +kernel
theorem dX12_plan_652 : decode cX12_plan 652 = .ok (.iload_n 1, 1) := by decide +kernel
theorem dX12_plan_653 : decode cX12_plan 653 = .ok (.imul, 1) := by decide +kernel
theorem dX12_plan_654 : decode cX12_plan 654 = .ok (.iload_n 2, 1) := by decide +kernel
theorem dX12_plan_655 : decode cX12_plan 655 = .ok (.iadd, 1) := by decide +kernel
theorem dX12_plan_656 : decode cX12_plan 656 = .ok (.iload 9, 2) := by decide +kernel
theorem dX12_plan_658 : decode cX12_plan 658 = .ok (.iadd, 1) := by decide +kernel
theorem dX12_plan_659 : decode cX12_plan 659 = .ok (.imul, 1) := by decide +kernel
theorem dX12_plan_660 : decode cX12_plan 660 = .ok (.iconst 1, 1) := by decide +kernel
theorem dX12_plan_661 : decode cX12_plan 661 = .ok (.iadd, 1) := by decide +kernel
theorem dX12_plan_662 : decode cX12_plan 662 = .ok (.aload_n 0, 1) := by decide +kernel
theorem dX12_plan_663 : decode cX12_plan 663 = .ok (.getfield 81, 3) := by decide +kernel
theorem dX12_plan_666 : decode cX12_plan 666 = .ok (.bipush 15, 2) := by decide +kernel
theorem dX12_plan_668 : decode cX12_plan 668 = .ok (.iload_n 1, 1) := by decide +kernel
theorem dX12_plan_669 : decode cX12_plan 669 = .ok (.imul, 1) := by decide +kernel
theorem dX12_plan_670 : decode cX12_plan 670 = .ok (.aload_n 0, 1) := by decide +kernel
theorem dX12_plan_671 : decode cX12_plan 671 = .ok (.getfield 105, 3) := by decide +kernel
theorem dX12_plan_674 : decode cX12_plan 674 = .ok (.iload 9, 2) := by decide +kernel
theorem dX12_plan_676 : decode cX12_plan 676 = .ok (.iaload, 1) := by decide +kernel
theorem dX12_plan_677 : decode cX12_plan 677 = .ok (.iadd, 1) := by decide +kernel
theorem dX12_plan_678 : decode cX12_plan 678 = .ok (.iaload, 1) := by decide +kernel
theorem dX12_plan_679 : decode cX12_plan 679 = .ok (.iastore, 1) := by decide +kernel
theorem dX12_plan_680 : decode cX12_plan 680 = .ok (.iinc 9 1, 3) := by decide +kernel
theorem dX12_plan_683 : decode cX12_plan 683 = .ok (.goto (-78), 3) := by decide +kernel
theorem dX12_plan_686 : decode cX12_plan 686 = .ok (.aload_n 0, 1) := by decide +kernel
theorem dX12_plan_687 : decode cX12_plan 687 = .ok (.getfield 123, 3) := by decide +kernel
theorem dX12_plan_690 : decode cX12_plan 690 = .ok (.ifCond .ne 7, 3) := by decide +kernel
theorem dX12_plan_693 : decode cX12_plan 693 = .ok (.iconst 0, 1) := by decide +kernel
theorem dX12_plan_694 : decode cX12_plan 694 = .ok (.goto 9, 3) := by decide +kernel
theorem dX12_plan_697 : decode cX12_plan 697 = .ok (.aload_n 0, 1) := by decide +kernel
theorem dX12_plan_698 : decode cX12_plan 698 = .ok (.getfield 93, 3) := by decide +kernel
theorem dX12_plan_701 : decode cX12_plan 701 = .ok (.iconst 0, 1) := by decide +kernel
theorem dX12_plan_702 : decode cX12_plan 702 = .ok (.iaload, 1) := by decide +kernel
theorem dX12_plan_703 : decode cX12_plan 703 = .ok (.ireturn, 1) := by decide +kernel
theorem dX12_goesFor_0 : decode cX12_goesFor 0 = .ok (.iconst 0, 1) := by decide +kernel
theorem dX12_goesFor_1 : decode cX12_goesFor 1 = .ok (.istore_n 3, 1) := by decide +kernel
theorem dX12_goesFor_2 : decode cX12_goesFor 2 = .ok (.iload_n 3, 1) := by decide +kernel
theorem dX12_goesFor_3 : decode cX12_goesFor 3 = .ok (.aload_n 0, 1) := by decide +kernel
theorem dX12_goesFor_4 : decode cX12_goesFor 4 = .ok (.getfield 84, 3) := by decide +kernel
theorem dX12_goesFor_7 : decode cX12_goesFor 7 = .ok (.iload_n 1, 1) := by decide +kernel
theorem dX12_goesFor_8 : decode cX12_goesFor 8 = .ok (.iaload, 1) := by decide +kernel
theorem dX12_goesFor_9 : decode cX12_goesFor 9 = .ok (.if_icmp .ge 218, 3) := by decide +kernel
theorem dX12_goesFor_12 : decode cX12_goesFor 12 = .ok (.aload_n 0, 1) := by decide +kernel
theorem dX12_goesFor_13 : decode cX12_goesFor 13 = .ok (.getfield 78, 3) := by decide +kernel
theorem dX12_goesFor_16 : decode cX12_goesFor 16 = .ok (.bipush 15, 2) := by decide +kernel
theorem dX12_goesFor_18 : decode cX12_goesFor 18 = .ok (.iload_n 1, 1) := by decide +kernel
theorem dX12_goesFor_19 : decode cX12_goesFor 19 = .ok (.imul, 1) := by decide +kernel
theorem dX12_goesFor_20 : decode cX12_goesFor 20 = .ok (.iload_n 3, 1) := by decide +kernel
theorem dX12_goesFor_21 : decode cX12_goesFor 21 = .ok (.iadd, 1) := by decide +kernel
theorem dX12_goesFor_22 : decode cX12_goesFor 22 = .ok (.iaload, 1) := by decide +kernel
theorem dX12_goesFor_23 : decode cX12_goesFor 23 = .ok (.istore 4, 2) := by decide +kernel
theorem dX12_goesFor_25 : decode cX12_goesFor 25 = .ok (.aload_n 0, 1) := by decide +kernel
theorem dX12_goesFor_26 : decode cX12_goesFor 26 = .ok (.getfield 81, 3) := by decide +kernel
theorem dX12_goesFor_29 : decode cX12_goesFor 29 = .ok (.bipush 15, 2) := by decide +kernel
theorem dX12_goesFor_31 : decode cX12_goesFor 31 = .ok (.iload_n 1, 1) := by decide +kernel
theorem dX12_goesFor_32 : decode cX12_goesFor 32 = .ok (.imul, 1) := by decide +kernel
theorem dX12_goesFor_33 : decode cX12_goesFor 33 = .ok (.iload_n 3, 1) := by decide +kernel
theorem dX12_goesFor_34 : decode cX12_goesFor 34 = .ok (.iadd, 1) := by decide +kernel
theorem dX12_goesFor_35 : decode cX12_goesFor 35 = .ok (.iaload, 1) := by decide +kernel
theorem dX12_goesFor_36 : decode cX12_goesFor 36 = .ok (.istore 5, 2) := by decide +kernel
theorem dX12_goesFor_38 : decode cX12_goesFor 38 = .ok (.aload_n 0, 1) := by decide +kernel
theorem dX12_goesFor_39 : decode cX12_goesFor 39 = .ok (.iload_n 1, 1) := by decide +kernel
theorem dX12_goesFor_40 : decode cX12_goesFor 40 = .ok (.iload 4, 2) := by decide +kernel
theorem dX12_goesFor_42 : decode cX12_goesFor 42 = .ok (.invokevirtual 193, 3) := by decide +kernel
theorem dX12_goesFor_45 : decode cX12_goesFor 45 = .ok (.ifCond .eq 176, 3) := by decide +kernel
theorem dX12_goesFor_48 : decode cX12_goesFor 48 = .ok (.iload 5, 2) := by decide +kernel
theorem dX12_goesFor_50 : decode cX12_goesFor 50 = .ok (.iconst (-1), 1) := by decide +kernel
theorem dX12_goesFor_51 : decode cX12_goesFor 51 = .ok (.if_icmp .eq 29, 3) := by decide +kernel
theorem dX12_goesFor_54 : decode cX12_goesFor 54 = .ok (.aload_n 0, 1) := by decide +kernel
theorem dX12_goesFor_55 : decode cX12_goesFor 55 = .ok (.iload_n 1, 1) := by decide +kernel
theorem dX12_goesFor_56 : decode cX12_goesFor 56 = .ok (.iload 5, 2) := by decide +kernel
theorem dX12_goesFor_58 : decode cX12_goesFor 58 = .ok (.invokevirtual 193, 3) := by decide +kernel
theorem dX12_goesFor_61 : decode cX12_goesFor 61 = .ok (.ifCond .eq 160, 3) := by decide +kernel
theorem dX12_goesFor_64 : decode cX12_goesFor 64 = .ok (.aload_n 0, 1) := by decide +kernel
theorem dX12_goesFor_65 : decode cX12_goesFor 65 = .ok (.iload_n 1, 1) := by decide +kernel
theorem dX12_goesFor_66 : decode cX12_goesFor 66 = .ok (.iload 4, 2) := by decide +kernel
theorem dX12_goesFor_68 : decode cX12_goesFor 68 = .ok (.iload_n 1, 1) := by decide +kernel
theorem dX12_goesFor_69 : decode cX12_goesFor 69 = .ok (.iload 5, 2) := by decide +kernel
theorem dX12_goesFor_71 : decode cX12_goesFor 71 = .ok (.invokevirtual 190, 3) := by decide +kernel
theorem dX12_goesFor_74 : decode cX12_goesFor 74 = .ok (.ifCond .eq 6, 3) := by decide +kernel
theorem dX12_goesFor_77 : decode cX12_goesFor 77 = .ok (.goto 144, 3) := by decide +kernel
theorem dX12_goesFor_80 : decode cX12_goesFor 80 = .ok (.iconst 1, 1) := by decide +kernel
theorem dX12_goesFor_81 : decode cX12_goesFor 81 = .ok (.istore 6, 2) := by decide +kernel
theorem dX12_goesFor_83 : decode cX12_goesFor 83 = .ok (.iconst 0, 1) := by decide +kernel
theorem dX12_goesFor_84 : decode cX12_goesFor 84 = .ok (.istore 7, 2) := by decide +kernel
theorem dX12_goesFor_86 : decode cX12_goesFor 86 = .ok (.iload 7, 2) := by decide +kernel
theorem dX12_goesFor_88 : decode cX12_goesFor 88 = .ok (.aload_n 0, 1) := by decide +kernel
theorem dX12_goesFor_89 : decode cX12_goesFor 89 = .ok (.getfield 123, 3) := by decide +kernel
theorem dX12_goesFor_92 : decode cX12_goesFor 92 = .ok (.if_icmp .ge 122, 3) := by decide +kernel
theorem dX12_goesFor_95 : decode cX12_goesFor 95 = .ok (.iload 6, 2) := by decide +kernel
theorem dX12_goesFor_97 : decode cX12_goesFor 97 = .ok (.ifCond .eq 117, 3) := by decide +kernel
theorem dX12_goesFor_100 : decode cX12_goesFor 100 = .ok (.iload_n 2, 1) := by decide +kernel
theorem dX12_goesFor_101 : decode cX12_goesFor 101 = .ok (.iload 7, 2) := by decide +kernel
theorem dX12_goesFor_103 : decode cX12_goesFor 103 = .ok (.ishr, 1) := by decide +kernel
theorem dX12_goesFor_104 : decode cX12_goesFor 104 = .ok (.iconst 1, 1) := by decide +kernel
theorem dX12_goesFor_105 : decode cX12_goesFor 105 = .ok (.iand, 1) := by decide +kernel
theorem dX12_goesFor_106 : decode cX12_goesFor 106 = .ok (.ifCond .ne 6, 3) := by decide +kernel
theorem dX12_goesFor_109 : decode cX12_goesFor 109 = .ok (.goto 99, 3) := by decide +kernel
theorem dX12_goesFor_112 : decode cX12_goesFor 112 = .ok (.aload_n 0, 1) := by decide +kernel
theorem dX12_goesFor_113 : decode cX12_goesFor 113 = .ok (.getfield 75, 3) := by decide +kernel
theorem dX12_goesFor_116 : decode cX12_goesFor 116 = .ok (.bipush 6, 2) := by decide +kernel
theorem dX12_goesFor_118 : decode cX12_goesFor 118 = .ok (.iload 7, 2) := by decide +kernel
theorem dX12_goesFor_120 : decode cX12_goesFor 120 = .ok (.imul, 1) := by decide +kernel
theorem dX12_goesFor_121 : decode cX12_goesFor 121 = .ok (.iload 4, 2) := by decide +kernel
theorem dX12_goesFor_123 : decode cX12_goesFor 123 = .ok (.iadd, 1) := by decide +kernel
theorem dX12_goesFor_124 : decode cX12_goesFor 124 = .ok (.baload, 1) := by decide +kernel
theorem dX12_goesFor_125 : decode cX12_goesFor 125 = .ok (.istore 8, 2) := by decide +kernel
theorem dX12_goesFor_127 : decode cX12_goesFor 127 = .ok (.iload 5, 2) := by decide +kernel
theorem dX12_goesFor_129 : decode cX12_goesFor 129 = .ok (.iconst (-1), 1) := by decide +kernel
theorem dX12_goesFor_130 : decode cX12_goesFor 130 = .ok (.if_icmp .eq 23, 3) := by decide +kernel
theorem dX12_goesFor_133 : decode cX12_goesFor 133 = .ok (.aload_n 0, 1) := by decide +kernel
theorem dX12_goesFor_134 : decode cX12_goesFor 134 = .ok (.getfield 75, 3) := by decide +kernel
theorem dX12_goesFor_137 : decode cX12_goesFor 137 = .ok (.bipush 6, 2) := by decide +kernel
theorem dX12_goesFor_139 : decode cX12_goesFor 139 = .ok (.iload 7, 2) := by decide +kernel
theorem dX12_goesFor_141 : decode cX12_goesFor 141 = .ok (.imul, 1) := by decide +kernel
theorem dX12_goesFor_142 : decode cX12_goesFor 142 = .ok (.iload 5, 2) := by decide +kernel
theorem dX12_goesFor_144 : decode cX12_goesFor 144 = .ok (.iadd, 1) := by decide +kernel
theorem dX12_goesFor_145 : decode cX12_goesFor 145 = .ok (.baload, 1) := by decide +kernel
theorem dX12_goesFor_146 : decode cX12_goesFor 146 = .ok (.ifCond .eq 7, 3) := by decide +kernel
theorem dX12_goesFor_149 : decode cX12_goesFor 149 = .ok (.iconst 1, 1) := by decide +kernel
theorem dX12_goesFor_150 : decode cX12_goesFor 150 = .ok (.goto 4, 3) := by decide +kernel
theorem dX12_goesFor_153 : decode cX12_goesFor 153 = .ok (.iconst 0, 1) := by decide +kernel
theorem dX12_goesFor_154 : decode cX12_goesFor 154 = .ok (.istore 9, 2) := by decide +kernel
theorem dX12_goesFor_156 : decode cX12_goesFor 156 = .ok (.iload 7, 2) := by decide +kernel
theorem dX12_goesFor_158 : decode cX12_goesFor 158 = .ok (.aload_n 0, 1) := by decide +kernel
theorem dX12_goesFor_159 : decode cX12_goesFor 159 = .ok (.getfield 51, 3) := by decide +kernel
theorem dX12_goesFor_162 : decode cX12_goesFor 162 = .ok (.iload_n 1, 1) := by decide +kernel
theorem dX12_goesFor_163 : decode cX12_goesFor 163 = .ok (.iaload, 1) := by decide +kernel
theorem dX12_goesFor_164 : decode cX12_goesFor 164 = .ok (.if_icmp .ne 27, 3) := by decide +kernel
theorem dX12_goesFor_167 : decode cX12_goesFor 167 = .ok (.iload 5, 2) := by decide +kernel
theorem dX12_goesFor_169 : decode cX12_goesFor 169 = .ok (.iconst (-1), 1) := by decide +kernel
theorem dX12_goesFor_170 : decode cX12_goesFor 170 = .ok (.if_icmp .eq 21, 3) := by decide +kernel
theorem dX12_goesFor_173 : decode cX12_goesFor 173 = .ok (.iload 8, 2) := by decide +kernel
theorem dX12_goesFor_175 : decode cX12_goesFor 175 = .ok (.ifCond .eq 12, 3) := by decide +kernel
theorem dX12_goesFor_178 : decode cX12_goesFor 178 = .ok (.iload 9, 2) := by decide +kernel
theorem dX12_goesFor_180 : decode cX12_goesFor 180 = .ok (.ifCond .eq 7, 3) := by decide +kernel
theorem dX12_goesFor_183 : decode cX12_goesFor 183 = .ok (.iconst 1, 1) := by decide +kernel
theorem dX12_goesFor_184 : decode cX12_goesFor 184 = .ok (.goto 22, 3) := by decide +kernel
theorem dX12_goesFor_187 : decode cX12_goesFor 187 = .ok (.iconst 0, 1) := by decide +kernel
theorem dX12_goesFor_188 : decode cX12_goesFor 188 = .ok (.goto 18, 3) := by decide +kernel
theorem dX12_goesFor_191 : decode cX12_goesFor 191 = .ok (.iload 8, 2) := by decide +kernel
theorem dX12_goesFor_193 : decode cX12_goesFor 193 = .ok (.ifCond .ne 8, 3) := by decide +kernel
theorem dX12_goesFor_196 : decode cX12_goesFor 196 = .ok (.iload 9, 2) := by decide +kernel
theorem dX12_goesFor_198 : decode cX12_goesFor 198 = .ok (.ifCond .eq 7, 3) := by decide +kernel
theorem dX12_goesFor_201 : decode cX12_goesFor 201 = .ok (.iconst 1, 1) := by decide +kernel
theorem dX12_goesFor_202 : decode cX12_goesFor 202 = .ok (.goto 4, 3) := by decide +kernel
theorem dX12_goesFor_205 : decode cX12_goesFor 205 = .ok (.iconst 0, 1) := by decide +kernel
theorem dX12_goesFor_206 : decode cX12_goesFor 206 = .ok (.istore 6, 2) := by decide +kernel
theorem dX12_goesFor_208 : decode cX12_goesFor 208 = .ok (.iinc 7 1, 3) := by decide +kernel
theorem dX12_goesFor_211 : decode cX12_goesFor 211 = .ok (.goto (-125), 3) := by decide +kernel
theorem dX12_goesFor_214 : decode cX12_goesFor 214 = .ok (.iload 6, 2) := by decide +kernel
theorem dX12_goesFor_216 : decode cX12_goesFor 216 = .ok (.ifCond .eq 5, 3) := by decide +kernel
theorem dX12_goesFor_219 : decode cX12_goesFor 219 = .ok (.iconst 1, 1) := by decide +kernel
theorem dX12_goesFor_220 : decode cX12_goesFor 220 = .ok (.ireturn, 1) := by decide +kernel
theorem dX12_goesFor_221 : decode cX12_goesFor 221 = .ok (.iinc 3 1, 3) := by decide +kernel
theorem dX12_goesFor_224 : decode cX12_goesFor 224 = .ok (.goto (-222), 3) := by decide +kernel
theorem dX12_goesFor_227 : decode cX12_goesFor 227 = .ok (.iconst 0, 1) := by decide +kernel
theorem dX12_goesFor_228 : decode cX12_goesFor 228 = .ok (.ireturn, 1) := by decide +kernel
theorem dX12_leastStuck_0 : decode cX12_leastStuck 0 = .ok (.iconst 0, 1) := by decide +kernel
theorem dX12_leastStuck_1 : decode cX12_leastStuck 1 = .ok (.istore_n 2, 1) := by decide +kernel
theorem dX12_leastStuck_2 : decode cX12_leastStuck 2 = .ok (.iconst 0, 1) := by decide +kernel
theorem dX12_leastStuck_3 : decode cX12_leastStuck 3 = .ok (.istore_n 3, 1) := by decide +kernel
theorem dX12_leastStuck_4 : decode cX12_leastStuck 4 = .ok (.iload_n 3, 1) := by decide +kernel
theorem dX12_leastStuck_5 : decode cX12_leastStuck 5 = .ok (.aload_n 0, 1) := by decide +kernel
theorem dX12_leastStuck_6 : decode cX12_leastStuck 6 = .ok (.getfield 123, 3) := by decide +kernel
theorem dX12_leastStuck_9 : decode cX12_leastStuck 9 = .ok (.if_icmp .ge 40, 3) := by decide +kernel
theorem dX12_leastStuck_12 : decode cX12_leastStuck 12 = .ok (.aload_n 0, 1) := by decide +kernel
theorem dX12_leastStuck_13 : decode cX12_leastStuck 13 = .ok (.getfield 60, 3) := by decide +kernel
theorem dX12_leastStuck_16 : decode cX12_leastStuck 16 = .ok (.bipush 12, 2) := by decide +kernel
theorem dX12_leastStuck_18 : decode cX12_leastStuck 18 = .ok (.iload_n 1, 1) := by decide +kernel
theorem dX12_leastStuck_19 : decode cX12_leastStuck 19 = .ok (.imul, 1) := by decide +kernel
theorem dX12_leastStuck_20 : decode cX12_leastStuck 20 = .ok (.iload_n 3, 1) := by decide +kernel
theorem dX12_leastStuck_21 : decode cX12_leastStuck 21 = .ok (.iadd, 1) := by decide +kernel
theorem dX12_leastStuck_22 : decode cX12_leastStuck 22 = .ok (.iaload, 1) := by decide +kernel
theorem dX12_leastStuck_23 : decode cX12_leastStuck 23 = .ok (.iconst 1, 1) := by decide +kernel
theorem dX12_leastStuck_24 : decode cX12_leastStuck 24 = .ok (.if_icmp .eq 13, 3) := by decide +kernel
theorem dX12_leastStuck_27 : decode cX12_leastStuck 27 = .ok (.iload_n 3, 1) := by decide +kernel
theorem dX12_leastStuck_28 : decode cX12_leastStuck 28 = .ok (.aload_n 0, 1) := by decide +kernel
theorem dX12_leastStuck_29 : decode cX12_leastStuck 29 = .ok (.getfield 51, 3) := by decide +kernel
theorem dX12_leastStuck_32 : decode cX12_leastStuck 32 = .ok (.iload_n 1, 1) := by decide +kernel
theorem dX12_leastStuck_33 : decode cX12_leastStuck 33 = .ok (.iaload, 1) := by decide +kernel
theorem dX12_leastStuck_34 : decode cX12_leastStuck 34 = .ok (.if_icmp .ne 9, 3) := by decide +kernel
theorem dX12_leastStuck_37 : decode cX12_leastStuck 37 = .ok (.iload_n 2, 1) := by decide +kernel
theorem dX12_leastStuck_38 : decode cX12_leastStuck 38 = .ok (.iconst 1, 1) := by decide +kernel
theorem dX12_leastStuck_39 : decode cX12_leastStuck 39 = .ok (.iload_n 3, 1) := by decide +kernel
theorem dX12_leastStuck_40 : decode cX12_leastStuck 40 = .ok (.ishl, 1) := by decide +kernel
theorem dX12_leastStuck_41 : decode cX12_leastStuck 41 = .ok (.ior, 1) := by decide +kernel
theorem dX12_leastStuck_42 : decode cX12_leastStuck 42 = .ok (.istore_n 2, 1) := by decide +kernel
theorem dX12_leastStuck_43 : decode cX12_leastStuck 43 = .ok (.iinc 3 1, 3) := by decide +kernel
theorem dX12_leastStuck_46 : decode cX12_leastStuck 46 = .ok (.goto (-42), 3) := by decide +kernel
theorem dX12_leastStuck_49 : decode cX12_leastStuck 49 = .ok (.aload_n 0, 1) := by decide +kernel
theorem dX12_leastStuck_50 : decode cX12_leastStuck 50 = .ok (.iload_n 1, 1) := by decide +kernel
theorem dX12_leastStuck_51 : decode cX12_leastStuck 51 = .ok (.iload_n 2, 1) := by decide +kernel
theorem dX12_leastStuck_52 : decode cX12_leastStuck 52 = .ok (.invokevirtual 248, 3) := by decide +kernel
theorem dX12_leastStuck_55 : decode cX12_leastStuck 55 = .ok (.ifCond .eq 5, 3) := by decide +kernel
theorem dX12_leastStuck_58 : decode cX12_leastStuck 58 = .ok (.iconst 0, 1) := by decide +kernel
theorem dX12_leastStuck_59 : decode cX12_leastStuck 59 = .ok (.ireturn, 1) := by decide +kernel
theorem dX12_leastStuck_60 : decode cX12_leastStuck 60 = .ok (.iload_n 2, 1) := by decide +kernel
theorem dX12_leastStuck_61 : decode cX12_leastStuck 61 = .ok (.istore_n 3, 1) := by decide +kernel
theorem dX12_leastStuck_62 : decode cX12_leastStuck 62 = .ok (.iconst 0, 1) := by decide +kernel
theorem dX12_leastStuck_63 : decode cX12_leastStuck 63 = .ok (.istore 4, 2) := by decide +kernel
theorem dX12_leastStuck_65 : decode cX12_leastStuck 65 = .ok (.iload 4, 2) := by decide +kernel
theorem dX12_leastStuck_67 : decode cX12_leastStuck 67 = .ok (.sipush 4096, 3) := by decide +kernel
theorem dX12_leastStuck_70 : decode cX12_leastStuck 70 = .ok (.if_icmp .ge 43, 3) := by decide +kernel
theorem dX12_leastStuck_73 : decode cX12_leastStuck 73 = .ok (.iload 4, 2) := by decide +kernel
theorem dX12_leastStuck_75 : decode cX12_leastStuck 75 = .ok (.iload_n 2, 1) := by decide +kernel
theorem dX12_leastStuck_76 : decode cX12_leastStuck 76 = .ok (.iconst (-1), 1) := by decide +kernel
theorem dX12_leastStuck_77 : decode cX12_leastStuck 77 = .ok (.ixor, 1) := by decide +kernel
theorem dX12_leastStuck_78 : decode cX12_leastStuck 78 = .ok (.iand, 1) := by decide +kernel
theorem dX12_leastStuck_79 : decode cX12_leastStuck 79 = .ok (.ifCond .ne 28, 3) := by decide +kernel
theorem dX12_leastStuck_82 : decode cX12_leastStuck 82 = .ok (.aload_n 0, 1) := by decide +kernel
theorem dX12_leastStuck_83 : decode cX12_leastStuck 83 = .ok (.iload_n 1, 1) := by decide +kernel
theorem dX12_leastStuck_84 : decode cX12_leastStuck 84 = .ok (.iload 4, 2) := by decide +kernel
theorem dX12_leastStuck_86 : decode cX12_leastStuck 86 = .ok (.invokevirtual 248, 3) := by decide +kernel
theorem dX12_leastStuck_89 : decode cX12_leastStuck 89 = .ok (.ifCond .eq 6, 3) := by decide +kernel
theorem dX12_leastStuck_92 : decode cX12_leastStuck 92 = .ok (.goto 15, 3) := by decide +kernel
theorem dX12_leastStuck_95 : decode cX12_leastStuck 95 = .ok (.iload 4, 2) := by decide +kernel
theorem dX12_leastStuck_97 : decode cX12_leastStuck 97 = .ok (.iload_n 3, 1) := by decide +kernel
theorem dX12_leastStuck_98 : decode cX12_leastStuck 98 = .ok (.invokestatic 251, 3) := by decide +kernel
theorem dX12_leastStuck_101 : decode cX12_leastStuck 101 = .ok (.ifCond .eq 6, 3) := by decide +kernel
theorem dX12_leastStuck_104 : decode cX12_leastStuck 104 = .ok (.iload 4, 2) := by decide +kernel
theorem dX12_leastStuck_106 : decode cX12_leastStuck 106 = .ok (.istore_n 3, 1) := by decide +kernel
theorem dX12_leastStuck_107 : decode cX12_leastStuck 107 = .ok (.iinc 4 1, 3) := by decide +kernel
theorem dX12_leastStuck_110 : decode cX12_leastStuck 110 = .ok (.goto (-45), 3) := by decide +kernel
theorem dX12_leastStuck_113 : decode cX12_leastStuck 113 = .ok (.iload_n 3, 1) := by decide +kernel
theorem dX12_leastStuck_114 : decode cX12_leastStuck 114 = .ok (.ireturn, 1) := by decide +kernel
theorem dX12_bits_0 : decode cX12_bits 0 = .ok (.iconst 0, 1) := by decide +kernel
theorem dX12_bits_1 : decode cX12_bits 1 = .ok (.istore_n 1, 1) := by decide +kernel
theorem dX12_bits_2 : decode cX12_bits 2 = .ok (.iconst 0, 1) := by decide +kernel
theorem dX12_bits_3 : decode cX12_bits 3 = .ok (.istore_n 2, 1) := by decide +kernel
theorem dX12_bits_4 : decode cX12_bits 4 = .ok (.iload_n 2, 1) := by decide +kernel
theorem dX12_bits_5 : decode cX12_bits 5 = .ok (.bipush 12, 2) := by decide +kernel
theorem dX12_bits_7 : decode cX12_bits 7 = .ok (.if_icmp .ge 17, 3) := by decide +kernel
theorem dX12_bits_10 : decode cX12_bits 10 = .ok (.iload_n 1, 1) := by decide +kernel
theorem dX12_bits_11 : decode cX12_bits 11 = .ok (.iload_n 0, 1) := by decide +kernel
theorem dX12_bits_12 : decode cX12_bits 12 = .ok (.iload_n 2, 1) := by decide +kernel
theorem dX12_bits_13 : decode cX12_bits 13 = .ok (.ishr, 1) := by decide +kernel
theorem dX12_bits_14 : decode cX12_bits 14 = .ok (.iconst 1, 1) := by decide +kernel
theorem dX12_bits_15 : decode cX12_bits 15 = .ok (.iand, 1) := by decide +kernel
theorem dX12_bits_16 : decode cX12_bits 16 = .ok (.iadd, 1) := by decide +kernel
theorem dX12_bits_17 : decode cX12_bits 17 = .ok (.istore_n 1, 1) := by decide +kernel
theorem dX12_bits_18 : decode cX12_bits 18 = .ok (.iinc 2 1, 3) := by decide +kernel
theorem dX12_bits_21 : decode cX12_bits 21 = .ok (.goto (-17), 3) := by decide +kernel
theorem dX12_bits_24 : decode cX12_bits 24 = .ok (.iload_n 1, 1) := by decide +kernel
theorem dX12_bits_25 : decode cX12_bits 25 = .ok (.ireturn, 1) := by decide +kernel
theorem dX12_isAhead_0 : decode cX12_isAhead 0 = .ok (.iload_n 0, 1) := by decide +kernel
theorem dX12_isAhead_1 : decode cX12_isAhead 1 = .ok (.invokestatic 254, 3) := by decide +kernel
theorem dX12_isAhead_4 : decode cX12_isAhead 4 = .ok (.iload_n 1, 1) := by decide +kernel
theorem dX12_isAhead_5 : decode cX12_isAhead 5 = .ok (.invokestatic 254, 3) := by decide +kernel
theorem dX12_isAhead_8 : decode cX12_isAhead 8 = .ok (.if_icmp .eq 20, 3) := by decide +kernel
theorem dX12_isAhead_11 : decode cX12_isAhead 11 = .ok (.iload_n 0, 1) := by decide +kernel
theorem dX12_isAhead_12 : decode cX12_isAhead 12 = .ok (.invokestatic 254, 3) := by decide +kernel
theorem dX12_isAhead_15 : decode cX12_isAhead 15 = .ok (.iload_n 1, 1) := by decide +kernel
theorem dX12_isAhead_16 : decode cX12_isAhead 16 = .ok (.invokestatic 254, 3) := by decide +kernel
theorem dX12_isAhead_19 : decode cX12_isAhead 19 = .ok (.if_icmp .ge 7, 3) := by decide +kernel
theorem dX12_isAhead_22 : decode cX12_isAhead 22 = .ok (.iconst 1, 1) := by decide +kernel
theorem dX12_isAhead_23 : decode cX12_isAhead 23 = .ok (.goto 4, 3) := by decide +kernel
theorem dX12_isAhead_26 : decode cX12_isAhead 26 = .ok (.iconst 0, 1) := by decide +kernel
theorem dX12_isAhead_27 : decode cX12_isAhead 27 = .ok (.ireturn, 1) := by decide +kernel
theorem dX12_isAhead_28 : decode cX12_isAhead 28 = .ok (.iload_n 0, 1) := by decide +kernel
theorem dX12_isAhead_29 : decode cX12_isAhead 29 = .ok (.iload_n 1, 1) := by decide +kernel
theorem dX12_isAhead_30 : decode cX12_isAhead 30 = .ok (.ixor, 1) := by decide +kernel
theorem dX12_isAhead_31 : decode cX12_isAhead 31 = .ok (.istore_n 2, 1) := by decide +kernel
theorem dX12_isAhead_32 : decode cX12_isAhead 32 = .ok (.iload_n 0, 1) := by decide +kernel
theorem dX12_isAhead_33 : decode cX12_isAhead 33 = .ok (.iload_n 2, 1) := by decide +kernel
theorem dX12_isAhead_34 : decode cX12_isAhead 34 = .ok (.iload_n 2, 1) := by decide +kernel
theorem dX12_isAhead_35 : decode cX12_isAhead 35 = .ok (.ineg, 1) := by decide +kernel
theorem dX12_isAhead_36 : decode cX12_isAhead 36 = .ok (.iand, 1) := by decide +kernel
theorem dX12_isAhead_37 : decode cX12_isAhead 37 = .ok (.iand, 1) := by decide +kernel
theorem dX12_isAhead_38 : decode cX12_isAhead 38 = .ok (.ifCond .eq 7, 3) := by decide +kernel
theorem dX12_isAhead_41 : decode cX12_isAhead 41 = .ok (.iconst 1, 1) := by decide +kernel
theorem dX12_isAhead_42 : decode cX12_isAhead 42 = .ok (.goto 4, 3) := by decide +kernel
theorem dX12_isAhead_45 : decode cX12_isAhead 45 = .ok (.iconst 0, 1) := by decide +kernel
theorem dX12_isAhead_46 : decode cX12_isAhead 46 = .ok (.ireturn, 1) := by decide +kernel
theorem dX12_stuck_0 : decode cX12_stuck 0 = .ok (.iload_n 1, 1) := by decide +kernel
theorem dX12_stuck_1 : decode cX12_stuck 1 = .ok (.ifCond .ge 5, 3) := by decide +kernel
theorem dX12_stuck_4 : decode cX12_stuck 4 = .ok (.iconst (-1), 1) := by decide +kernel
theorem dX12_stuck_5 : decode cX12_stuck 5 = .ok (.ireturn, 1) := by decide +kernel
theorem dX12_stuck_6 : decode cX12_stuck 6 = .ok (.iload_n 1, 1) := by decide +kernel
theorem dX12_stuck_7 : decode cX12_stuck 7 = .ok (.istore_n 2, 1) := by decide +kernel
theorem dX12_stuck_8 : decode cX12_stuck 8 = .ok (.iconst 0, 1) := by decide +kernel
theorem dX12_stuck_9 : decode cX12_stuck 9 = .ok (.istore_n 3, 1) := by decide +kernel
theorem dX12_stuck_10 : decode cX12_stuck 10 = .ok (.iload_n 3, 1) := by decide +kernel
theorem dX12_stuck_11 : decode cX12_stuck 11 = .ok (.bipush 12, 2) := by decide +kernel
theorem dX12_stuck_13 : decode cX12_stuck 13 = .ok (.if_icmp .ge 32, 3) := by decide +kernel
theorem dX12_stuck_16 : decode cX12_stuck 16 = .ok (.aload_n 0, 1) := by decide +kernel
theorem dX12_stuck_17 : decode cX12_stuck 17 = .ok (.getfield 227, 3) := by decide +kernel
theorem dX12_stuck_20 : decode cX12_stuck 20 = .ok (.iload_n 3, 1) := by decide +kernel
theorem dX12_stuck_21 : decode cX12_stuck 21 = .ok (.ishr, 1) := by decide +kernel
theorem dX12_stuck_22 : decode cX12_stuck 22 = .ok (.iconst 1, 1) := by decide +kernel
theorem dX12_stuck_23 : decode cX12_stuck 23 = .ok (.iand, 1) := by decide +kernel
theorem dX12_stuck_24 : decode cX12_stuck 24 = .ok (.ifCond .ne 6, 3) := by decide +kernel
theorem dX12_stuck_27 : decode cX12_stuck 27 = .ok (.goto 12, 3) := by decide +kernel
theorem dX12_stuck_30 : decode cX12_stuck 30 = .ok (.iload_n 2, 1) := by decide +kernel
theorem dX12_stuck_31 : decode cX12_stuck 31 = .ok (.ifCond .ne 5, 3) := by decide +kernel
theorem dX12_stuck_34 : decode cX12_stuck 34 = .ok (.iload_n 3, 1) := by decide +kernel
theorem dX12_stuck_35 : decode cX12_stuck 35 = .ok (.ireturn, 1) := by decide +kernel
theorem dX12_stuck_36 : decode cX12_stuck 36 = .ok (.iinc 2 (-1), 3) := by decide +kernel
theorem dX12_stuck_39 : decode cX12_stuck 39 = .ok (.iinc 3 1, 3) := by decide +kernel
theorem dX12_stuck_42 : decode cX12_stuck 42 = .ok (.goto (-32), 3) := by decide +kernel
theorem dX12_stuck_45 : decode cX12_stuck 45 = .ok (.iconst (-1), 1) := by decide +kernel
theorem dX12_stuck_46 : decode cX12_stuck 46 = .ok (.ireturn, 1) := by decide +kernel
theorem dX12_weekSums_0 : decode cX12_weekSums 0 = .ok (.iconst 0, 1) := by decide +kernel
theorem dX12_weekSums_1 : decode cX12_weekSums 1 = .ok (.istore_n 1, 1) := by decide +kernel
theorem dX12_weekSums_2 : decode cX12_weekSums 2 = .ok (.iload_n 1, 1) := by decide +kernel
theorem dX12_weekSums_3 : decode cX12_weekSums 3 = .ok (.aload_n 0, 1) := by decide +kernel
theorem dX12_weekSums_4 : decode cX12_weekSums 4 = .ok (.getfield 123, 3) := by decide +kernel
theorem dX12_weekSums_7 : decode cX12_weekSums 7 = .ok (.if_icmp .ge 80, 3) := by decide +kernel
theorem dX12_weekSums_10 : decode cX12_weekSums 10 = .ok (.aload_n 0, 1) := by decide +kernel
theorem dX12_weekSums_11 : decode cX12_weekSums 11 = .ok (.getfield 87, 3) := by decide +kernel
theorem dX12_weekSums_14 : decode cX12_weekSums 14 = .ok (.iload_n 1, 1) := by decide +kernel
theorem dX12_weekSums_15 : decode cX12_weekSums 15 = .ok (.iconst 0, 1) := by decide +kernel
theorem dX12_weekSums_16 : decode cX12_weekSums 16 = .ok (.iastore, 1) := by decide +kernel
theorem dX12_weekSums_17 : decode cX12_weekSums 17 = .ok (.iconst 0, 1) := by decide +kernel
theorem dX12_weekSums_18 : decode cX12_weekSums 18 = .ok (.istore_n 2, 1) := by decide +kernel
theorem dX12_weekSums_19 : decode cX12_weekSums 19 = .ok (.iload_n 2, 1) := by decide +kernel
theorem dX12_weekSums_20 : decode cX12_weekSums 20 = .ok (.aload_n 0, 1) := by decide +kernel
theorem dX12_weekSums_21 : decode cX12_weekSums 21 = .ok (.getfield 126, 3) := by decide +kernel
theorem dX12_weekSums_24 : decode cX12_weekSums 24 = .ok (.if_icmp .ge 57, 3) := by decide +kernel
theorem dX12_weekSums_27 : decode cX12_weekSums 27 = .ok (.aload_n 0, 1) := by decide +kernel
theorem dX12_weekSums_28 : decode cX12_weekSums 28 = .ok (.getfield 66, 3) := by decide +kernel
theorem dX12_weekSums_31 : decode cX12_weekSums 31 = .ok (.iload_n 2, 1) := by decide +kernel
theorem dX12_weekSums_32 : decode cX12_weekSums 32 = .ok (.iaload, 1) := by decide +kernel
theorem dX12_weekSums_33 : decode cX12_weekSums 33 = .ok (.iconst (-1), 1) := by decide +kernel
theorem dX12_weekSums_34 : decode cX12_weekSums 34 = .ok (.if_icmp .eq 41, 3) := by decide +kernel
theorem dX12_weekSums_37 : decode cX12_weekSums 37 = .ok (.aload_n 0, 1) := by decide +kernel
theorem dX12_weekSums_38 : decode cX12_weekSums 38 = .ok (.getfield 87, 3) := by decide +kernel
theorem dX12_weekSums_41 : decode cX12_weekSums 41 = .ok (.iload_n 1, 1) := by decide +kernel
theorem dX12_weekSums_42 : decode cX12_weekSums 42 = .ok (.dup2, 1) := by decide +kernel
theorem dX12_weekSums_43 : decode cX12_weekSums 43 = .ok (.iaload, 1) := by decide +kernel
theorem dX12_weekSums_44 : decode cX12_weekSums 44 = .ok (.aload_n 0, 1) := by decide +kernel
theorem dX12_weekSums_45 : decode cX12_weekSums 45 = .ok (.iload_n 1, 1) := by decide +kernel
theorem dX12_weekSums_46 : decode cX12_weekSums 46 = .ok (.iload_n 2, 1) := by decide +kernel
theorem dX12_weekSums_47 : decode cX12_weekSums 47 = .ok (.aload_n 0, 1) := by decide +kernel
theorem dX12_weekSums_48 : decode cX12_weekSums 48 = .ok (.getfield 66, 3) := by decide +kernel
theorem dX12_weekSums_51 : decode cX12_weekSums 51 = .ok (.iload_n 2, 1) := by decide +kernel
theorem dX12_weekSums_52 : decode cX12_weekSums 52 = .ok (.iaload, 1) := by decide +kernel
theorem dX12_weekSums_53 : decode cX12_weekSums 53 = .ok (.aload_n 0, 1) := by decide +kernel
theorem dX12_weekSums_54 : decode cX12_weekSums 54 = .ok (.getfield 69, 3) := by decide +kernel
theorem dX12_weekSums_57 : decode cX12_weekSums 57 = .ok (.iload_n 2, 1) := by decide +kernel
theorem dX12_weekSums_58 : decode cX12_weekSums 58 = .ok (.iaload, 1) := by decide +kernel
theorem dX12_weekSums_59 : decode cX12_weekSums 59 = .ok (.aload_n 0, 1) := by decide +kernel
theorem dX12_weekSums_60 : decode cX12_weekSums 60 = .ok (.getfield 72, 3) := by decide +kernel
theorem dX12_weekSums_63 : decode cX12_weekSums 63 = .ok (.bipush 12, 2) := by decide +kernel
theorem dX12_weekSums_65 : decode cX12_weekSums 65 = .ok (.iload_n 2, 1) := by decide +kernel
theorem dX12_weekSums_66 : decode cX12_weekSums 66 = .ok (.imul, 1) := by decide +kernel
theorem dX12_weekSums_67 : decode cX12_weekSums 67 = .ok (.iload_n 1, 1) := by decide +kernel
theorem dX12_weekSums_68 : decode cX12_weekSums 68 = .ok (.iadd, 1) := by decide +kernel
theorem dX12_weekSums_69 : decode cX12_weekSums 69 = .ok (.iaload, 1) := by decide +kernel
theorem dX12_weekSums_70 : decode cX12_weekSums 70 = .ok (.invokevirtual 230, 3) := by decide +kernel
theorem dX12_weekSums_73 : decode cX12_weekSums 73 = .ok (.iadd, 1) := by decide +kernel
theorem dX12_weekSums_74 : decode cX12_weekSums 74 = .ok (.iastore, 1) := by decide +kernel
theorem dX12_weekSums_75 : decode cX12_weekSums 75 = .ok (.iinc 2 1, 3) := by decide +kernel
theorem dX12_weekSums_78 : decode cX12_weekSums 78 = .ok (.goto (-59), 3) := by decide +kernel
theorem dX12_weekSums_81 : decode cX12_weekSums 81 = .ok (.iinc 1 1, 3) := by decide +kernel
theorem dX12_weekSums_84 : decode cX12_weekSums 84 = .ok (.goto (-82), 3) := by decide +kernel
theorem dX12_weekSums_87 : decode cX12_weekSums 87 = .ok (.return_, 1) := by decide +kernel
theorem dX12_takesChoice_0 : decode cX12_takesChoice 0 = .ok (.aload_n 0, 1) := by decide +kernel
theorem dX12_takesChoice_1 : decode cX12_takesChoice 1 = .ok (.iload_n 1, 1) := by decide +kernel
theorem dX12_takesChoice_2 : decode cX12_takesChoice 2 = .ok (.invokevirtual 201, 3) := by decide +kernel
theorem dX12_takesChoice_5 : decode cX12_takesChoice 5 = .ok (.aload_n 0, 1) := by decide +kernel
theorem dX12_takesChoice_6 : decode cX12_takesChoice 6 = .ok (.getfield 78, 3) := by decide +kernel
theorem dX12_takesChoice_9 : decode cX12_takesChoice 9 = .ok (.bipush 15, 2) := by decide +kernel
theorem dX12_takesChoice_11 : decode cX12_takesChoice 11 = .ok (.iload_n 1, 1) := by decide +kernel
theorem dX12_takesChoice_12 : decode cX12_takesChoice 12 = .ok (.imul, 1) := by decide +kernel
theorem dX12_takesChoice_13 : decode cX12_takesChoice 13 = .ok (.aload_n 0, 1) := by decide +kernel
theorem dX12_takesChoice_14 : decode cX12_takesChoice 14 = .ok (.getfield 108, 3) := by decide +kernel
theorem dX12_takesChoice_17 : decode cX12_takesChoice 17 = .ok (.iload_n 1, 1) := by decide +kernel
theorem dX12_takesChoice_18 : decode cX12_takesChoice 18 = .ok (.iaload, 1) := by decide +kernel
theorem dX12_takesChoice_19 : decode cX12_takesChoice 19 = .ok (.iadd, 1) := by decide +kernel
theorem dX12_takesChoice_20 : decode cX12_takesChoice 20 = .ok (.iaload, 1) := by decide +kernel
theorem dX12_takesChoice_21 : decode cX12_takesChoice 21 = .ok (.istore_n 2, 1) := by decide +kernel
theorem dX12_takesChoice_22 : decode cX12_takesChoice 22 = .ok (.aload_n 0, 1) := by decide +kernel
theorem dX12_takesChoice_23 : decode cX12_takesChoice 23 = .ok (.getfield 81, 3) := by decide +kernel
theorem dX12_takesChoice_26 : decode cX12_takesChoice 26 = .ok (.bipush 15, 2) := by decide +kernel
theorem dX12_takesChoice_28 : decode cX12_takesChoice 28 = .ok (.iload_n 1, 1) := by decide +kernel
theorem dX12_takesChoice_29 : decode cX12_takesChoice 29 = .ok (.imul, 1) := by decide +kernel
theorem dX12_takesChoice_30 : decode cX12_takesChoice 30 = .ok (.aload_n 0, 1) := by decide +kernel
theorem dX12_takesChoice_31 : decode cX12_takesChoice 31 = .ok (.getfield 108, 3) := by decide +kernel
theorem dX12_takesChoice_34 : decode cX12_takesChoice 34 = .ok (.iload_n 1, 1) := by decide +kernel
theorem dX12_takesChoice_35 : decode cX12_takesChoice 35 = .ok (.iaload, 1) := by decide +kernel
theorem dX12_takesChoice_36 : decode cX12_takesChoice 36 = .ok (.iadd, 1) := by decide +kernel
theorem dX12_takesChoice_37 : decode cX12_takesChoice 37 = .ok (.iaload, 1) := by decide +kernel
theorem dX12_takesChoice_38 : decode cX12_takesChoice 38 = .ok (.istore_n 3, 1) := by decide +kernel
theorem dX12_takesChoice_39 : decode cX12_takesChoice 39 = .ok (.aload_n 0, 1) := by decide +kernel
theorem dX12_takesChoice_40 : decode cX12_takesChoice 40 = .ok (.iload_n 1, 1) := by decide +kernel
theorem dX12_takesChoice_41 : decode cX12_takesChoice 41 = .ok (.iload_n 2, 1) := by decide +kernel
theorem dX12_takesChoice_42 : decode cX12_takesChoice 42 = .ok (.iload_n 3, 1) := by decide +kernel
theorem dX12_takesChoice_43 : decode cX12_takesChoice 43 = .ok (.invokevirtual 221, 3) := by decide +kernel
theorem dX12_takesChoice_46 : decode cX12_takesChoice 46 = .ok (.ifCond .ne 5, 3) := by decide +kernel
theorem dX12_takesChoice_49 : decode cX12_takesChoice 49 = .ok (.iconst 0, 1) := by decide +kernel
theorem dX12_takesChoice_50 : decode cX12_takesChoice 50 = .ok (.ireturn, 1) := by decide +kernel
theorem dX12_takesChoice_51 : decode cX12_takesChoice 51 = .ok (.aload_n 0, 1) := by decide +kernel
theorem dX12_takesChoice_52 : decode cX12_takesChoice 52 = .ok (.getfield 66, 3) := by decide +kernel
theorem dX12_takesChoice_55 : decode cX12_takesChoice 55 = .ok (.iload_n 1, 1) := by decide +kernel
theorem dX12_takesChoice_56 : decode cX12_takesChoice 56 = .ok (.iload_n 2, 1) := by decide +kernel
theorem dX12_takesChoice_57 : decode cX12_takesChoice 57 = .ok (.iastore, 1) := by decide +kernel
theorem dX12_takesChoice_58 : decode cX12_takesChoice 58 = .ok (.aload_n 0, 1) := by decide +kernel
theorem dX12_takesChoice_59 : decode cX12_takesChoice 59 = .ok (.getfield 69, 3) := by decide +kernel
theorem dX12_takesChoice_62 : decode cX12_takesChoice 62 = .ok (.iload_n 1, 1) := by decide +kernel
theorem dX12_takesChoice_63 : decode cX12_takesChoice 63 = .ok (.iload_n 3, 1) := by decide +kernel
theorem dX12_takesChoice_64 : decode cX12_takesChoice 64 = .ok (.iastore, 1) := by decide +kernel
theorem dX12_takesChoice_65 : decode cX12_takesChoice 65 = .ok (.iconst 0, 1) := by decide +kernel
theorem dX12_takesChoice_66 : decode cX12_takesChoice 66 = .ok (.istore 4, 2) := by decide +kernel
theorem dX12_takesChoice_68 : decode cX12_takesChoice 68 = .ok (.iload 4, 2) := by decide +kernel
theorem dX12_takesChoice_70 : decode cX12_takesChoice 70 = .ok (.bipush 12, 2) := by decide +kernel
theorem dX12_takesChoice_72 : decode cX12_takesChoice 72 = .ok (.if_icmp .ge 43, 3) := by decide +kernel
theorem dX12_takesChoice_75 : decode cX12_takesChoice 75 = .ok (.aload_n 0, 1) := by decide +kernel
theorem dX12_takesChoice_76 : decode cX12_takesChoice 76 = .ok (.getfield 72, 3) := by decide +kernel
theorem dX12_takesChoice_79 : decode cX12_takesChoice 79 = .ok (.bipush 12, 2) := by decide +kernel
theorem dX12_takesChoice_81 : decode cX12_takesChoice 81 = .ok (.iload_n 1, 1) := by decide +kernel
theorem dX12_takesChoice_82 : decode cX12_takesChoice 82 = .ok (.imul, 1) := by decide +kernel
theorem dX12_takesChoice_83 : decode cX12_takesChoice 83 = .ok (.iload 4, 2) := by decide +kernel
theorem dX12_takesChoice_85 : decode cX12_takesChoice 85 = .ok (.iadd, 1) := by decide +kernel
theorem dX12_takesChoice_86 : decode cX12_takesChoice 86 = .ok (.iload 4, 2) := by decide +kernel
theorem dX12_takesChoice_88 : decode cX12_takesChoice 88 = .ok (.aload_n 0, 1) := by decide +kernel
theorem dX12_takesChoice_89 : decode cX12_takesChoice 89 = .ok (.getfield 123, 3) := by decide +kernel
theorem dX12_takesChoice_92 : decode cX12_takesChoice 92 = .ok (.if_icmp .ge 15, 3) := by decide +kernel
theorem dX12_takesChoice_95 : decode cX12_takesChoice 95 = .ok (.aload_n 0, 1) := by decide +kernel
theorem dX12_takesChoice_96 : decode cX12_takesChoice 96 = .ok (.iload 4, 2) := by decide +kernel
theorem dX12_takesChoice_98 : decode cX12_takesChoice 98 = .ok (.iload_n 1, 1) := by decide +kernel
theorem dX12_takesChoice_99 : decode cX12_takesChoice 99 = .ok (.iload_n 2, 1) := by decide +kernel
theorem dX12_takesChoice_100 : decode cX12_takesChoice 100 = .ok (.iload_n 3, 1) := by decide +kernel
theorem dX12_takesChoice_101 : decode cX12_takesChoice 101 = .ok (.invokevirtual 205, 3) := by decide +kernel
theorem dX12_takesChoice_104 : decode cX12_takesChoice 104 = .ok (.goto 4, 3) := by decide +kernel
theorem dX12_takesChoice_107 : decode cX12_takesChoice 107 = .ok (.iconst 0, 1) := by decide +kernel
theorem dX12_takesChoice_108 : decode cX12_takesChoice 108 = .ok (.iastore, 1) := by decide +kernel
theorem dX12_takesChoice_109 : decode cX12_takesChoice 109 = .ok (.iinc 4 1, 3) := by decide +kernel
theorem dX12_takesChoice_112 : decode cX12_takesChoice 112 = .ok (.goto (-44), 3) := by decide +kernel
theorem dX12_takesChoice_115 : decode cX12_takesChoice 115 = .ok (.iconst 1, 1) := by decide +kernel
theorem dX12_takesChoice_116 : decode cX12_takesChoice 116 = .ok (.ireturn, 1) := by decide +kernel
theorem dX12_move_0 : decode cX12_move 0 = .ok (.iload_n 1, 1) := by decide +kernel
theorem dX12_move_1 : decode cX12_move 1 = .ok (.invokestatic 149, 3) := by decide +kernel
theorem dX12_move_4 : decode cX12_move 4 = .ok (.ifCond .eq 11, 3) := by decide +kernel
theorem dX12_move_7 : decode cX12_move 7 = .ok (.aload_n 0, 1) := by decide +kernel
theorem dX12_move_8 : decode cX12_move 8 = .ok (.iload_n 2, 1) := by decide +kernel
theorem dX12_move_9 : decode cX12_move 9 = .ok (.invokevirtual 152, 3) := by decide +kernel
theorem dX12_move_12 : decode cX12_move 12 = .ok (.ifCond .ne 6, 3) := by decide +kernel
theorem dX12_move_15 : decode cX12_move 15 = .ok (.bipush (-2), 2) := by decide +kernel
theorem dX12_move_17 : decode cX12_move 17 = .ok (.ireturn, 1) := by decide +kernel
theorem dX12_move_18 : decode cX12_move 18 = .ok (.aload_n 0, 1) := by decide +kernel
theorem dX12_move_19 : decode cX12_move 19 = .ok (.iload_n 1, 1) := by decide +kernel
theorem dX12_move_20 : decode cX12_move 20 = .ok (.iload_n 2, 1) := by decide +kernel
theorem dX12_move_21 : decode cX12_move 21 = .ok (.invokevirtual 214, 3) := by decide +kernel
theorem dX12_move_24 : decode cX12_move 24 = .ok (.iconst 0, 1) := by decide +kernel
theorem dX12_move_25 : decode cX12_move 25 = .ok (.istore_n 3, 1) := by decide +kernel
theorem dX12_move_26 : decode cX12_move 26 = .ok (.iload_n 3, 1) := by decide +kernel
theorem dX12_move_27 : decode cX12_move 27 = .ok (.iconst 4, 1) := by decide +kernel
theorem dX12_move_28 : decode cX12_move 28 = .ok (.if_icmp .ge 69, 3) := by decide +kernel
theorem dX12_move_31 : decode cX12_move 31 = .ok (.aload_n 0, 1) := by decide +kernel
theorem dX12_move_32 : decode cX12_move 32 = .ok (.getfield 114, 3) := by decide +kernel
theorem dX12_move_35 : decode cX12_move 35 = .ok (.iload_n 3, 1) := by decide +kernel
theorem dX12_move_36 : decode cX12_move 36 = .ok (.aload_n 0, 1) := by decide +kernel
theorem dX12_move_37 : decode cX12_move 37 = .ok (.getfield 66, 3) := by decide +kernel
theorem dX12_move_40 : decode cX12_move 40 = .ok (.iload_n 3, 1) := by decide +kernel
theorem dX12_move_41 : decode cX12_move 41 = .ok (.iaload, 1) := by decide +kernel
theorem dX12_move_42 : decode cX12_move 42 = .ok (.iastore, 1) := by decide +kernel
theorem dX12_move_43 : decode cX12_move 43 = .ok (.aload_n 0, 1) := by decide +kernel
theorem dX12_move_44 : decode cX12_move 44 = .ok (.getfield 117, 3) := by decide +kernel
theorem dX12_move_47 : decode cX12_move 47 = .ok (.iload_n 3, 1) := by decide +kernel
theorem dX12_move_48 : decode cX12_move 48 = .ok (.aload_n 0, 1) := by decide +kernel
theorem dX12_move_49 : decode cX12_move 49 = .ok (.getfield 69, 3) := by decide +kernel
theorem dX12_move_52 : decode cX12_move 52 = .ok (.iload_n 3, 1) := by decide +kernel
theorem dX12_move_53 : decode cX12_move 53 = .ok (.iaload, 1) := by decide +kernel
theorem dX12_move_54 : decode cX12_move 54 = .ok (.iastore, 1) := by decide +kernel
theorem dX12_move_55 : decode cX12_move 55 = .ok (.aload_n 0, 1) := by decide +kernel
theorem dX12_move_56 : decode cX12_move 56 = .ok (.getfield 108, 3) := by decide +kernel
theorem dX12_move_59 : decode cX12_move 59 = .ok (.iload_n 3, 1) := by decide +kernel
theorem dX12_move_60 : decode cX12_move 60 = .ok (.iconst (-1), 1) := by decide +kernel
theorem dX12_move_61 : decode cX12_move 61 = .ok (.iastore, 1) := by decide +kernel
theorem dX12_move_62 : decode cX12_move 62 = .ok (.iconst 0, 1) := by decide +kernel
theorem dX12_move_63 : decode cX12_move 63 = .ok (.istore 4, 2) := by decide +kernel
theorem dX12_move_65 : decode cX12_move 65 = .ok (.iload 4, 2) := by decide +kernel
theorem dX12_move_67 : decode cX12_move 67 = .ok (.bipush 12, 2) := by decide +kernel
theorem dX12_move_69 : decode cX12_move 69 = .ok (.if_icmp .ge 22, 3) := by decide +kernel
theorem dX12_move_72 : decode cX12_move 72 = .ok (.aload_n 0, 1) := by decide +kernel
theorem dX12_move_73 : decode cX12_move 73 = .ok (.getfield 72, 3) := by decide +kernel
theorem dX12_move_76 : decode cX12_move 76 = .ok (.bipush 12, 2) := by decide +kernel
theorem dX12_move_78 : decode cX12_move 78 = .ok (.iload_n 3, 1) := by decide +kernel
theorem dX12_move_79 : decode cX12_move 79 = .ok (.imul, 1) := by decide +kernel
theorem dX12_move_80 : decode cX12_move 80 = .ok (.iload 4, 2) := by decide +kernel
theorem dX12_move_82 : decode cX12_move 82 = .ok (.iadd, 1) := by decide +kernel
theorem dX12_move_83 : decode cX12_move 83 = .ok (.iconst 0, 1) := by decide +kernel
theorem dX12_move_84 : decode cX12_move 84 = .ok (.iastore, 1) := by decide +kernel
theorem dX12_move_85 : decode cX12_move 85 = .ok (.iinc 4 1, 3) := by decide +kernel
theorem dX12_move_88 : decode cX12_move 88 = .ok (.goto (-23), 3) := by decide +kernel
theorem dX12_move_91 : decode cX12_move 91 = .ok (.iinc 3 1, 3) := by decide +kernel
theorem dX12_move_94 : decode cX12_move 94 = .ok (.goto (-68), 3) := by decide +kernel
theorem dX12_move_97 : decode cX12_move 97 = .ok (.iconst 0, 1) := by decide +kernel
theorem dX12_move_98 : decode cX12_move 98 = .ok (.istore_n 3, 1) := by decide +kernel
theorem dX12_move_99 : decode cX12_move 99 = .ok (.iload_n 3, 1) := by decide +kernel
theorem dX12_move_100 : decode cX12_move 100 = .ok (.aload_n 0, 1) := by decide +kernel
theorem dX12_move_101 : decode cX12_move 101 = .ok (.getfield 126, 3) := by decide +kernel
theorem dX12_move_104 : decode cX12_move 104 = .ok (.if_icmp .ge 14, 3) := by decide +kernel
theorem dX12_move_107 : decode cX12_move 107 = .ok (.aload_n 0, 1) := by decide +kernel
theorem dX12_move_108 : decode cX12_move 108 = .ok (.iload_n 3, 1) := by decide +kernel
theorem dX12_move_109 : decode cX12_move 109 = .ok (.invokevirtual 224, 3) := by decide +kernel
theorem dX12_move_112 : decode cX12_move 112 = .ok (.iinc 3 1, 3) := by decide +kernel
theorem dX12_move_115 : decode cX12_move 115 = .ok (.goto (-16), 3) := by decide +kernel
theorem dX12_move_118 : decode cX12_move 118 = .ok (.iconst (-1), 1) := by decide +kernel
theorem dX12_move_119 : decode cX12_move 119 = .ok (.istore_n 3, 1) := by decide +kernel
theorem dX12_move_120 : decode cX12_move 120 = .ok (.iconst 0, 1) := by decide +kernel
theorem dX12_move_121 : decode cX12_move 121 = .ok (.istore 4, 2) := by decide +kernel
theorem dX12_move_123 : decode cX12_move 123 = .ok (.iconst 0, 1) := by decide +kernel
theorem dX12_move_124 : decode cX12_move 124 = .ok (.istore 5, 2) := by decide +kernel
theorem dX12_move_126 : decode cX12_move 126 = .ok (.iload 4, 2) := by decide +kernel
theorem dX12_move_128 : decode cX12_move 128 = .ok (.ifCond .lt 261, 3) := by decide +kernel
theorem dX12_move_131 : decode cX12_move 131 = .ok (.iload 4, 2) := by decide +kernel
theorem dX12_move_133 : decode cX12_move 133 = .ok (.aload_n 0, 1) := by decide +kernel
theorem dX12_move_134 : decode cX12_move 134 = .ok (.getfield 126, 3) := by decide +kernel
theorem dX12_move_137 : decode cX12_move 137 = .ok (.if_icmp .ne 138, 3) := by decide +kernel
theorem dX12_move_140 : decode cX12_move 140 = .ok (.iconst 0, 1) := by decide +kernel
theorem dX12_move_141 : decode cX12_move 141 = .ok (.istore 5, 2) := by decide +kernel
theorem dX12_move_143 : decode cX12_move 143 = .ok (.iconst 0, 1) := by decide +kernel
theorem dX12_move_144 : decode cX12_move 144 = .ok (.istore 6, 2) := by decide +kernel
theorem dX12_move_146 : decode cX12_move 146 = .ok (.iload 6, 2) := by decide +kernel
theorem dX12_move_148 : decode cX12_move 148 = .ok (.aload_n 0, 1) := by decide +kernel
theorem dX12_move_149 : decode cX12_move 149 = .ok (.getfield 126, 3) := by decide +kernel
theorem dX12_move_152 : decode cX12_move 152 = .ok (.if_icmp .ge 46, 3) := by decide +kernel
theorem dX12_move_155 : decode cX12_move 155 = .ok (.aload_n 0, 1) := by decide +kernel
theorem dX12_move_156 : decode cX12_move 156 = .ok (.getfield 66, 3) := by decide +kernel
theorem dX12_move_159 : decode cX12_move 159 = .ok (.iload 6, 2) := by decide +kernel
theorem dX12_move_161 : decode cX12_move 161 = .ok (.iaload, 1) := by decide +kernel
theorem dX12_move_162 : decode cX12_move 162 = .ok (.aload_n 0, 1) := by decide +kernel
theorem dX12_move_163 : decode cX12_move 163 = .ok (.getfield 114, 3) := by decide +kernel
theorem dX12_move_166 : decode cX12_move 166 = .ok (.iload 6, 2) := by decide +kernel
theorem dX12_move_168 : decode cX12_move 168 = .ok (.iaload, 1) := by decide +kernel
theorem dX12_move_169 : decode cX12_move 169 = .ok (.if_icmp .ne 20, 3) := by decide +kernel
theorem dX12_move_172 : decode cX12_move 172 = .ok (.aload_n 0, 1) := by decide +kernel
theorem dX12_move_173 : decode cX12_move 173 = .ok (.getfield 69, 3) := by decide +kernel
theorem dX12_move_176 : decode cX12_move 176 = .ok (.iload 6, 2) := by decide +kernel
theorem dX12_move_178 : decode cX12_move 178 = .ok (.iaload, 1) := by decide +kernel
theorem dX12_move_179 : decode cX12_move 179 = .ok (.aload_n 0, 1) := by decide +kernel
theorem dX12_move_180 : decode cX12_move 180 = .ok (.getfield 117, 3) := by decide +kernel
theorem dX12_move_183 : decode cX12_move 183 = .ok (.iload 6, 2) := by decide +kernel
theorem dX12_move_185 : decode cX12_move 185 = .ok (.iaload, 1) := by decide +kernel
theorem dX12_move_186 : decode cX12_move 186 = .ok (.if_icmp .eq 6, 3) := by decide +kernel
theorem dX12_move_189 : decode cX12_move 189 = .ok (.iinc 5 1, 3) := by decide +kernel
theorem dX12_move_192 : decode cX12_move 192 = .ok (.iinc 6 1, 3) := by decide +kernel
theorem dX12_move_195 : decode cX12_move 195 = .ok (.goto (-49), 3) := by decide +kernel
theorem dX12_move_198 : decode cX12_move 198 = .ok (.aload_n 0, 1) := by decide +kernel
theorem dX12_move_199 : decode cX12_move 199 = .ok (.invokevirtual 257, 3) := by decide +kernel
theorem dX12_move_202 : decode cX12_move 202 = .ok (.aload_n 0, 1) := by decide +kernel
theorem dX12_move_203 : decode cX12_move 203 = .ok (.invokevirtual 238, 3) := by decide +kernel
theorem dX12_move_206 : decode cX12_move 206 = .ok (.iload_n 3, 1) := by decide +kernel
theorem dX12_move_207 : decode cX12_move 207 = .ok (.iconst (-1), 1) := by decide +kernel
theorem dX12_move_208 : decode cX12_move 208 = .ok (.if_icmp .eq 22, 3) := by decide +kernel
theorem dX12_move_211 : decode cX12_move 211 = .ok (.iload 5, 2) := by decide +kernel
theorem dX12_move_213 : decode cX12_move 213 = .ok (.iload_n 3, 1) := by decide +kernel
theorem dX12_move_214 : decode cX12_move 214 = .ok (.if_icmp .lt 16, 3) := by decide +kernel
theorem dX12_move_217 : decode cX12_move 217 = .ok (.iload 5, 2) := by decide +kernel
theorem dX12_move_219 : decode cX12_move 219 = .ok (.iload_n 3, 1) := by decide +kernel
theorem dX12_move_220 : decode cX12_move 220 = .ok (.if_icmp .ne 49, 3) := by decide +kernel
theorem dX12_move_223 : decode cX12_move 223 = .ok (.aload_n 0, 1) := by decide +kernel
theorem dX12_move_224 : decode cX12_move 224 = .ok (.invokevirtual 241, 3) := by decide +kernel
theorem dX12_move_227 : decode cX12_move 227 = .ok (.ifCond .eq 42, 3) := by decide +kernel
theorem dX12_move_230 : decode cX12_move 230 = .ok (.iload 5, 2) := by decide +kernel
theorem dX12_move_232 : decode cX12_move 232 = .ok (.istore_n 3, 1) := by decide +kernel
theorem dX12_move_233 : decode cX12_move 233 = .ok (.aload_n 0, 1) := by decide +kernel
theorem dX12_move_234 : decode cX12_move 234 = .ok (.invokevirtual 245, 3) := by decide +kernel
theorem dX12_move_237 : decode cX12_move 237 = .ok (.iconst 0, 1) := by decide +kernel
theorem dX12_move_238 : decode cX12_move 238 = .ok (.istore 6, 2) := by decide +kernel
theorem dX12_move_240 : decode cX12_move 240 = .ok (.iload 6, 2) := by decide +kernel
theorem dX12_move_242 : decode cX12_move 242 = .ok (.aload_n 0, 1) := by decide +kernel
theorem dX12_move_243 : decode cX12_move 243 = .ok (.getfield 126, 3) := by decide +kernel
theorem dX12_move_246 : decode cX12_move 246 = .ok (.if_icmp .ge 23, 3) := by decide +kernel
theorem dX12_move_249 : decode cX12_move 249 = .ok (.aload_n 0, 1) := by decide +kernel
theorem dX12_move_250 : decode cX12_move 250 = .ok (.getfield 111, 3) := by decide +kernel
theorem dX12_move_253 : decode cX12_move 253 = .ok (.iload 6, 2) := by decide +kernel
theorem dX12_move_255 : decode cX12_move 255 = .ok (.aload_n 0, 1) := by decide +kernel
theorem dX12_move_256 : decode cX12_move 256 = .ok (.getfield 108, 3) := by decide +kernel
theorem dX12_move_259 : decode cX12_move 259 = .ok (.iload 6, 2) := by decide +kernel
theorem dX12_move_261 : decode cX12_move 261 = .ok (.iaload, 1) := by decide +kernel
theorem dX12_move_262 : decode cX12_move 262 = .ok (.iastore, 1) := by decide +kernel
theorem dX12_move_263 : decode cX12_move 263 = .ok (.iinc 6 1, 3) := by decide +kernel
theorem dX12_move_266 : decode cX12_move 266 = .ok (.goto (-26), 3) := by decide +kernel
theorem dX12_move_269 : decode cX12_move 269 = .ok (.iinc 4 (-1), 3) := by decide +kernel
theorem dX12_move_272 : decode cX12_move 272 = .ok (.goto (-146), 3) := by decide +kernel
theorem dX12_move_275 : decode cX12_move 275 = .ok (.aload_n 0, 1) := by decide +kernel
theorem dX12_move_276 : decode cX12_move 276 = .ok (.getfield 114, 3) := by decide +kernel
theorem dX12_move_279 : decode cX12_move 279 = .ok (.iload 4, 2) := by decide +kernel
theorem dX12_move_281 : decode cX12_move 281 = .ok (.iaload, 1) := by decide +kernel
theorem dX12_move_282 : decode cX12_move 282 = .ok (.iconst (-1), 1) := by decide +kernel
theorem dX12_move_283 : decode cX12_move 283 = .ok (.if_icmp .ne 49, 3) := by decide +kernel
theorem dX12_move_286 : decode cX12_move 286 = .ok (.aload_n 0, 1) := by decide +kernel
theorem dX12_move_287 : decode cX12_move 287 = .ok (.getfield 108, 3) := by decide +kernel
theorem dX12_move_290 : decode cX12_move 290 = .ok (.iload 4, 2) := by decide +kernel
theorem dX12_move_292 : decode cX12_move 292 = .ok (.aload_n 0, 1) := by decide +kernel
theorem dX12_move_293 : decode cX12_move 293 = .ok (.getfield 108, 3) := by decide +kernel
theorem dX12_move_296 : decode cX12_move 296 = .ok (.iload 4, 2) := by decide +kernel
theorem dX12_move_298 : decode cX12_move 298 = .ok (.iaload, 1) := by decide +kernel
theorem dX12_move_299 : decode cX12_move 299 = .ok (.iconst (-1), 1) := by decide +kernel
theorem dX12_move_300 : decode cX12_move 300 = .ok (.if_icmp .ne 7, 3) := by decide +kernel
theorem dX12_move_303 : decode cX12_move 303 = .ok (.iconst 0, 1) := by decide +kernel
theorem dX12_move_304 : decode cX12_move 304 = .ok (.goto 4, 3) := by decide +kernel
theorem dX12_move_307 : decode cX12_move 307 = .ok (.iconst (-1), 1) := by decide +kernel
theorem dX12_move_308 : decode cX12_move 308 = .ok (.iastore, 1) := by decide +kernel
theorem dX12_move_309 : decode cX12_move 309 = .ok (.iload 4, 2) := by decide +kernel
theorem dX12_move_311 : decode cX12_move 311 = .ok (.aload_n 0, 1) := by decide +kernel
theorem dX12_move_312 : decode cX12_move 312 = .ok (.getfield 108, 3) := by decide +kernel
theorem dX12_move_315 : decode cX12_move 315 = .ok (.iload 4, 2) := by decide +kernel
theorem dX12_move_317 : decode cX12_move 317 = .ok (.iaload, 1) := by decide +kernel
theorem dX12_move_318 : decode cX12_move 318 = .ok (.ifCond .ne 7, 3) := by decide +kernel
theorem dX12_move_321 : decode cX12_move 321 = .ok (.iconst 1, 1) := by decide +kernel
theorem dX12_move_322 : decode cX12_move 322 = .ok (.goto 4, 3) := by decide +kernel
theorem dX12_move_325 : decode cX12_move 325 = .ok (.iconst (-1), 1) := by decide +kernel
theorem dX12_move_326 : decode cX12_move 326 = .ok (.iadd, 1) := by decide +kernel
theorem dX12_move_327 : decode cX12_move 327 = .ok (.istore 4, 2) := by decide +kernel
theorem dX12_move_329 : decode cX12_move 329 = .ok (.goto (-203), 3) := by decide +kernel
theorem dX12_move_332 : decode cX12_move 332 = .ok (.aload_n 0, 1) := by decide +kernel
theorem dX12_move_333 : decode cX12_move 333 = .ok (.getfield 108, 3) := by decide +kernel
theorem dX12_move_336 : decode cX12_move 336 = .ok (.iload 4, 2) := by decide +kernel
theorem dX12_move_338 : decode cX12_move 338 = .ok (.dup2, 1) := by decide +kernel
theorem dX12_move_339 : decode cX12_move 339 = .ok (.iaload, 1) := by decide +kernel
theorem dX12_move_340 : decode cX12_move 340 = .ok (.iconst 1, 1) := by decide +kernel
theorem dX12_move_341 : decode cX12_move 341 = .ok (.iadd, 1) := by decide +kernel
theorem dX12_move_342 : decode cX12_move 342 = .ok (.iastore, 1) := by decide +kernel
theorem dX12_move_343 : decode cX12_move 343 = .ok (.aload_n 0, 1) := by decide +kernel
theorem dX12_move_344 : decode cX12_move 344 = .ok (.getfield 108, 3) := by decide +kernel
theorem dX12_move_347 : decode cX12_move 347 = .ok (.iload 4, 2) := by decide +kernel
theorem dX12_move_349 : decode cX12_move 349 = .ok (.iaload, 1) := by decide +kernel
theorem dX12_move_350 : decode cX12_move 350 = .ok (.aload_n 0, 1) := by decide +kernel
theorem dX12_move_351 : decode cX12_move 351 = .ok (.getfield 84, 3) := by decide +kernel
theorem dX12_move_354 : decode cX12_move 354 = .ok (.iload 4, 2) := by decide +kernel
theorem dX12_move_356 : decode cX12_move 356 = .ok (.iaload, 1) := by decide +kernel
theorem dX12_move_357 : decode cX12_move 357 = .ok (.if_icmp .ne 17, 3) := by decide +kernel
theorem dX12_move_360 : decode cX12_move 360 = .ok (.aload_n 0, 1) := by decide +kernel
theorem dX12_move_361 : decode cX12_move 361 = .ok (.getfield 108, 3) := by decide +kernel
theorem dX12_move_364 : decode cX12_move 364 = .ok (.iload 4, 2) := by decide +kernel
theorem dX12_move_366 : decode cX12_move 366 = .ok (.iconst (-1), 1) := by decide +kernel
theorem dX12_move_367 : decode cX12_move 367 = .ok (.iastore, 1) := by decide +kernel
theorem dX12_move_368 : decode cX12_move 368 = .ok (.iinc 4 (-1), 3) := by decide +kernel
theorem dX12_move_371 : decode cX12_move 371 = .ok (.goto (-245), 3) := by decide +kernel
theorem dX12_move_374 : decode cX12_move 374 = .ok (.aload_n 0, 1) := by decide +kernel
theorem dX12_move_375 : decode cX12_move 375 = .ok (.iload 4, 2) := by decide +kernel
theorem dX12_move_377 : decode cX12_move 377 = .ok (.invokevirtual 260, 3) := by decide +kernel
theorem dX12_move_380 : decode cX12_move 380 = .ok (.ifCond .eq (-254), 3) := by decide +kernel
theorem dX12_move_383 : decode cX12_move 383 = .ok (.iinc 4 1, 3) := by decide +kernel
theorem dX12_move_386 : decode cX12_move 386 = .ok (.goto (-260), 3) := by decide +kernel
theorem dX12_move_389 : decode cX12_move 389 = .ok (.iload_n 3, 1) := by decide +kernel
theorem dX12_move_390 : decode cX12_move 390 = .ok (.iconst (-1), 1) := by decide +kernel
theorem dX12_move_391 : decode cX12_move 391 = .ok (.if_icmp .ne 5, 3) := by decide +kernel
theorem dX12_move_394 : decode cX12_move 394 = .ok (.iconst (-1), 1) := by decide +kernel
theorem dX12_move_395 : decode cX12_move 395 = .ok (.ireturn, 1) := by decide +kernel
theorem dX12_move_396 : decode cX12_move 396 = .ok (.iconst 0, 1) := by decide +kernel
theorem dX12_move_397 : decode cX12_move 397 = .ok (.istore 6, 2) := by decide +kernel
theorem dX12_move_399 : decode cX12_move 399 = .ok (.iload 6, 2) := by decide +kernel
theorem dX12_move_401 : decode cX12_move 401 = .ok (.aload_n 0, 1) := by decide +kernel
theorem dX12_move_402 : decode cX12_move 402 = .ok (.getfield 126, 3) := by decide +kernel
theorem dX12_move_405 : decode cX12_move 405 = .ok (.if_icmp .ge 89, 3) := by decide +kernel
theorem dX12_move_408 : decode cX12_move 408 = .ok (.aload_n 0, 1) := by decide +kernel
theorem dX12_move_409 : decode cX12_move 409 = .ok (.getfield 114, 3) := by decide +kernel
theorem dX12_move_412 : decode cX12_move 412 = .ok (.iload 6, 2) := by decide +kernel
theorem dX12_move_414 : decode cX12_move 414 = .ok (.iaload, 1) := by decide +kernel
theorem dX12_move_415 : decode cX12_move 415 = .ok (.iconst (-1), 1) := by decide +kernel
theorem dX12_move_416 : decode cX12_move 416 = .ok (.if_icmp .ne 6, 3) := by decide +kernel
theorem dX12_move_419 : decode cX12_move 419 = .ok (.goto 69, 3) := by decide +kernel
theorem dX12_move_422 : decode cX12_move 422 = .ok (.aload_n 0, 1) := by decide +kernel
theorem dX12_move_423 : decode cX12_move 423 = .ok (.getfield 63, 3) := by decide +kernel
theorem dX12_move_426 : decode cX12_move 426 = .ok (.iconst 2, 1) := by decide +kernel
theorem dX12_move_427 : decode cX12_move 427 = .ok (.bipush 52, 2) := by decide +kernel
theorem dX12_move_429 : decode cX12_move 429 = .ok (.iload 6, 2) := by decide +kernel
theorem dX12_move_431 : decode cX12_move 431 = .ok (.imul, 1) := by decide +kernel
theorem dX12_move_432 : decode cX12_move 432 = .ok (.iload_n 1, 1) := by decide +kernel
theorem dX12_move_433 : decode cX12_move 433 = .ok (.iadd, 1) := by decide +kernel
theorem dX12_move_434 : decode cX12_move 434 = .ok (.imul, 1) := by decide +kernel
theorem dX12_move_435 : decode cX12_move 435 = .ok (.aload_n 0, 1) := by decide +kernel
theorem dX12_move_436 : decode cX12_move 436 = .ok (.getfield 78, 3) := by decide +kernel
theorem dX12_move_439 : decode cX12_move 439 = .ok (.bipush 15, 2) := by decide +kernel
theorem dX12_move_441 : decode cX12_move 441 = .ok (.iload 6, 2) := by decide +kernel
theorem dX12_move_443 : decode cX12_move 443 = .ok (.imul, 1) := by decide +kernel
theorem dX12_move_444 : decode cX12_move 444 = .ok (.aload_n 0, 1) := by decide +kernel
theorem dX12_move_445 : decode cX12_move 445 = .ok (.getfield 111, 3) := by decide +kernel
theorem dX12_move_448 : decode cX12_move 448 = .ok (.iload 6, 2) := by decide +kernel
theorem dX12_move_450 : decode cX12_move 450 = .ok (.iaload, 1) := by decide +kernel
theorem dX12_move_451 : decode cX12_move 451 = .ok (.iadd, 1) := by decide +kernel
theorem dX12_move_452 : decode cX12_move 452 = .ok (.iaload, 1) := by decide +kernel
theorem dX12_move_453 : decode cX12_move 453 = .ok (.iastore, 1) := by decide +kernel
theorem dX12_move_454 : decode cX12_move 454 = .ok (.aload_n 0, 1) := by decide +kernel
theorem dX12_move_455 : decode cX12_move 455 = .ok (.getfield 63, 3) := by decide +kernel
theorem dX12_move_458 : decode cX12_move 458 = .ok (.iconst 2, 1) := by decide +kernel
theorem dX12_move_459 : decode cX12_move 459 = .ok (.bipush 52, 2) := by decide +kernel
theorem dX12_move_461 : decode cX12_move 461 = .ok (.iload 6, 2) := by decide +kernel
theorem dX12_move_463 : decode cX12_move 463 = .ok (.imul, 1) := by decide +kernel
theorem dX12_move_464 : decode cX12_move 464 = .ok (.iload_n 1, 1) := by decide +kernel
theorem dX12_move_465 : decode cX12_move 465 = .ok (.iadd, 1) := by decide +kernel
theorem dX12_move_466 : decode cX12_move 466 = .ok (.imul, 1) := by decide +kernel
theorem dX12_move_467 : decode cX12_move 467 = .ok (.iconst 1, 1) := by decide +kernel
theorem dX12_move_468 : decode cX12_move 468 = .ok (.iadd, 1) := by decide +kernel
theorem dX12_move_469 : decode cX12_move 469 = .ok (.aload_n 0, 1) := by decide +kernel
theorem dX12_move_470 : decode cX12_move 470 = .ok (.getfield 81, 3) := by decide +kernel
theorem dX12_move_473 : decode cX12_move 473 = .ok (.bipush 15, 2) := by decide +kernel
theorem dX12_move_475 : decode cX12_move 475 = .ok (.iload 6, 2) := by decide +kernel
theorem dX12_move_477 : decode cX12_move 477 = .ok (.imul, 1) := by decide +kernel
theorem dX12_move_478 : decode cX12_move 478 = .ok (.aload_n 0, 1) := by decide +kernel
theorem dX12_move_479 : decode cX12_move 479 = .ok (.getfield 111, 3) := by decide +kernel
theorem dX12_move_482 : decode cX12_move 482 = .ok (.iload 6, 2) := by decide +kernel
theorem dX12_move_484 : decode cX12_move 484 = .ok (.iaload, 1) := by decide +kernel
theorem dX12_move_485 : decode cX12_move 485 = .ok (.iadd, 1) := by decide +kernel
theorem dX12_move_486 : decode cX12_move 486 = .ok (.iaload, 1) := by decide +kernel
theorem dX12_move_487 : decode cX12_move 487 = .ok (.iastore, 1) := by decide +kernel
theorem dX12_move_488 : decode cX12_move 488 = .ok (.iinc 6 1, 3) := by decide +kernel
theorem dX12_move_491 : decode cX12_move 491 = .ok (.goto (-92), 3) := by decide +kernel
theorem dX12_move_494 : decode cX12_move 494 = .ok (.iload_n 3, 1) := by decide +kernel
theorem dX12_move_495 : decode cX12_move 495 = .ok (.ireturn, 1) := by decide +kernel
theorem dX12_planned_0 : decode cX12_planned 0 = .ok (.aload_n 0, 1) := by decide +kernel
theorem dX12_planned_1 : decode cX12_planned 1 = .ok (.iload_n 1, 1) := by decide +kernel
theorem dX12_planned_2 : decode cX12_planned 2 = .ok (.invokevirtual 146, 3) := by decide +kernel
theorem dX12_planned_5 : decode cX12_planned 5 = .ok (.ifCond .eq 19, 3) := by decide +kernel
theorem dX12_planned_8 : decode cX12_planned 8 = .ok (.iload_n 2, 1) := by decide +kernel
theorem dX12_planned_9 : decode cX12_planned 9 = .ok (.invokestatic 149, 3) := by decide +kernel
theorem dX12_planned_12 : decode cX12_planned 12 = .ok (.ifCond .eq 12, 3) := by decide +kernel
theorem dX12_planned_15 : decode cX12_planned 15 = .ok (.iload_n 3, 1) := by decide +kernel
theorem dX12_planned_16 : decode cX12_planned 16 = .ok (.ifCond .lt 8, 3) := by decide +kernel
theorem dX12_planned_19 : decode cX12_planned 19 = .ok (.iload_n 3, 1) := by decide +kernel
theorem dX12_planned_20 : decode cX12_planned 20 = .ok (.iconst 3, 1) := by decide +kernel
theorem dX12_planned_21 : decode cX12_planned 21 = .ok (.if_icmp .le 5, 3) := by decide +kernel
theorem dX12_planned_24 : decode cX12_planned 24 = .ok (.iconst (-1), 1) := by decide +kernel
theorem dX12_planned_25 : decode cX12_planned 25 = .ok (.ireturn, 1) := by decide +kernel
theorem dX12_planned_26 : decode cX12_planned 26 = .ok (.aload_n 0, 1) := by decide +kernel
theorem dX12_planned_27 : decode cX12_planned 27 = .ok (.getfield 63, 3) := by decide +kernel
theorem dX12_planned_30 : decode cX12_planned 30 = .ok (.iconst 2, 1) := by decide +kernel
theorem dX12_planned_31 : decode cX12_planned 31 = .ok (.bipush 52, 2) := by decide +kernel
theorem dX12_planned_33 : decode cX12_planned 33 = .ok (.iload_n 1, 1) := by decide +kernel
theorem dX12_planned_34 : decode cX12_planned 34 = .ok (.imul, 1) := by decide +kernel
theorem dX12_planned_35 : decode cX12_planned 35 = .ok (.iload_n 2, 1) := by decide +kernel
theorem dX12_planned_36 : decode cX12_planned 36 = .ok (.iadd, 1) := by decide +kernel
theorem dX12_planned_37 : decode cX12_planned 37 = .ok (.imul, 1) := by decide +kernel
theorem dX12_planned_38 : decode cX12_planned 38 = .ok (.iload_n 3, 1) := by decide +kernel
theorem dX12_planned_39 : decode cX12_planned 39 = .ok (.iconst 2, 1) := by decide +kernel
theorem dX12_planned_40 : decode cX12_planned 40 = .ok (.irem, 1) := by decide +kernel
theorem dX12_planned_41 : decode cX12_planned 41 = .ok (.iadd, 1) := by decide +kernel
theorem dX12_planned_42 : decode cX12_planned 42 = .ok (.iaload, 1) := by decide +kernel
theorem dX12_planned_43 : decode cX12_planned 43 = .ok (.istore 4, 2) := by decide +kernel
theorem dX12_planned_45 : decode cX12_planned 45 = .ok (.aload_n 0, 1) := by decide +kernel
theorem dX12_planned_46 : decode cX12_planned 46 = .ok (.getfield 63, 3) := by decide +kernel
theorem dX12_planned_49 : decode cX12_planned 49 = .ok (.iconst 2, 1) := by decide +kernel
theorem dX12_planned_50 : decode cX12_planned 50 = .ok (.bipush 52, 2) := by decide +kernel
theorem dX12_planned_52 : decode cX12_planned 52 = .ok (.iload_n 1, 1) := by decide +kernel
theorem dX12_planned_53 : decode cX12_planned 53 = .ok (.imul, 1) := by decide +kernel
theorem dX12_planned_54 : decode cX12_planned 54 = .ok (.iload_n 2, 1) := by decide +kernel
theorem dX12_planned_55 : decode cX12_planned 55 = .ok (.iadd, 1) := by decide +kernel
theorem dX12_planned_56 : decode cX12_planned 56 = .ok (.imul, 1) := by decide +kernel
theorem dX12_planned_57 : decode cX12_planned 57 = .ok (.iaload, 1) := by decide +kernel
theorem dX12_planned_58 : decode cX12_planned 58 = .ok (.iconst (-1), 1) := by decide +kernel
theorem dX12_planned_59 : decode cX12_planned 59 = .ok (.if_icmp .eq 14, 3) := by decide +kernel
theorem dX12_planned_62 : decode cX12_planned 62 = .ok (.iload 4, 2) := by decide +kernel
theorem dX12_planned_64 : decode cX12_planned 64 = .ok (.iconst (-1), 1) := by decide +kernel
theorem dX12_planned_65 : decode cX12_planned 65 = .ok (.if_icmp .eq 8, 3) := by decide +kernel
theorem dX12_planned_68 : decode cX12_planned 68 = .ok (.iload_n 3, 1) := by decide +kernel
theorem dX12_planned_69 : decode cX12_planned 69 = .ok (.iconst 2, 1) := by decide +kernel
theorem dX12_planned_70 : decode cX12_planned 70 = .ok (.if_icmp .ge 6, 3) := by decide +kernel
theorem dX12_planned_73 : decode cX12_planned 73 = .ok (.iload 4, 2) := by decide +kernel
theorem dX12_planned_75 : decode cX12_planned 75 = .ok (.ireturn, 1) := by decide +kernel
theorem dX12_planned_76 : decode cX12_planned 76 = .ok (.sipush 336, 3) := by decide +kernel
theorem dX12_planned_79 : decode cX12_planned 79 = .ok (.iload_n 2, 1) := by decide +kernel
theorem dX12_planned_80 : decode cX12_planned 80 = .ok (.imul, 1) := by decide +kernel
theorem dX12_planned_81 : decode cX12_planned 81 = .ok (.aload_n 0, 1) := by decide +kernel
theorem dX12_planned_82 : decode cX12_planned 82 = .ok (.getfield 57, 3) := by decide +kernel
theorem dX12_planned_85 : decode cX12_planned 85 = .ok (.bipush 6, 2) := by decide +kernel
theorem dX12_planned_87 : decode cX12_planned 87 = .ok (.iload_n 1, 1) := by decide +kernel
theorem dX12_planned_88 : decode cX12_planned 88 = .ok (.imul, 1) := by decide +kernel
theorem dX12_planned_89 : decode cX12_planned 89 = .ok (.iload 4, 2) := by decide +kernel
theorem dX12_planned_91 : decode cX12_planned 91 = .ok (.iadd, 1) := by decide +kernel
theorem dX12_planned_92 : decode cX12_planned 92 = .ok (.iaload, 1) := by decide +kernel
theorem dX12_planned_93 : decode cX12_planned 93 = .ok (.iadd, 1) := by decide +kernel
theorem dX12_planned_94 : decode cX12_planned 94 = .ok (.ireturn, 1) := by decide +kernel
theorem dX12_comes_0 : decode cX12_comes 0 = .ok (.aload_n 0, 1) := by decide +kernel
theorem dX12_comes_1 : decode cX12_comes 1 = .ok (.iload_n 1, 1) := by decide +kernel
theorem dX12_comes_2 : decode cX12_comes 2 = .ok (.invokevirtual 139, 3) := by decide +kernel
theorem dX12_comes_5 : decode cX12_comes 5 = .ok (.ifCond .eq 44, 3) := by decide +kernel
theorem dX12_comes_8 : decode cX12_comes 8 = .ok (.aload_n 0, 1) := by decide +kernel
theorem dX12_comes_9 : decode cX12_comes 9 = .ok (.iload_n 2, 1) := by decide +kernel
theorem dX12_comes_10 : decode cX12_comes 10 = .ok (.invokevirtual 146, 3) := by decide +kernel
theorem dX12_comes_13 : decode cX12_comes 13 = .ok (.ifCond .eq 36, 3) := by decide +kernel
theorem dX12_comes_16 : decode cX12_comes 16 = .ok (.iload_n 3, 1) := by decide +kernel
theorem dX12_comes_17 : decode cX12_comes 17 = .ok (.invokestatic 149, 3) := by decide +kernel
theorem dX12_comes_20 : decode cX12_comes 20 = .ok (.ifCond .eq 29, 3) := by decide +kernel
theorem dX12_comes_23 : decode cX12_comes 23 = .ok (.aload_n 0, 1) := by decide +kernel
theorem dX12_comes_24 : decode cX12_comes 24 = .ok (.iload 4, 2) := by decide +kernel
theorem dX12_comes_26 : decode cX12_comes 26 = .ok (.invokevirtual 152, 3) := by decide +kernel
theorem dX12_comes_29 : decode cX12_comes 29 = .ok (.ifCond .eq 20, 3) := by decide +kernel
theorem dX12_comes_32 : decode cX12_comes 32 = .ok (.aload_n 0, 1) := by decide +kernel
theorem dX12_comes_33 : decode cX12_comes 33 = .ok (.getfield 63, 3) := by decide +kernel
theorem dX12_comes_36 : decode cX12_comes 36 = .ok (.iconst 2, 1) := by decide +kernel
theorem dX12_comes_37 : decode cX12_comes 37 = .ok (.bipush 52, 2) := by decide +kernel
theorem dX12_comes_39 : decode cX12_comes 39 = .ok (.iload_n 2, 1) := by decide +kernel
theorem dX12_comes_40 : decode cX12_comes 40 = .ok (.imul, 1) := by decide +kernel
theorem dX12_comes_41 : decode cX12_comes 41 = .ok (.iload_n 3, 1) := by decide +kernel
theorem dX12_comes_42 : decode cX12_comes 42 = .ok (.iadd, 1) := by decide +kernel
theorem dX12_comes_43 : decode cX12_comes 43 = .ok (.imul, 1) := by decide +kernel
theorem dX12_comes_44 : decode cX12_comes 44 = .ok (.iaload, 1) := by decide +kernel
theorem dX12_comes_45 : decode cX12_comes 45 = .ok (.iconst (-1), 1) := by decide +kernel
theorem dX12_comes_46 : decode cX12_comes 46 = .ok (.if_icmp .ne 5, 3) := by decide +kernel
theorem dX12_comes_49 : decode cX12_comes 49 = .ok (.iconst (-1), 1) := by decide +kernel
theorem dX12_comes_50 : decode cX12_comes 50 = .ok (.ireturn, 1) := by decide +kernel
theorem dX12_comes_51 : decode cX12_comes 51 = .ok (.aload_n 0, 1) := by decide +kernel
theorem dX12_comes_52 : decode cX12_comes 52 = .ok (.iload_n 3, 1) := by decide +kernel
theorem dX12_comes_53 : decode cX12_comes 53 = .ok (.iload 4, 2) := by decide +kernel
theorem dX12_comes_55 : decode cX12_comes 55 = .ok (.invokevirtual 214, 3) := by decide +kernel
theorem dX12_comes_58 : decode cX12_comes 58 = .ok (.aload_n 0, 1) := by decide +kernel
theorem dX12_comes_59 : decode cX12_comes 59 = .ok (.iload_n 2, 1) := by decide +kernel
theorem dX12_comes_60 : decode cX12_comes 60 = .ok (.iconst 1, 1) := by decide +kernel
theorem dX12_comes_61 : decode cX12_comes 61 = .ok (.iadd, 1) := by decide +kernel
theorem dX12_comes_62 : decode cX12_comes 62 = .ok (.invokevirtual 218, 3) := by decide +kernel
theorem dX12_comes_65 : decode cX12_comes 65 = .ok (.aload_n 0, 1) := by decide +kernel
theorem dX12_comes_66 : decode cX12_comes 66 = .ok (.getfield 72, 3) := by decide +kernel
theorem dX12_comes_69 : decode cX12_comes 69 = .ok (.bipush 12, 2) := by decide +kernel
theorem dX12_comes_71 : decode cX12_comes 71 = .ok (.iload_n 2, 1) := by decide +kernel
theorem dX12_comes_72 : decode cX12_comes 72 = .ok (.imul, 1) := by decide +kernel
theorem dX12_comes_73 : decode cX12_comes 73 = .ok (.iload_n 1, 1) := by decide +kernel
theorem dX12_comes_74 : decode cX12_comes 74 = .ok (.iadd, 1) := by decide +kernel
theorem dX12_comes_75 : decode cX12_comes 75 = .ok (.iaload, 1) := by decide +kernel
theorem dX12_comes_76 : decode cX12_comes 76 = .ok (.ireturn, 1) := by decide +kernel
theorem dX12_sum_0 : decode cX12_sum 0 = .ok (.aload_n 0, 1) := by decide +kernel
theorem dX12_sum_1 : decode cX12_sum 1 = .ok (.iload_n 1, 1) := by decide +kernel
theorem dX12_sum_2 : decode cX12_sum 2 = .ok (.invokevirtual 139, 3) := by decide +kernel
theorem dX12_sum_5 : decode cX12_sum 5 = .ok (.ifCond .eq 11, 3) := by decide +kernel
theorem dX12_sum_8 : decode cX12_sum 8 = .ok (.aload_n 0, 1) := by decide +kernel
theorem dX12_sum_9 : decode cX12_sum 9 = .ok (.iload_n 2, 1) := by decide +kernel
theorem dX12_sum_10 : decode cX12_sum 10 = .ok (.invokevirtual 152, 3) := by decide +kernel
theorem dX12_sum_13 : decode cX12_sum 13 = .ok (.ifCond .ne 5, 3) := by decide +kernel
theorem dX12_sum_16 : decode cX12_sum 16 = .ok (.iconst (-1), 1) := by decide +kernel
theorem dX12_sum_17 : decode cX12_sum 17 = .ok (.ireturn, 1) := by decide +kernel
theorem dX12_sum_18 : decode cX12_sum 18 = .ok (.iconst 0, 1) := by decide +kernel
theorem dX12_sum_19 : decode cX12_sum 19 = .ok (.istore_n 3, 1) := by decide +kernel
theorem dX12_sum_20 : decode cX12_sum 20 = .ok (.iconst 0, 1) := by decide +kernel
theorem dX12_sum_21 : decode cX12_sum 21 = .ok (.istore 4, 2) := by decide +kernel
theorem dX12_sum_23 : decode cX12_sum 23 = .ok (.iload 4, 2) := by decide +kernel
theorem dX12_sum_25 : decode cX12_sum 25 = .ok (.bipush 52, 2) := by decide +kernel
theorem dX12_sum_27 : decode cX12_sum 27 = .ok (.if_icmp .ge 141, 3) := by decide +kernel
theorem dX12_sum_30 : decode cX12_sum 30 = .ok (.aload_n 0, 1) := by decide +kernel
theorem dX12_sum_31 : decode cX12_sum 31 = .ok (.iload 4, 2) := by decide +kernel
theorem dX12_sum_33 : decode cX12_sum 33 = .ok (.iload_n 2, 1) := by decide +kernel
theorem dX12_sum_34 : decode cX12_sum 34 = .ok (.invokevirtual 214, 3) := by decide +kernel
theorem dX12_sum_37 : decode cX12_sum 37 = .ok (.iconst 0, 1) := by decide +kernel
theorem dX12_sum_38 : decode cX12_sum 38 = .ok (.istore 5, 2) := by decide +kernel
theorem dX12_sum_40 : decode cX12_sum 40 = .ok (.iconst 0, 1) := by decide +kernel
theorem dX12_sum_41 : decode cX12_sum 41 = .ok (.istore 6, 2) := by decide +kernel
theorem dX12_sum_43 : decode cX12_sum 43 = .ok (.iload 6, 2) := by decide +kernel
theorem dX12_sum_45 : decode cX12_sum 45 = .ok (.aload_n 0, 1) := by decide +kernel
theorem dX12_sum_46 : decode cX12_sum 46 = .ok (.getfield 126, 3) := by decide +kernel
theorem dX12_sum_49 : decode cX12_sum 49 = .ok (.if_icmp .ge 32, 3) := by decide +kernel
theorem dX12_sum_52 : decode cX12_sum 52 = .ok (.iload 5, 2) := by decide +kernel
theorem dX12_sum_54 : decode cX12_sum 54 = .ok (.ifCond .ne 14, 3) := by decide +kernel
theorem dX12_sum_57 : decode cX12_sum 57 = .ok (.aload_n 0, 1) := by decide +kernel
theorem dX12_sum_58 : decode cX12_sum 58 = .ok (.getfield 66, 3) := by decide +kernel
theorem dX12_sum_61 : decode cX12_sum 61 = .ok (.iload 6, 2) := by decide +kernel
theorem dX12_sum_63 : decode cX12_sum 63 = .ok (.iaload, 1) := by decide +kernel
theorem dX12_sum_64 : decode cX12_sum 64 = .ok (.iconst (-1), 1) := by decide +kernel
theorem dX12_sum_65 : decode cX12_sum 65 = .ok (.if_icmp .eq 7, 3) := by decide +kernel
theorem dX12_sum_68 : decode cX12_sum 68 = .ok (.iconst 1, 1) := by decide +kernel
theorem dX12_sum_69 : decode cX12_sum 69 = .ok (.goto 4, 3) := by decide +kernel
theorem dX12_sum_72 : decode cX12_sum 72 = .ok (.iconst 0, 1) := by decide +kernel
theorem dX12_sum_73 : decode cX12_sum 73 = .ok (.istore 5, 2) := by decide +kernel
theorem dX12_sum_75 : decode cX12_sum 75 = .ok (.iinc 6 1, 3) := by decide +kernel
theorem dX12_sum_78 : decode cX12_sum 78 = .ok (.goto (-35), 3) := by decide +kernel
theorem dX12_sum_81 : decode cX12_sum 81 = .ok (.iload 5, 2) := by decide +kernel
theorem dX12_sum_83 : decode cX12_sum 83 = .ok (.ifCond .ne 6, 3) := by decide +kernel
theorem dX12_sum_86 : decode cX12_sum 86 = .ok (.goto 76, 3) := by decide +kernel
theorem dX12_sum_89 : decode cX12_sum 89 = .ok (.aload_n 0, 1) := by decide +kernel
theorem dX12_sum_90 : decode cX12_sum 90 = .ok (.aload_n 0, 1) := by decide +kernel
theorem dX12_sum_91 : decode cX12_sum 91 = .ok (.getfield 126, 3) := by decide +kernel
theorem dX12_sum_94 : decode cX12_sum 94 = .ok (.invokevirtual 218, 3) := by decide +kernel
theorem dX12_sum_97 : decode cX12_sum 97 = .ok (.iconst 0, 1) := by decide +kernel
theorem dX12_sum_98 : decode cX12_sum 98 = .ok (.istore 6, 2) := by decide +kernel
theorem dX12_sum_100 : decode cX12_sum 100 = .ok (.iload 6, 2) := by decide +kernel
theorem dX12_sum_102 : decode cX12_sum 102 = .ok (.aload_n 0, 1) := by decide +kernel
theorem dX12_sum_103 : decode cX12_sum 103 = .ok (.getfield 126, 3) := by decide +kernel
theorem dX12_sum_106 : decode cX12_sum 106 = .ok (.if_icmp .ge 56, 3) := by decide +kernel
theorem dX12_sum_109 : decode cX12_sum 109 = .ok (.aload_n 0, 1) := by decide +kernel
theorem dX12_sum_110 : decode cX12_sum 110 = .ok (.getfield 66, 3) := by decide +kernel
theorem dX12_sum_113 : decode cX12_sum 113 = .ok (.iload 6, 2) := by decide +kernel
theorem dX12_sum_115 : decode cX12_sum 115 = .ok (.iaload, 1) := by decide +kernel
theorem dX12_sum_116 : decode cX12_sum 116 = .ok (.iconst (-1), 1) := by decide +kernel
theorem dX12_sum_117 : decode cX12_sum 117 = .ok (.if_icmp .eq 39, 3) := by decide +kernel
theorem dX12_sum_120 : decode cX12_sum 120 = .ok (.iload_n 3, 1) := by decide +kernel
theorem dX12_sum_121 : decode cX12_sum 121 = .ok (.aload_n 0, 1) := by decide +kernel
theorem dX12_sum_122 : decode cX12_sum 122 = .ok (.iload_n 1, 1) := by decide +kernel
theorem dX12_sum_123 : decode cX12_sum 123 = .ok (.iload 6, 2) := by decide +kernel
theorem dX12_sum_125 : decode cX12_sum 125 = .ok (.aload_n 0, 1) := by decide +kernel
theorem dX12_sum_126 : decode cX12_sum 126 = .ok (.getfield 66, 3) := by decide +kernel
theorem dX12_sum_129 : decode cX12_sum 129 = .ok (.iload 6, 2) := by decide +kernel
theorem dX12_sum_131 : decode cX12_sum 131 = .ok (.iaload, 1) := by decide +kernel
theorem dX12_sum_132 : decode cX12_sum 132 = .ok (.aload_n 0, 1) := by decide +kernel
theorem dX12_sum_133 : decode cX12_sum 133 = .ok (.getfield 69, 3) := by decide +kernel
theorem dX12_sum_136 : decode cX12_sum 136 = .ok (.iload 6, 2) := by decide +kernel
theorem dX12_sum_138 : decode cX12_sum 138 = .ok (.iaload, 1) := by decide +kernel
theorem dX12_sum_139 : decode cX12_sum 139 = .ok (.aload_n 0, 1) := by decide +kernel
theorem dX12_sum_140 : decode cX12_sum 140 = .ok (.getfield 72, 3) := by decide +kernel
theorem dX12_sum_143 : decode cX12_sum 143 = .ok (.bipush 12, 2) := by decide +kernel
theorem dX12_sum_145 : decode cX12_sum 145 = .ok (.iload 6, 2) := by decide +kernel
theorem dX12_sum_147 : decode cX12_sum 147 = .ok (.imul, 1) := by decide +kernel
theorem dX12_sum_148 : decode cX12_sum 148 = .ok (.iload_n 1, 1) := by decide +kernel
theorem dX12_sum_149 : decode cX12_sum 149 = .ok (.iadd, 1) := by decide +kernel
theorem dX12_sum_150 : decode cX12_sum 150 = .ok (.iaload, 1) := by decide +kernel
theorem dX12_sum_151 : decode cX12_sum 151 = .ok (.invokevirtual 230, 3) := by decide +kernel
theorem dX12_sum_154 : decode cX12_sum 154 = .ok (.iadd, 1) := by decide +kernel
theorem dX12_sum_155 : decode cX12_sum 155 = .ok (.istore_n 3, 1) := by decide +kernel
theorem dX12_sum_156 : decode cX12_sum 156 = .ok (.iinc 6 1, 3) := by decide +kernel
theorem dX12_sum_159 : decode cX12_sum 159 = .ok (.goto (-59), 3) := by decide +kernel
theorem dX12_sum_162 : decode cX12_sum 162 = .ok (.iinc 4 1, 3) := by decide +kernel
theorem dX12_sum_165 : decode cX12_sum 165 = .ok (.goto (-142), 3) := by decide +kernel
theorem dX12_sum_168 : decode cX12_sum 168 = .ok (.iload_n 3, 1) := by decide +kernel
theorem dX12_sum_169 : decode cX12_sum 169 = .ok (.ireturn, 1) := by decide +kernel
theorem dX12_isShifted_0 : decode cX12_isShifted 0 = .ok (.iconst 0, 1) := by decide +kernel
theorem dX12_isShifted_1 : decode cX12_isShifted 1 = .ok (.istore 5, 2) := by decide +kernel
theorem dX12_isShifted_3 : decode cX12_isShifted 3 = .ok (.iload 5, 2) := by decide +kernel
theorem dX12_isShifted_5 : decode cX12_isShifted 5 = .ok (.aload_n 0, 1) := by decide +kernel
theorem dX12_isShifted_6 : decode cX12_isShifted 6 = .ok (.getfield 123, 3) := by decide +kernel
theorem dX12_isShifted_9 : decode cX12_isShifted 9 = .ok (.if_icmp .ge 56, 3) := by decide +kernel
theorem dX12_isShifted_12 : decode cX12_isShifted 12 = .ok (.aload_n 0, 1) := by decide +kernel
theorem dX12_isShifted_13 : decode cX12_isShifted 13 = .ok (.getfield 60, 3) := by decide +kernel
theorem dX12_isShifted_16 : decode cX12_isShifted 16 = .ok (.bipush 12, 2) := by decide +kernel
theorem dX12_isShifted_18 : decode cX12_isShifted 18 = .ok (.iload_n 1, 1) := by decide +kernel
theorem dX12_isShifted_19 : decode cX12_isShifted 19 = .ok (.imul, 1) := by decide +kernel
theorem dX12_isShifted_20 : decode cX12_isShifted 20 = .ok (.iload 5, 2) := by decide +kernel
theorem dX12_isShifted_22 : decode cX12_isShifted 22 = .ok (.iadd, 1) := by decide +kernel
theorem dX12_isShifted_23 : decode cX12_isShifted 23 = .ok (.iaload, 1) := by decide +kernel
theorem dX12_isShifted_24 : decode cX12_isShifted 24 = .ok (.ifCond .le 35, 3) := by decide +kernel
theorem dX12_isShifted_27 : decode cX12_isShifted 27 = .ok (.aload_n 0, 1) := by decide +kernel
theorem dX12_isShifted_28 : decode cX12_isShifted 28 = .ok (.aload_n 0, 1) := by decide +kernel
theorem dX12_isShifted_29 : decode cX12_isShifted 29 = .ok (.getfield 17, 3) := by decide +kernel
theorem dX12_isShifted_32 : decode cX12_isShifted 32 = .ok (.iload 5, 2) := by decide +kernel
theorem dX12_isShifted_34 : decode cX12_isShifted 34 = .ok (.iaload, 1) := by decide +kernel
theorem dX12_isShifted_35 : decode cX12_isShifted 35 = .ok (.iload_n 2, 1) := by decide +kernel
theorem dX12_isShifted_36 : decode cX12_isShifted 36 = .ok (.iload_n 3, 1) := by decide +kernel
theorem dX12_isShifted_37 : decode cX12_isShifted 37 = .ok (.invokevirtual 156, 3) := by decide +kernel
theorem dX12_isShifted_40 : decode cX12_isShifted 40 = .ok (.aload_n 0, 1) := by decide +kernel
theorem dX12_isShifted_41 : decode cX12_isShifted 41 = .ok (.aload_n 0, 1) := by decide +kernel
theorem dX12_isShifted_42 : decode cX12_isShifted 42 = .ok (.getfield 17, 3) := by decide +kernel
theorem dX12_isShifted_45 : decode cX12_isShifted 45 = .ok (.iload 5, 2) := by decide +kernel
theorem dX12_isShifted_47 : decode cX12_isShifted 47 = .ok (.iaload, 1) := by decide +kernel
theorem dX12_isShifted_48 : decode cX12_isShifted 48 = .ok (.iload_n 2, 1) := by decide +kernel
theorem dX12_isShifted_49 : decode cX12_isShifted 49 = .ok (.iload 4, 2) := by decide +kernel
theorem dX12_isShifted_51 : decode cX12_isShifted 51 = .ok (.invokevirtual 156, 3) := by decide +kernel
theorem dX12_isShifted_54 : decode cX12_isShifted 54 = .ok (.if_icmp .eq 5, 3) := by decide +kernel
theorem dX12_isShifted_57 : decode cX12_isShifted 57 = .ok (.iconst 1, 1) := by decide +kernel
theorem dX12_isShifted_58 : decode cX12_isShifted 58 = .ok (.ireturn, 1) := by decide +kernel
theorem dX12_isShifted_59 : decode cX12_isShifted 59 = .ok (.iinc 5 1, 3) := by decide +kernel
theorem dX12_isShifted_62 : decode cX12_isShifted 62 = .ok (.goto (-59), 3) := by decide +kernel
theorem dX12_isShifted_65 : decode cX12_isShifted 65 = .ok (.iconst 0, 1) := by decide +kernel
theorem dX12_isShifted_66 : decode cX12_isShifted 66 = .ok (.ireturn, 1) := by decide +kernel
theorem dX12_shifted_0 : decode cX12_shifted 0 = .ok (.aload_n 0, 1) := by decide +kernel
theorem dX12_shifted_1 : decode cX12_shifted 1 = .ok (.iload_n 1, 1) := by decide +kernel
theorem dX12_shifted_2 : decode cX12_shifted 2 = .ok (.invokevirtual 152, 3) := by decide +kernel
theorem dX12_shifted_5 : decode cX12_shifted 5 = .ok (.ifCond .eq 11, 3) := by decide +kernel
theorem dX12_shifted_8 : decode cX12_shifted 8 = .ok (.aload_n 0, 1) := by decide +kernel
theorem dX12_shifted_9 : decode cX12_shifted 9 = .ok (.iload_n 2, 1) := by decide +kernel
theorem dX12_shifted_10 : decode cX12_shifted 10 = .ok (.invokevirtual 152, 3) := by decide +kernel
theorem dX12_shifted_13 : decode cX12_shifted 13 = .ok (.ifCond .ne 5, 3) := by decide +kernel
theorem dX12_shifted_16 : decode cX12_shifted 16 = .ok (.iconst (-1), 1) := by decide +kernel
theorem dX12_shifted_17 : decode cX12_shifted 17 = .ok (.ireturn, 1) := by decide +kernel
theorem dX12_shifted_18 : decode cX12_shifted 18 = .ok (.iconst 0, 1) := by decide +kernel
theorem dX12_shifted_19 : decode cX12_shifted 19 = .ok (.istore_n 3, 1) := by decide +kernel
theorem dX12_shifted_20 : decode cX12_shifted 20 = .ok (.iconst 0, 1) := by decide +kernel
theorem dX12_shifted_21 : decode cX12_shifted 21 = .ok (.istore 4, 2) := by decide +kernel
theorem dX12_shifted_23 : decode cX12_shifted 23 = .ok (.iload 4, 2) := by decide +kernel
theorem dX12_shifted_25 : decode cX12_shifted 25 = .ok (.aload_n 0, 1) := by decide +kernel
theorem dX12_shifted_26 : decode cX12_shifted 26 = .ok (.getfield 126, 3) := by decide +kernel
theorem dX12_shifted_29 : decode cX12_shifted 29 = .ok (.if_icmp .ge 100, 3) := by decide +kernel
theorem dX12_shifted_32 : decode cX12_shifted 32 = .ok (.iconst 0, 1) := by decide +kernel
theorem dX12_shifted_33 : decode cX12_shifted 33 = .ok (.istore 5, 2) := by decide +kernel
theorem dX12_shifted_35 : decode cX12_shifted 35 = .ok (.iload 5, 2) := by decide +kernel
theorem dX12_shifted_37 : decode cX12_shifted 37 = .ok (.bipush 52, 2) := by decide +kernel
theorem dX12_shifted_39 : decode cX12_shifted 39 = .ok (.if_icmp .ge 84, 3) := by decide +kernel
theorem dX12_shifted_42 : decode cX12_shifted 42 = .ok (.iconst 0, 1) := by decide +kernel
theorem dX12_shifted_43 : decode cX12_shifted 43 = .ok (.istore 6, 2) := by decide +kernel
theorem dX12_shifted_45 : decode cX12_shifted 45 = .ok (.iload 6, 2) := by decide +kernel
theorem dX12_shifted_47 : decode cX12_shifted 47 = .ok (.iconst 2, 1) := by decide +kernel
theorem dX12_shifted_48 : decode cX12_shifted 48 = .ok (.if_icmp .ge 69, 3) := by decide +kernel
theorem dX12_shifted_51 : decode cX12_shifted 51 = .ok (.aload_n 0, 1) := by decide +kernel
theorem dX12_shifted_52 : decode cX12_shifted 52 = .ok (.getfield 63, 3) := by decide +kernel
theorem dX12_shifted_55 : decode cX12_shifted 55 = .ok (.iconst 2, 1) := by decide +kernel
theorem dX12_shifted_56 : decode cX12_shifted 56 = .ok (.bipush 52, 2) := by decide +kernel
theorem dX12_shifted_58 : decode cX12_shifted 58 = .ok (.iload 4, 2) := by decide +kernel
theorem dX12_shifted_60 : decode cX12_shifted 60 = .ok (.imul, 1) := by decide +kernel
theorem dX12_shifted_61 : decode cX12_shifted 61 = .ok (.iload 5, 2) := by decide +kernel
theorem dX12_shifted_63 : decode cX12_shifted 63 = .ok (.iadd, 1) := by decide +kernel
theorem dX12_shifted_64 : decode cX12_shifted 64 = .ok (.imul, 1) := by decide +kernel
theorem dX12_shifted_65 : decode cX12_shifted 65 = .ok (.iload 6, 2) := by decide +kernel
theorem dX12_shifted_67 : decode cX12_shifted 67 = .ok (.iadd, 1) := by decide +kernel
theorem dX12_shifted_68 : decode cX12_shifted 68 = .ok (.iaload, 1) := by decide +kernel
theorem dX12_shifted_69 : decode cX12_shifted 69 = .ok (.istore 7, 2) := by decide +kernel
theorem dX12_shifted_71 : decode cX12_shifted 71 = .ok (.iload 7, 2) := by decide +kernel
theorem dX12_shifted_73 : decode cX12_shifted 73 = .ok (.iconst (-1), 1) := by decide +kernel
theorem dX12_shifted_74 : decode cX12_shifted 74 = .ok (.if_icmp .eq 37, 3) := by decide +kernel
theorem dX12_shifted_77 : decode cX12_shifted 77 = .ok (.aload_n 0, 1) := by decide +kernel
theorem dX12_shifted_78 : decode cX12_shifted 78 = .ok (.iload 4, 2) := by decide +kernel
theorem dX12_shifted_80 : decode cX12_shifted 80 = .ok (.sipush 336, 3) := by decide +kernel
theorem dX12_shifted_83 : decode cX12_shifted 83 = .ok (.iload 5, 2) := by decide +kernel
theorem dX12_shifted_85 : decode cX12_shifted 85 = .ok (.imul, 1) := by decide +kernel
theorem dX12_shifted_86 : decode cX12_shifted 86 = .ok (.aload_n 0, 1) := by decide +kernel
theorem dX12_shifted_87 : decode cX12_shifted 87 = .ok (.getfield 57, 3) := by decide +kernel
theorem dX12_shifted_90 : decode cX12_shifted 90 = .ok (.bipush 6, 2) := by decide +kernel
theorem dX12_shifted_92 : decode cX12_shifted 92 = .ok (.iload 4, 2) := by decide +kernel
theorem dX12_shifted_94 : decode cX12_shifted 94 = .ok (.imul, 1) := by decide +kernel
theorem dX12_shifted_95 : decode cX12_shifted 95 = .ok (.iload 7, 2) := by decide +kernel
theorem dX12_shifted_97 : decode cX12_shifted 97 = .ok (.iadd, 1) := by decide +kernel
theorem dX12_shifted_98 : decode cX12_shifted 98 = .ok (.iaload, 1) := by decide +kernel
theorem dX12_shifted_99 : decode cX12_shifted 99 = .ok (.iadd, 1) := by decide +kernel
theorem dX12_shifted_100 : decode cX12_shifted 100 = .ok (.iload_n 1, 1) := by decide +kernel
theorem dX12_shifted_101 : decode cX12_shifted 101 = .ok (.iload_n 2, 1) := by decide +kernel
theorem dX12_shifted_102 : decode cX12_shifted 102 = .ok (.invokevirtual 263, 3) := by decide +kernel
theorem dX12_shifted_105 : decode cX12_shifted 105 = .ok (.ifCond .eq 6, 3) := by decide +kernel
theorem dX12_shifted_108 : decode cX12_shifted 108 = .ok (.iinc 3 1, 3) := by decide +kernel
theorem dX12_shifted_111 : decode cX12_shifted 111 = .ok (.iinc 6 1, 3) := by decide +kernel
theorem dX12_shifted_114 : decode cX12_shifted 114 = .ok (.goto (-69), 3) := by decide +kernel
theorem dX12_shifted_117 : decode cX12_shifted 117 = .ok (.iinc 5 1, 3) := by decide +kernel
theorem dX12_shifted_120 : decode cX12_shifted 120 = .ok (.goto (-85), 3) := by decide +kernel
theorem dX12_shifted_123 : decode cX12_shifted 123 = .ok (.iinc 4 1, 3) := by decide +kernel
theorem dX12_shifted_126 : decode cX12_shifted 126 = .ok (.goto (-103), 3) := by decide +kernel
theorem dX12_shifted_129 : decode cX12_shifted 129 = .ok (.iload_n 3, 1) := by decide +kernel
theorem dX12_shifted_130 : decode cX12_shifted 130 = .ok (.ireturn, 1) := by decide +kernel
theorem dX12_count_0 : decode cX12_count 0 = .ok (.iload_n 1, 1) := by decide +kernel
theorem dX12_count_1 : decode cX12_count 1 = .ok (.tableswitch 89 0 4 #[35, 40, 45, 50, 55], 35) := by decide +kernel
theorem dX12_count_36 : decode cX12_count 36 = .ok (.aload_n 0, 1) := by decide +kernel
theorem dX12_count_37 : decode cX12_count 37 = .ok (.getfield 120, 3) := by decide +kernel
theorem dX12_count_40 : decode cX12_count 40 = .ok (.ireturn, 1) := by decide +kernel
theorem dX12_count_41 : decode cX12_count 41 = .ok (.aload_n 0, 1) := by decide +kernel
theorem dX12_count_42 : decode cX12_count 42 = .ok (.getfield 123, 3) := by decide +kernel
theorem dX12_count_45 : decode cX12_count 45 = .ok (.ireturn, 1) := by decide +kernel
theorem dX12_count_46 : decode cX12_count 46 = .ok (.aload_n 0, 1) := by decide +kernel
theorem dX12_count_47 : decode cX12_count 47 = .ok (.getfield 129, 3) := by decide +kernel
theorem dX12_count_50 : decode cX12_count 50 = .ok (.ireturn, 1) := by decide +kernel
theorem dX12_count_51 : decode cX12_count 51 = .ok (.aload_n 0, 1) := by decide +kernel
theorem dX12_count_52 : decode cX12_count 52 = .ok (.getfield 126, 3) := by decide +kernel
theorem dX12_count_55 : decode cX12_count 55 = .ok (.ireturn, 1) := by decide +kernel
theorem dX12_count_56 : decode cX12_count 56 = .ok (.iconst 0, 1) := by decide +kernel
theorem dX12_count_57 : decode cX12_count 57 = .ok (.istore_n 2, 1) := by decide +kernel
theorem dX12_count_58 : decode cX12_count 58 = .ok (.iconst 0, 1) := by decide +kernel
theorem dX12_count_59 : decode cX12_count 59 = .ok (.istore_n 3, 1) := by decide +kernel
theorem dX12_count_60 : decode cX12_count 60 = .ok (.iload_n 3, 1) := by decide +kernel
theorem dX12_count_61 : decode cX12_count 61 = .ok (.sipush 208, 3) := by decide +kernel
theorem dX12_count_64 : decode cX12_count 64 = .ok (.if_icmp .ge 24, 3) := by decide +kernel
theorem dX12_count_67 : decode cX12_count 67 = .ok (.aload_n 0, 1) := by decide +kernel
theorem dX12_count_68 : decode cX12_count 68 = .ok (.getfield 63, 3) := by decide +kernel
theorem dX12_count_71 : decode cX12_count 71 = .ok (.iconst 2, 1) := by decide +kernel
theorem dX12_count_72 : decode cX12_count 72 = .ok (.iload_n 3, 1) := by decide +kernel
theorem dX12_count_73 : decode cX12_count 73 = .ok (.imul, 1) := by decide +kernel
theorem dX12_count_74 : decode cX12_count 74 = .ok (.iaload, 1) := by decide +kernel
theorem dX12_count_75 : decode cX12_count 75 = .ok (.iconst (-1), 1) := by decide +kernel
theorem dX12_count_76 : decode cX12_count 76 = .ok (.if_icmp .eq 6, 3) := by decide +kernel
theorem dX12_count_79 : decode cX12_count 79 = .ok (.iinc 2 1, 3) := by decide +kernel
theorem dX12_count_82 : decode cX12_count 82 = .ok (.iinc 3 1, 3) := by decide +kernel
theorem dX12_count_85 : decode cX12_count 85 = .ok (.goto (-25), 3) := by decide +kernel
theorem dX12_count_88 : decode cX12_count 88 = .ok (.iload_n 2, 1) := by decide +kernel
theorem dX12_count_89 : decode cX12_count 89 = .ok (.ireturn, 1) := by decide +kernel
theorem dX12_count_90 : decode cX12_count 90 = .ok (.iconst (-1), 1) := by decide +kernel
theorem dX12_count_91 : decode cX12_count 91 = .ok (.ireturn, 1) := by decide +kernel
