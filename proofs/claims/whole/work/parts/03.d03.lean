theorem dX11_lean_100 : decode cX11_lean 100 = .ok (.ireturn, 1) := by decide +kernel
theorem dX11_ahead_0 : decode cX11_ahead 0 = .ok (.iload_n 1, 1) := by decide +kernel
theorem dX11_ahead_1 : decode cX11_ahead 1 = .ok (.invokestatic 163, 3) := by decide +kernel
theorem dX11_ahead_4 : decode cX11_ahead 4 = .ok (.ifCond .eq 11, 3) := by decide +kernel
theorem dX11_ahead_7 : decode cX11_ahead 7 = .ok (.iload_n 2, 1) := by decide +kernel
theorem dX11_ahead_8 : decode cX11_ahead 8 = .ok (.iconst 2, 1) := by decide +kernel
theorem dX11_ahead_9 : decode cX11_ahead 9 = .ok (.invokestatic 101, 3) := by decide +kernel
theorem dX11_ahead_12 : decode cX11_ahead 12 = .ok (.ifCond .ne 5, 3) := by decide +kernel
theorem dX11_ahead_15 : decode cX11_ahead 15 = .ok (.iconst (-1), 1) := by decide +kernel
theorem dX11_ahead_16 : decode cX11_ahead 16 = .ok (.ireturn, 1) := by decide +kernel
theorem dX11_ahead_17 : decode cX11_ahead 17 = .ok (.aload_n 0, 1) := by decide +kernel
theorem dX11_ahead_18 : decode cX11_ahead 18 = .ok (.getfield 44, 3) := by decide +kernel
theorem dX11_ahead_21 : decode cX11_ahead 21 = .ok (.invokevirtual 286, 3) := by decide +kernel
theorem dX11_ahead_24 : decode cX11_ahead 24 = .ok (.iconst 0, 1) := by decide +kernel
theorem dX11_ahead_25 : decode cX11_ahead 25 = .ok (.istore_n 3, 1) := by decide +kernel
theorem dX11_ahead_26 : decode cX11_ahead 26 = .ok (.iload_n 3, 1) := by decide +kernel
theorem dX11_ahead_27 : decode cX11_ahead 27 = .ok (.sipush 200, 3) := by decide +kernel
theorem dX11_ahead_30 : decode cX11_ahead 30 = .ok (.if_icmp .gt 40, 3) := by decide +kernel
theorem dX11_ahead_33 : decode cX11_ahead 33 = .ok (.iload_n 2, 1) := by decide +kernel
theorem dX11_ahead_34 : decode cX11_ahead 34 = .ok (.ifCond .ne 7, 3) := by decide +kernel
theorem dX11_ahead_37 : decode cX11_ahead 37 = .ok (.iload_n 3, 1) := by decide +kernel
theorem dX11_ahead_38 : decode cX11_ahead 38 = .ok (.goto 8, 3) := by decide +kernel
theorem dX11_ahead_41 : decode cX11_ahead 41 = .ok (.sipush 200, 3) := by decide +kernel
theorem dX11_ahead_44 : decode cX11_ahead 44 = .ok (.iload_n 3, 1) := by decide +kernel
theorem dX11_ahead_45 : decode cX11_ahead 45 = .ok (.isub, 1) := by decide +kernel
theorem dX11_ahead_46 : decode cX11_ahead 46 = .ok (.istore 4, 2) := by decide +kernel
theorem dX11_ahead_48 : decode cX11_ahead 48 = .ok (.aload_n 0, 1) := by decide +kernel
theorem dX11_ahead_49 : decode cX11_ahead 49 = .ok (.getfield 44, 3) := by decide +kernel
theorem dX11_ahead_52 : decode cX11_ahead 52 = .ok (.iload_n 1, 1) := by decide +kernel
theorem dX11_ahead_53 : decode cX11_ahead 53 = .ok (.iload 4, 2) := by decide +kernel
theorem dX11_ahead_55 : decode cX11_ahead 55 = .ok (.invokevirtual 379, 3) := by decide +kernel
theorem dX11_ahead_58 : decode cX11_ahead 58 = .ok (.ifCond .eq 6, 3) := by decide +kernel
theorem dX11_ahead_61 : decode cX11_ahead 61 = .ok (.iload 4, 2) := by decide +kernel
theorem dX11_ahead_63 : decode cX11_ahead 63 = .ok (.ireturn, 1) := by decide +kernel
theorem dX11_ahead_64 : decode cX11_ahead 64 = .ok (.iinc 3 10, 3) := by decide +kernel
theorem dX11_ahead_67 : decode cX11_ahead 67 = .ok (.goto (-41), 3) := by decide +kernel
theorem dX11_ahead_70 : decode cX11_ahead 70 = .ok (.bipush (-2), 2) := by decide +kernel
theorem dX11_ahead_72 : decode cX11_ahead 72 = .ok (.ireturn, 1) := by decide +kernel
theorem dX11_stage_0 : decode cX11_stage 0 = .ok (.aload_n 0, 1) := by decide +kernel
theorem dX11_stage_1 : decode cX11_stage 1 = .ok (.iload_n 1, 1) := by decide +kernel
theorem dX11_stage_2 : decode cX11_stage 2 = .ok (.iload_n 3, 1) := by decide +kernel
theorem dX11_stage_3 : decode cX11_stage 3 = .ok (.iload_n 2, 1) := by decide +kernel
theorem dX11_stage_4 : decode cX11_stage 4 = .ok (.invokevirtual 188, 3) := by decide +kernel
theorem dX11_stage_7 : decode cX11_stage 7 = .ok (.ifCond .eq 19, 3) := by decide +kernel
theorem dX11_stage_10 : decode cX11_stage 10 = .ok (.iload 4, 2) := by decide +kernel
theorem dX11_stage_12 : decode cX11_stage 12 = .ok (.invokestatic 257, 3) := by decide +kernel
theorem dX11_stage_15 : decode cX11_stage 15 = .ok (.ifCond .eq 11, 3) := by decide +kernel
theorem dX11_stage_18 : decode cX11_stage 18 = .ok (.iload 5, 2) := by decide +kernel
theorem dX11_stage_20 : decode cX11_stage 20 = .ok (.invokestatic 257, 3) := by decide +kernel
theorem dX11_stage_23 : decode cX11_stage 23 = .ok (.ifCond .ne 5, 3) := by decide +kernel
theorem dX11_stage_26 : decode cX11_stage 26 = .ok (.iconst (-1), 1) := by decide +kernel
theorem dX11_stage_27 : decode cX11_stage 27 = .ok (.ireturn, 1) := by decide +kernel
theorem dX11_stage_28 : decode cX11_stage 28 = .ok (.aload_n 0, 1) := by decide +kernel
theorem dX11_stage_29 : decode cX11_stage 29 = .ok (.getfield 65, 3) := by decide +kernel
theorem dX11_stage_32 : decode cX11_stage 32 = .ok (.invokevirtual 382, 3) := by decide +kernel
theorem dX11_stage_35 : decode cX11_stage 35 = .ok (.iconst 0, 1) := by decide +kernel
theorem dX11_stage_36 : decode cX11_stage 36 = .ok (.istore 6, 2) := by decide +kernel
theorem dX11_stage_38 : decode cX11_stage 38 = .ok (.iload 6, 2) := by decide +kernel
theorem dX11_stage_40 : decode cX11_stage 40 = .ok (.aload_n 0, 1) := by decide +kernel
theorem dX11_stage_41 : decode cX11_stage 41 = .ok (.getfield 44, 3) := by decide +kernel
theorem dX11_stage_44 : decode cX11_stage 44 = .ok (.getfield 251, 3) := by decide +kernel
theorem dX11_stage_47 : decode cX11_stage 47 = .ok (.if_icmp .ge 61, 3) := by decide +kernel
theorem dX11_stage_50 : decode cX11_stage 50 = .ok (.aload_n 0, 1) := by decide +kernel
theorem dX11_stage_51 : decode cX11_stage 51 = .ok (.getfield 44, 3) := by decide +kernel
theorem dX11_stage_54 : decode cX11_stage 54 = .ok (.iload 6, 2) := by decide +kernel
theorem dX11_stage_56 : decode cX11_stage 56 = .ok (.invokevirtual 383, 3) := by decide +kernel
theorem dX11_stage_59 : decode cX11_stage 59 = .ok (.ifCond .eq 43, 3) := by decide +kernel
theorem dX11_stage_62 : decode cX11_stage 62 = .ok (.aload_n 0, 1) := by decide +kernel
theorem dX11_stage_63 : decode cX11_stage 63 = .ok (.getfield 65, 3) := by decide +kernel
theorem dX11_stage_66 : decode cX11_stage 66 = .ok (.aload_n 0, 1) := by decide +kernel
theorem dX11_stage_67 : decode cX11_stage 67 = .ok (.getfield 44, 3) := by decide +kernel
theorem dX11_stage_70 : decode cX11_stage 70 = .ok (.getfield 260, 3) := by decide +kernel
theorem dX11_stage_73 : decode cX11_stage 73 = .ok (.iload 6, 2) := by decide +kernel
theorem dX11_stage_75 : decode cX11_stage 75 = .ok (.aaload, 1) := by decide +kernel
theorem dX11_stage_76 : decode cX11_stage 76 = .ok (.getfield 373, 3) := by decide +kernel
theorem dX11_stage_79 : decode cX11_stage 79 = .ok (.invokevirtual 386, 3) := by decide +kernel
theorem dX11_stage_82 : decode cX11_stage 82 = .ok (.aload_n 0, 1) := by decide +kernel
theorem dX11_stage_83 : decode cX11_stage 83 = .ok (.getfield 65, 3) := by decide +kernel
theorem dX11_stage_86 : decode cX11_stage 86 = .ok (.aload_n 0, 1) := by decide +kernel
theorem dX11_stage_87 : decode cX11_stage 87 = .ok (.getfield 44, 3) := by decide +kernel
theorem dX11_stage_90 : decode cX11_stage 90 = .ok (.getfield 260, 3) := by decide +kernel
theorem dX11_stage_93 : decode cX11_stage 93 = .ok (.iload 6, 2) := by decide +kernel
theorem dX11_stage_95 : decode cX11_stage 95 = .ok (.aaload, 1) := by decide +kernel
theorem dX11_stage_96 : decode cX11_stage 96 = .ok (.getfield 376, 3) := by decide +kernel
theorem dX11_stage_99 : decode cX11_stage 99 = .ok (.invokevirtual 386, 3) := by decide +kernel
theorem dX11_stage_102 : decode cX11_stage 102 = .ok (.iinc 6 1, 3) := by decide +kernel
theorem dX11_stage_105 : decode cX11_stage 105 = .ok (.goto (-67), 3) := by decide +kernel
theorem dX11_stage_108 : decode cX11_stage 108 = .ok (.aload_n 0, 1) := by decide +kernel
theorem dX11_stage_109 : decode cX11_stage 109 = .ok (.getfield 65, 3) := by decide +kernel
theorem dX11_stage_112 : decode cX11_stage 112 = .ok (.invokevirtual 389, 3) := by decide +kernel
theorem dX11_stage_115 : decode cX11_stage 115 = .ok (.aload_n 0, 1) := by decide +kernel
theorem dX11_stage_116 : decode cX11_stage 116 = .ok (.getfield 65, 3) := by decide +kernel
theorem dX11_stage_119 : decode cX11_stage 119 = .ok (.getfield 392, 3) := by decide +kernel
theorem dX11_stage_122 : decode cX11_stage 122 = .ok (.iconst 0, 1) := by decide +kernel
theorem dX11_stage_123 : decode cX11_stage 123 = .ok (.aload_n 0, 1) := by decide +kernel
theorem dX11_stage_124 : decode cX11_stage 124 = .ok (.getfield 35, 3) := by decide +kernel
theorem dX11_stage_127 : decode cX11_stage 127 = .ok (.iload_n 1, 1) := by decide +kernel
theorem dX11_stage_128 : decode cX11_stage 128 = .ok (.iload_n 3, 1) := by decide +kernel
theorem dX11_stage_129 : decode cX11_stage 129 = .ok (.iload_n 2, 1) := by decide +kernel
theorem dX11_stage_130 : decode cX11_stage 130 = .ok (.invokevirtual 195, 3) := by decide +kernel
theorem dX11_stage_133 : decode cX11_stage 133 = .ok (.iastore, 1) := by decide +kernel
theorem dX11_stage_134 : decode cX11_stage 134 = .ok (.aload_n 0, 1) := by decide +kernel
theorem dX11_stage_135 : decode cX11_stage 135 = .ok (.getfield 65, 3) := by decide +kernel
theorem dX11_stage_138 : decode cX11_stage 138 = .ok (.getfield 392, 3) := by decide +kernel
theorem dX11_stage_141 : decode cX11_stage 141 = .ok (.iconst 1, 1) := by decide +kernel
theorem dX11_stage_142 : decode cX11_stage 142 = .ok (.aload_n 0, 1) := by decide +kernel
theorem dX11_stage_143 : decode cX11_stage 143 = .ok (.getfield 35, 3) := by decide +kernel
theorem dX11_stage_146 : decode cX11_stage 146 = .ok (.iload_n 1, 1) := by decide +kernel
theorem dX11_stage_147 : decode cX11_stage 147 = .ok (.iload 4, 2) := by decide +kernel
theorem dX11_stage_149 : decode cX11_stage 149 = .ok (.iload_n 2, 1) := by decide +kernel
theorem dX11_stage_150 : decode cX11_stage 150 = .ok (.invokevirtual 195, 3) := by decide +kernel
theorem dX11_stage_153 : decode cX11_stage 153 = .ok (.iastore, 1) := by decide +kernel
theorem dX11_stage_154 : decode cX11_stage 154 = .ok (.aload_n 0, 1) := by decide +kernel
theorem dX11_stage_155 : decode cX11_stage 155 = .ok (.getfield 65, 3) := by decide +kernel
theorem dX11_stage_158 : decode cX11_stage 158 = .ok (.getfield 392, 3) := by decide +kernel
theorem dX11_stage_161 : decode cX11_stage 161 = .ok (.iconst 2, 1) := by decide +kernel
theorem dX11_stage_162 : decode cX11_stage 162 = .ok (.aload_n 0, 1) := by decide +kernel
theorem dX11_stage_163 : decode cX11_stage 163 = .ok (.getfield 35, 3) := by decide +kernel
theorem dX11_stage_166 : decode cX11_stage 166 = .ok (.iload_n 1, 1) := by decide +kernel
theorem dX11_stage_167 : decode cX11_stage 167 = .ok (.iload 5, 2) := by decide +kernel
theorem dX11_stage_169 : decode cX11_stage 169 = .ok (.iload_n 2, 1) := by decide +kernel
theorem dX11_stage_170 : decode cX11_stage 170 = .ok (.invokevirtual 195, 3) := by decide +kernel
theorem dX11_stage_173 : decode cX11_stage 173 = .ok (.iastore, 1) := by decide +kernel
theorem dX11_stage_174 : decode cX11_stage 174 = .ok (.iconst 0, 1) := by decide +kernel
theorem dX11_stage_175 : decode cX11_stage 175 = .ok (.istore 6, 2) := by decide +kernel
theorem dX11_stage_177 : decode cX11_stage 177 = .ok (.iload 6, 2) := by decide +kernel
theorem dX11_stage_179 : decode cX11_stage 179 = .ok (.aload_n 0, 1) := by decide +kernel
theorem dX11_stage_180 : decode cX11_stage 180 = .ok (.getfield 44, 3) := by decide +kernel
theorem dX11_stage_183 : decode cX11_stage 183 = .ok (.getfield 251, 3) := by decide +kernel
theorem dX11_stage_186 : decode cX11_stage 186 = .ok (.if_icmp .ge 42, 3) := by decide +kernel
theorem dX11_stage_189 : decode cX11_stage 189 = .ok (.aload_n 0, 1) := by decide +kernel
theorem dX11_stage_190 : decode cX11_stage 190 = .ok (.getfield 44, 3) := by decide +kernel
theorem dX11_stage_193 : decode cX11_stage 193 = .ok (.iload 6, 2) := by decide +kernel
theorem dX11_stage_195 : decode cX11_stage 195 = .ok (.invokevirtual 383, 3) := by decide +kernel
theorem dX11_stage_198 : decode cX11_stage 198 = .ok (.ifCond .eq 24, 3) := by decide +kernel
theorem dX11_stage_201 : decode cX11_stage 201 = .ok (.aload_n 0, 1) := by decide +kernel
theorem dX11_stage_202 : decode cX11_stage 202 = .ok (.getfield 65, 3) := by decide +kernel
theorem dX11_stage_205 : decode cX11_stage 205 = .ok (.aload_n 0, 1) := by decide +kernel
theorem dX11_stage_206 : decode cX11_stage 206 = .ok (.getfield 44, 3) := by decide +kernel
theorem dX11_stage_209 : decode cX11_stage 209 = .ok (.getfield 260, 3) := by decide +kernel
theorem dX11_stage_212 : decode cX11_stage 212 = .ok (.iload 6, 2) := by decide +kernel
theorem dX11_stage_214 : decode cX11_stage 214 = .ok (.aaload, 1) := by decide +kernel
theorem dX11_stage_215 : decode cX11_stage 215 = .ok (.aload_n 0, 1) := by decide +kernel
theorem dX11_stage_216 : decode cX11_stage 216 = .ok (.getfield 26, 3) := by decide +kernel
theorem dX11_stage_219 : decode cX11_stage 219 = .ok (.invokevirtual 393, 3) := by decide +kernel
theorem dX11_stage_222 : decode cX11_stage 222 = .ok (.iinc 6 1, 3) := by decide +kernel
theorem dX11_stage_225 : decode cX11_stage 225 = .ok (.goto (-48), 3) := by decide +kernel
theorem dX11_stage_228 : decode cX11_stage 228 = .ok (.aload_n 0, 1) := by decide +kernel
theorem dX11_stage_229 : decode cX11_stage 229 = .ok (.getfield 65, 3) := by decide +kernel
theorem dX11_stage_232 : decode cX11_stage 232 = .ok (.invokevirtual 397, 3) := by decide +kernel
theorem dX11_stage_235 : decode cX11_stage 235 = .ok (.istore 6, 2) := by decide +kernel
theorem dX11_stage_237 : decode cX11_stage 237 = .ok (.aload_n 0, 1) := by decide +kernel
theorem dX11_stage_238 : decode cX11_stage 238 = .ok (.getfield 19, 3) := by decide +kernel
theorem dX11_stage_241 : decode cX11_stage 241 = .ok (.invokevirtual 192, 3) := by decide +kernel
theorem dX11_stage_244 : decode cX11_stage 244 = .ok (.iconst 0, 1) := by decide +kernel
theorem dX11_stage_245 : decode cX11_stage 245 = .ok (.istore 7, 2) := by decide +kernel
theorem dX11_stage_247 : decode cX11_stage 247 = .ok (.iload 7, 2) := by decide +kernel
theorem dX11_stage_249 : decode cX11_stage 249 = .ok (.aload_n 0, 1) := by decide +kernel
theorem dX11_stage_250 : decode cX11_stage 250 = .ok (.getfield 65, 3) := by decide +kernel
theorem dX11_stage_253 : decode cX11_stage 253 = .ok (.getfield 400, 3) := by decide +kernel
theorem dX11_stage_256 : decode cX11_stage 256 = .ok (.if_icmp .ge 45, 3) := by decide +kernel
theorem dX11_stage_259 : decode cX11_stage 259 = .ok (.aload_n 0, 1) := by decide +kernel
theorem dX11_stage_260 : decode cX11_stage 260 = .ok (.getfield 19, 3) := by decide +kernel
theorem dX11_stage_263 : decode cX11_stage 263 = .ok (.aload_n 0, 1) := by decide +kernel
theorem dX11_stage_264 : decode cX11_stage 264 = .ok (.getfield 65, 3) := by decide +kernel
theorem dX11_stage_267 : decode cX11_stage 267 = .ok (.getfield 403, 3) := by decide +kernel
theorem dX11_stage_270 : decode cX11_stage 270 = .ok (.iload 7, 2) := by decide +kernel
theorem dX11_stage_272 : decode cX11_stage 272 = .ok (.iaload, 1) := by decide +kernel
theorem dX11_stage_273 : decode cX11_stage 273 = .ok (.i2l, 1) := by decide +kernel
theorem dX11_stage_274 : decode cX11_stage 274 = .ok (.invokevirtual 214, 3) := by decide +kernel
theorem dX11_stage_277 : decode cX11_stage 277 = .ok (.aload_n 0, 1) := by decide +kernel
theorem dX11_stage_278 : decode cX11_stage 278 = .ok (.getfield 19, 3) := by decide +kernel
theorem dX11_stage_281 : decode cX11_stage 281 = .ok (.aload_n 0, 1) := by decide +kernel
theorem dX11_stage_282 : decode cX11_stage 282 = .ok (.getfield 65, 3) := by decide +kernel
theorem dX11_stage_285 : decode cX11_stage 285 = .ok (.getfield 405, 3) := by decide +kernel
theorem dX11_stage_288 : decode cX11_stage 288 = .ok (.iload 7, 2) := by decide +kernel
theorem dX11_stage_290 : decode cX11_stage 290 = .ok (.iaload, 1) := by decide +kernel
theorem dX11_stage_291 : decode cX11_stage 291 = .ok (.i2l, 1) := by decide +kernel
theorem dX11_stage_292 : decode cX11_stage 292 = .ok (.invokevirtual 214, 3) := by decide +kernel
theorem dX11_stage_295 : decode cX11_stage 295 = .ok (.iinc 7 1, 3) := by decide +kernel
theorem dX11_stage_298 : decode cX11_stage 298 = .ok (.goto (-51), 3) := by decide +kernel
theorem dX11_stage_301 : decode cX11_stage 301 = .ok (.iload 6, 2) := by decide +kernel
theorem dX11_stage_303 : decode cX11_stage 303 = .ok (.ireturn, 1) := by decide +kernel
theorem dX11_might_0 : decode cX11_might 0 = .ok (.aload_n 0, 1) := by decide +kernel
theorem dX11_might_1 : decode cX11_might 1 = .ok (.iload_n 1, 1) := by decide +kernel
theorem dX11_might_2 : decode cX11_might 2 = .ok (.iload_n 2, 1) := by decide +kernel
theorem dX11_might_3 : decode cX11_might 3 = .ok (.iload_n 3, 1) := by decide +kernel
theorem dX11_might_4 : decode cX11_might 4 = .ok (.iload 6, 2) := by decide +kernel
theorem dX11_might_6 : decode cX11_might 6 = .ok (.invokevirtual 254, 3) := by decide +kernel
theorem dX11_might_9 : decode cX11_might 9 = .ok (.ifCond .eq 19, 3) := by decide +kernel
theorem dX11_might_12 : decode cX11_might 12 = .ok (.iload 4, 2) := by decide +kernel
theorem dX11_might_14 : decode cX11_might 14 = .ok (.invokestatic 257, 3) := by decide +kernel
theorem dX11_might_17 : decode cX11_might 17 = .ok (.ifCond .eq 11, 3) := by decide +kernel
theorem dX11_might_20 : decode cX11_might 20 = .ok (.iload 5, 2) := by decide +kernel
theorem dX11_might_22 : decode cX11_might 22 = .ok (.invokestatic 163, 3) := by decide +kernel
theorem dX11_might_25 : decode cX11_might 25 = .ok (.ifCond .ne 5, 3) := by decide +kernel
theorem dX11_might_28 : decode cX11_might 28 = .ok (.iconst (-1), 1) := by decide +kernel
theorem dX11_might_29 : decode cX11_might 29 = .ok (.ireturn, 1) := by decide +kernel
theorem dX11_might_30 : decode cX11_might 30 = .ok (.aload_n 0, 1) := by decide +kernel
theorem dX11_might_31 : decode cX11_might 31 = .ok (.getfield 44, 3) := by decide +kernel
theorem dX11_might_34 : decode cX11_might 34 = .ok (.invokevirtual 286, 3) := by decide +kernel
theorem dX11_might_37 : decode cX11_might 37 = .ok (.aload_n 0, 1) := by decide +kernel
theorem dX11_might_38 : decode cX11_might 38 = .ok (.getfield 51, 3) := by decide +kernel
theorem dX11_might_41 : decode cX11_might 41 = .ok (.iload_n 1, 1) := by decide +kernel
theorem dX11_might_42 : decode cX11_might 42 = .ok (.iload_n 2, 1) := by decide +kernel
theorem dX11_might_43 : decode cX11_might 43 = .ok (.iload_n 3, 1) := by decide +kernel
theorem dX11_might_44 : decode cX11_might 44 = .ok (.iload 6, 2) := by decide +kernel
theorem dX11_might_46 : decode cX11_might 46 = .ok (.invokevirtual 264, 3) := by decide +kernel
theorem dX11_might_49 : decode cX11_might 49 = .ok (.iconst 0, 1) := by decide +kernel
theorem dX11_might_50 : decode cX11_might 50 = .ok (.istore 7, 2) := by decide +kernel
theorem dX11_might_52 : decode cX11_might 52 = .ok (.iconst 0, 1) := by decide +kernel
theorem dX11_might_53 : decode cX11_might 53 = .ok (.istore 8, 2) := by decide +kernel
theorem dX11_might_55 : decode cX11_might 55 = .ok (.iconst 0, 1) := by decide +kernel
theorem dX11_might_56 : decode cX11_might 56 = .ok (.istore 9, 2) := by decide +kernel
theorem dX11_might_58 : decode cX11_might 58 = .ok (.iload 9, 2) := by decide +kernel
theorem dX11_might_60 : decode cX11_might 60 = .ok (.aload_n 0, 1) := by decide +kernel
theorem dX11_might_61 : decode cX11_might 61 = .ok (.getfield 35, 3) := by decide +kernel
theorem dX11_might_64 : decode cX11_might 64 = .ok (.getfield 144, 3) := by decide +kernel
theorem dX11_might_67 : decode cX11_might 67 = .ok (.if_icmp .ge 61, 3) := by decide +kernel
theorem dX11_might_70 : decode cX11_might 70 = .ok (.aload_n 0, 1) := by decide +kernel
theorem dX11_might_71 : decode cX11_might 71 = .ok (.getfield 44, 3) := by decide +kernel
theorem dX11_might_74 : decode cX11_might 74 = .ok (.iload 9, 2) := by decide +kernel
theorem dX11_might_76 : decode cX11_might 76 = .ok (.invokevirtual 293, 3) := by decide +kernel
theorem dX11_might_79 : decode cX11_might 79 = .ok (.ifCond .eq 43, 3) := by decide +kernel
theorem dX11_might_82 : decode cX11_might 82 = .ok (.iinc 7 1, 3) := by decide +kernel
theorem dX11_might_85 : decode cX11_might 85 = .ok (.iload 8, 2) := by decide +kernel
theorem dX11_might_87 : decode cX11_might 87 = .ok (.aload_n 0, 1) := by decide +kernel
theorem dX11_might_88 : decode cX11_might 88 = .ok (.getfield 51, 3) := by decide +kernel
theorem dX11_might_91 : decode cX11_might 91 = .ok (.aload_n 0, 1) := by decide +kernel
theorem dX11_might_92 : decode cX11_might 92 = .ok (.getfield 35, 3) := by decide +kernel
theorem dX11_might_95 : decode cX11_might 95 = .ok (.iload 9, 2) := by decide +kernel
theorem dX11_might_97 : decode cX11_might 97 = .ok (.iload 4, 2) := by decide +kernel
theorem dX11_might_99 : decode cX11_might 99 = .ok (.iload 5, 2) := by decide +kernel
theorem dX11_might_101 : decode cX11_might 101 = .ok (.invokevirtual 195, 3) := by decide +kernel
theorem dX11_might_104 : decode cX11_might 104 = .ok (.aload_n 0, 1) := by decide +kernel
theorem dX11_might_105 : decode cX11_might 105 = .ok (.getfield 26, 3) := by decide +kernel
theorem dX11_might_108 : decode cX11_might 108 = .ok (.invokevirtual 408, 3) := by decide +kernel
theorem dX11_might_111 : decode cX11_might 111 = .ok (.ifCond .eq 7, 3) := by decide +kernel
theorem dX11_might_114 : decode cX11_might 114 = .ok (.iconst 1, 1) := by decide +kernel
theorem dX11_might_115 : decode cX11_might 115 = .ok (.goto 4, 3) := by decide +kernel
theorem dX11_might_118 : decode cX11_might 118 = .ok (.iconst 0, 1) := by decide +kernel
theorem dX11_might_119 : decode cX11_might 119 = .ok (.iadd, 1) := by decide +kernel
theorem dX11_might_120 : decode cX11_might 120 = .ok (.istore 8, 2) := by decide +kernel
theorem dX11_might_122 : decode cX11_might 122 = .ok (.iinc 9 1, 3) := by decide +kernel
theorem dX11_might_125 : decode cX11_might 125 = .ok (.goto (-67), 3) := by decide +kernel
theorem dX11_might_128 : decode cX11_might 128 = .ok (.aload_n 0, 1) := by decide +kernel
theorem dX11_might_129 : decode cX11_might 129 = .ok (.getfield 19, 3) := by decide +kernel
theorem dX11_might_132 : decode cX11_might 132 = .ok (.invokevirtual 192, 3) := by decide +kernel
theorem dX11_might_135 : decode cX11_might 135 = .ok (.aload_n 0, 1) := by decide +kernel
theorem dX11_might_136 : decode cX11_might 136 = .ok (.getfield 19, 3) := by decide +kernel
theorem dX11_might_139 : decode cX11_might 139 = .ok (.iload 8, 2) := by decide +kernel
theorem dX11_might_141 : decode cX11_might 141 = .ok (.i2l, 1) := by decide +kernel
theorem dX11_might_142 : decode cX11_might 142 = .ok (.invokevirtual 214, 3) := by decide +kernel
theorem dX11_might_145 : decode cX11_might 145 = .ok (.aload_n 0, 1) := by decide +kernel
theorem dX11_might_146 : decode cX11_might 146 = .ok (.getfield 19, 3) := by decide +kernel
theorem dX11_might_149 : decode cX11_might 149 = .ok (.iload 7, 2) := by decide +kernel
theorem dX11_might_151 : decode cX11_might 151 = .ok (.iload 8, 2) := by decide +kernel
theorem dX11_might_153 : decode cX11_might 153 = .ok (.isub, 1) := by decide +kernel
theorem dX11_might_154 : decode cX11_might 154 = .ok (.i2l, 1) := by decide +kernel
theorem dX11_might_155 : decode cX11_might 155 = .ok (.invokevirtual 214, 3) := by decide +kernel
theorem dX11_might_158 : decode cX11_might 158 = .ok (.iload 7, 2) := by decide +kernel
theorem dX11_might_160 : decode cX11_might 160 = .ok (.ireturn, 1) := by decide +kernel
theorem dX11_look_0 : decode cX11_look 0 = .ok (.iload_n 1, 1) := by decide +kernel
theorem dX11_look_1 : decode cX11_look 1 = .ok (.invokestatic 257, 3) := by decide +kernel
theorem dX11_look_4 : decode cX11_look 4 = .ok (.ifCond .eq 21, 3) := by decide +kernel
theorem dX11_look_7 : decode cX11_look 7 = .ok (.iload_n 2, 1) := by decide +kernel
theorem dX11_look_8 : decode cX11_look 8 = .ok (.invokestatic 163, 3) := by decide +kernel
theorem dX11_look_11 : decode cX11_look 11 = .ok (.ifCond .eq 14, 3) := by decide +kernel
theorem dX11_look_14 : decode cX11_look 14 = .ok (.aload_n 0, 1) := by decide +kernel
theorem dX11_look_15 : decode cX11_look 15 = .ok (.getfield 26, 3) := by decide +kernel
theorem dX11_look_18 : decode cX11_look 18 = .ok (.getfield 116, 3) := by decide +kernel
theorem dX11_look_21 : decode cX11_look 21 = .ok (.iconst 2, 1) := by decide +kernel
theorem dX11_look_22 : decode cX11_look 22 = .ok (.if_icmp .ge 5, 3) := by decide +kernel
theorem dX11_look_25 : decode cX11_look 25 = .ok (.iconst (-1), 1) := by decide +kernel
theorem dX11_look_26 : decode cX11_look 26 = .ok (.ireturn, 1) := by decide +kernel
theorem dX11_look_27 : decode cX11_look 27 = .ok (.aload_n 0, 1) := by decide +kernel
theorem dX11_look_28 : decode cX11_look 28 = .ok (.getfield 44, 3) := by decide +kernel
theorem dX11_look_31 : decode cX11_look 31 = .ok (.invokevirtual 286, 3) := by decide +kernel
theorem dX11_look_34 : decode cX11_look 34 = .ok (.aload_n 0, 1) := by decide +kernel
theorem dX11_look_35 : decode cX11_look 35 = .ok (.iload_n 1, 1) := by decide +kernel
theorem dX11_look_36 : decode cX11_look 36 = .ok (.iload_n 2, 1) := by decide +kernel
theorem dX11_look_37 : decode cX11_look 37 = .ok (.invokevirtual 412, 3) := by decide +kernel
theorem dX11_look_40 : decode cX11_look 40 = .ok (.istore_n 3, 1) := by decide +kernel
theorem dX11_look_41 : decode cX11_look 41 = .ok (.iload_n 3, 1) := by decide +kernel
theorem dX11_look_42 : decode cX11_look 42 = .ok (.ifCond .ne 6, 3) := by decide +kernel
theorem dX11_look_45 : decode cX11_look 45 = .ok (.bipush (-2), 2) := by decide +kernel
theorem dX11_look_47 : decode cX11_look 47 = .ok (.ireturn, 1) := by decide +kernel
theorem dX11_look_48 : decode cX11_look 48 = .ok (.iconst 1, 1) := by decide +kernel
theorem dX11_look_49 : decode cX11_look 49 = .ok (.istore 4, 2) := by decide +kernel
theorem dX11_look_51 : decode cX11_look 51 = .ok (.iconst 0, 1) := by decide +kernel
theorem dX11_look_52 : decode cX11_look 52 = .ok (.istore 5, 2) := by decide +kernel
theorem dX11_look_54 : decode cX11_look 54 = .ok (.iload 5, 2) := by decide +kernel
theorem dX11_look_56 : decode cX11_look 56 = .ok (.aload_n 0, 1) := by decide +kernel
theorem dX11_look_57 : decode cX11_look 57 = .ok (.getfield 26, 3) := by decide +kernel
theorem dX11_look_60 : decode cX11_look 60 = .ok (.getfield 116, 3) := by decide +kernel
theorem dX11_look_63 : decode cX11_look 63 = .ok (.if_icmp .ge 73, 3) := by decide +kernel
theorem dX11_look_66 : decode cX11_look 66 = .ok (.iload 5, 2) := by decide +kernel
theorem dX11_look_68 : decode cX11_look 68 = .ok (.iconst 1, 1) := by decide +kernel
theorem dX11_look_69 : decode cX11_look 69 = .ok (.iadd, 1) := by decide +kernel
theorem dX11_look_70 : decode cX11_look 70 = .ok (.istore 6, 2) := by decide +kernel
theorem dX11_look_72 : decode cX11_look 72 = .ok (.iload 6, 2) := by decide +kernel
theorem dX11_look_74 : decode cX11_look 74 = .ok (.aload_n 0, 1) := by decide +kernel
theorem dX11_look_75 : decode cX11_look 75 = .ok (.getfield 26, 3) := by decide +kernel
theorem dX11_look_78 : decode cX11_look 78 = .ok (.getfield 116, 3) := by decide +kernel
theorem dX11_look_81 : decode cX11_look 81 = .ok (.if_icmp .ge 49, 3) := by decide +kernel
theorem dX11_look_84 : decode cX11_look 84 = .ok (.iload 5, 2) := by decide +kernel
theorem dX11_look_86 : decode cX11_look 86 = .ok (.bipush 20, 2) := by decide +kernel
theorem dX11_look_88 : decode cX11_look 88 = .ok (.imul, 1) := by decide +kernel
theorem dX11_look_89 : decode cX11_look 89 = .ok (.iload 6, 2) := by decide +kernel
theorem dX11_look_91 : decode cX11_look 91 = .ok (.iadd, 1) := by decide +kernel
theorem dX11_look_92 : decode cX11_look 92 = .ok (.istore 7, 2) := by decide +kernel
theorem dX11_look_94 : decode cX11_look 94 = .ok (.aload_n 0, 1) := by decide +kernel
theorem dX11_look_95 : decode cX11_look 95 = .ok (.getfield 86, 3) := by decide +kernel
theorem dX11_look_98 : decode cX11_look 98 = .ok (.iload 7, 2) := by decide +kernel
theorem dX11_look_100 : decode cX11_look 100 = .ok (.iaload, 1) := by decide +kernel
theorem dX11_look_101 : decode cX11_look 101 = .ok (.aload_n 0, 1) := by decide +kernel
theorem dX11_look_102 : decode cX11_look 102 = .ok (.getfield 86, 3) := by decide +kernel
theorem dX11_look_105 : decode cX11_look 105 = .ok (.iload 4, 2) := by decide +kernel
theorem dX11_look_107 : decode cX11_look 107 = .ok (.iaload, 1) := by decide +kernel
theorem dX11_look_108 : decode cX11_look 108 = .ok (.iload_n 3, 1) := by decide +kernel
theorem dX11_look_109 : decode cX11_look 109 = .ok (.invokestatic 364, 3) := by decide +kernel
theorem dX11_look_112 : decode cX11_look 112 = .ok (.ifCond .eq 8, 3) := by decide +kernel
theorem dX11_look_115 : decode cX11_look 115 = .ok (.iload 7, 2) := by decide +kernel
theorem dX11_look_117 : decode cX11_look 117 = .ok (.goto 5, 3) := by decide +kernel
theorem dX11_look_120 : decode cX11_look 120 = .ok (.iload 4, 2) := by decide +kernel
theorem dX11_look_122 : decode cX11_look 122 = .ok (.istore 4, 2) := by decide +kernel
theorem dX11_look_124 : decode cX11_look 124 = .ok (.iinc 6 1, 3) := by decide +kernel
theorem dX11_look_127 : decode cX11_look 127 = .ok (.goto (-55), 3) := by decide +kernel
theorem dX11_look_130 : decode cX11_look 130 = .ok (.iinc 5 1, 3) := by decide +kernel
theorem dX11_look_133 : decode cX11_look 133 = .ok (.goto (-79), 3) := by decide +kernel
theorem dX11_look_136 : decode cX11_look 136 = .ok (.aload_n 0, 1) := by decide +kernel
theorem dX11_look_137 : decode cX11_look 137 = .ok (.getfield 19, 3) := by decide +kernel
theorem dX11_look_140 : decode cX11_look 140 = .ok (.invokevirtual 192, 3) := by decide +kernel
theorem dX11_look_143 : decode cX11_look 143 = .ok (.aload_n 0, 1) := by decide +kernel
theorem dX11_look_144 : decode cX11_look 144 = .ok (.getfield 19, 3) := by decide +kernel
theorem dX11_look_147 : decode cX11_look 147 = .ok (.iload 4, 2) := by decide +kernel
theorem dX11_look_149 : decode cX11_look 149 = .ok (.bipush 20, 2) := by decide +kernel
theorem dX11_look_151 : decode cX11_look 151 = .ok (.idiv, 1) := by decide +kernel
theorem dX11_look_152 : decode cX11_look 152 = .ok (.i2l, 1) := by decide +kernel
theorem dX11_look_153 : decode cX11_look 153 = .ok (.invokevirtual 214, 3) := by decide +kernel
theorem dX11_look_156 : decode cX11_look 156 = .ok (.aload_n 0, 1) := by decide +kernel
theorem dX11_look_157 : decode cX11_look 157 = .ok (.getfield 19, 3) := by decide +kernel
theorem dX11_look_160 : decode cX11_look 160 = .ok (.iload 4, 2) := by decide +kernel
theorem dX11_look_162 : decode cX11_look 162 = .ok (.bipush 20, 2) := by decide +kernel
theorem dX11_look_164 : decode cX11_look 164 = .ok (.irem, 1) := by decide +kernel
theorem dX11_look_165 : decode cX11_look 165 = .ok (.i2l, 1) := by decide +kernel
theorem dX11_look_166 : decode cX11_look 166 = .ok (.invokevirtual 214, 3) := by decide +kernel
theorem dX11_look_169 : decode cX11_look 169 = .ok (.aload_n 0, 1) := by decide +kernel
theorem dX11_look_170 : decode cX11_look 170 = .ok (.getfield 86, 3) := by decide +kernel
theorem dX11_look_173 : decode cX11_look 173 = .ok (.iload 4, 2) := by decide +kernel
theorem dX11_look_175 : decode cX11_look 175 = .ok (.iaload, 1) := by decide +kernel
theorem dX11_look_176 : decode cX11_look 176 = .ok (.ireturn, 1) := by decide +kernel
theorem dX11_countPairs_0 : decode cX11_countPairs 0 = .ok (.aload_n 0, 1) := by decide +kernel
theorem dX11_countPairs_1 : decode cX11_countPairs 1 = .ok (.getfield 86, 3) := by decide +kernel
theorem dX11_countPairs_4 : decode cX11_countPairs 4 = .ok (.iconst 0, 1) := by decide +kernel
theorem dX11_countPairs_5 : decode cX11_countPairs 5 = .ok (.invokestatic 415, 3) := by decide +kernel
theorem dX11_countPairs_8 : decode cX11_countPairs 8 = .ok (.iconst 0, 1) := by decide +kernel
theorem dX11_countPairs_9 : decode cX11_countPairs 9 = .ok (.istore_n 3, 1) := by decide +kernel
theorem dX11_countPairs_10 : decode cX11_countPairs 10 = .ok (.iconst 0, 1) := by decide +kernel
theorem dX11_countPairs_11 : decode cX11_countPairs 11 = .ok (.istore 4, 2) := by decide +kernel
theorem dX11_countPairs_13 : decode cX11_countPairs 13 = .ok (.iload 4, 2) := by decide +kernel
theorem dX11_countPairs_15 : decode cX11_countPairs 15 = .ok (.aload_n 0, 1) := by decide +kernel
theorem dX11_countPairs_16 : decode cX11_countPairs 16 = .ok (.getfield 35, 3) := by decide +kernel
theorem dX11_countPairs_19 : decode cX11_countPairs 19 = .ok (.getfield 144, 3) := by decide +kernel
theorem dX11_countPairs_22 : decode cX11_countPairs 22 = .ok (.if_icmp .ge 39, 3) := by decide +kernel
theorem dX11_countPairs_25 : decode cX11_countPairs 25 = .ok (.aload_n 0, 1) := by decide +kernel
theorem dX11_countPairs_26 : decode cX11_countPairs 26 = .ok (.getfield 44, 3) := by decide +kernel
theorem dX11_countPairs_29 : decode cX11_countPairs 29 = .ok (.iload 4, 2) := by decide +kernel
theorem dX11_countPairs_31 : decode cX11_countPairs 31 = .ok (.invokevirtual 293, 3) := by decide +kernel
theorem dX11_countPairs_34 : decode cX11_countPairs 34 = .ok (.ifCond .eq 21, 3) := by decide +kernel
theorem dX11_countPairs_37 : decode cX11_countPairs 37 = .ok (.iinc 3 1, 3) := by decide +kernel
theorem dX11_countPairs_40 : decode cX11_countPairs 40 = .ok (.aload_n 0, 1) := by decide +kernel
theorem dX11_countPairs_41 : decode cX11_countPairs 41 = .ok (.aload_n 0, 1) := by decide +kernel
theorem dX11_countPairs_42 : decode cX11_countPairs 42 = .ok (.getfield 35, 3) := by decide +kernel
theorem dX11_countPairs_45 : decode cX11_countPairs 45 = .ok (.iload 4, 2) := by decide +kernel
theorem dX11_countPairs_47 : decode cX11_countPairs 47 = .ok (.iload_n 1, 1) := by decide +kernel
theorem dX11_countPairs_48 : decode cX11_countPairs 48 = .ok (.iload_n 2, 1) := by decide +kernel
theorem dX11_countPairs_49 : decode cX11_countPairs 49 = .ok (.invokevirtual 195, 3) := by decide +kernel
theorem dX11_countPairs_52 : decode cX11_countPairs 52 = .ok (.invokevirtual 421, 3) := by decide +kernel
theorem dX11_countPairs_55 : decode cX11_countPairs 55 = .ok (.iinc 4 1, 3) := by decide +kernel
theorem dX11_countPairs_58 : decode cX11_countPairs 58 = .ok (.goto (-45), 3) := by decide +kernel
theorem dX11_countPairs_61 : decode cX11_countPairs 61 = .ok (.iload_n 3, 1) := by decide +kernel
theorem dX11_countPairs_62 : decode cX11_countPairs 62 = .ok (.ireturn, 1) := by decide +kernel
theorem dX11_countPairsOn_0 : decode cX11_countPairsOn 0 = .ok (.iconst 0, 1) := by decide +kernel
theorem dX11_countPairsOn_1 : decode cX11_countPairsOn 1 = .ok (.istore_n 2, 1) := by decide +kernel
theorem dX11_countPairsOn_2 : decode cX11_countPairsOn 2 = .ok (.iload_n 2, 1) := by decide +kernel
theorem dX11_countPairsOn_3 : decode cX11_countPairsOn 3 = .ok (.aload_n 0, 1) := by decide +kernel
theorem dX11_countPairsOn_4 : decode cX11_countPairsOn 4 = .ok (.getfield 26, 3) := by decide +kernel
theorem dX11_countPairsOn_7 : decode cX11_countPairsOn 7 = .ok (.getfield 116, 3) := by decide +kernel
theorem dX11_countPairsOn_10 : decode cX11_countPairsOn 10 = .ok (.if_icmp .ge 24, 3) := by decide +kernel
theorem dX11_countPairsOn_13 : decode cX11_countPairsOn 13 = .ok (.aload_n 0, 1) := by decide +kernel
theorem dX11_countPairsOn_14 : decode cX11_countPairsOn 14 = .ok (.getfield 83, 3) := by decide +kernel
theorem dX11_countPairsOn_17 : decode cX11_countPairsOn 17 = .ok (.iload_n 2, 1) := by decide +kernel
theorem dX11_countPairsOn_18 : decode cX11_countPairsOn 18 = .ok (.aload_n 0, 1) := by decide +kernel
theorem dX11_countPairsOn_19 : decode cX11_countPairsOn 19 = .ok (.getfield 26, 3) := by decide +kernel
theorem dX11_countPairsOn_22 : decode cX11_countPairsOn 22 = .ok (.iload_n 1, 1) := by decide +kernel
theorem dX11_countPairsOn_23 : decode cX11_countPairsOn 23 = .ok (.iload_n 2, 1) := by decide +kernel
theorem dX11_countPairsOn_24 : decode cX11_countPairsOn 24 = .ok (.invokevirtual 424, 3) := by decide +kernel
theorem dX11_countPairsOn_27 : decode cX11_countPairsOn 27 = .ok (.lastore, 1) := by decide +kernel
theorem dX11_countPairsOn_28 : decode cX11_countPairsOn 28 = .ok (.iinc 2 1, 3) := by decide +kernel
theorem dX11_countPairsOn_31 : decode cX11_countPairsOn 31 = .ok (.goto (-29), 3) := by decide +kernel
theorem dX11_countPairsOn_34 : decode cX11_countPairsOn 34 = .ok (.iconst 0, 1) := by decide +kernel
theorem dX11_countPairsOn_35 : decode cX11_countPairsOn 35 = .ok (.istore_n 2, 1) := by decide +kernel
theorem dX11_countPairsOn_36 : decode cX11_countPairsOn 36 = .ok (.iload_n 2, 1) := by decide +kernel
theorem dX11_countPairsOn_37 : decode cX11_countPairsOn 37 = .ok (.aload_n 0, 1) := by decide +kernel
theorem dX11_countPairsOn_38 : decode cX11_countPairsOn 38 = .ok (.getfield 26, 3) := by decide +kernel
theorem dX11_countPairsOn_41 : decode cX11_countPairsOn 41 = .ok (.getfield 116, 3) := by decide +kernel
theorem dX11_countPairsOn_44 : decode cX11_countPairsOn 44 = .ok (.if_icmp .ge 72, 3) := by decide +kernel
theorem dX11_countPairsOn_47 : decode cX11_countPairsOn 47 = .ok (.iload_n 2, 1) := by decide +kernel
theorem dX11_countPairsOn_48 : decode cX11_countPairsOn 48 = .ok (.iconst 1, 1) := by decide +kernel
theorem dX11_countPairsOn_49 : decode cX11_countPairsOn 49 = .ok (.iadd, 1) := by decide +kernel
theorem dX11_countPairsOn_50 : decode cX11_countPairsOn 50 = .ok (.istore_n 3, 1) := by decide +kernel
theorem dX11_countPairsOn_51 : decode cX11_countPairsOn 51 = .ok (.iload_n 3, 1) := by decide +kernel
theorem dX11_countPairsOn_52 : decode cX11_countPairsOn 52 = .ok (.aload_n 0, 1) := by decide +kernel
theorem dX11_countPairsOn_53 : decode cX11_countPairsOn 53 = .ok (.getfield 26, 3) := by decide +kernel
theorem dX11_countPairsOn_56 : decode cX11_countPairsOn 56 = .ok (.getfield 116, 3) := by decide +kernel
theorem dX11_countPairsOn_59 : decode cX11_countPairsOn 59 = .ok (.if_icmp .ge 51, 3) := by decide +kernel
theorem dX11_countPairsOn_62 : decode cX11_countPairsOn 62 = .ok (.aload_n 0, 1) := by decide +kernel
theorem dX11_countPairsOn_63 : decode cX11_countPairsOn 63 = .ok (.getfield 83, 3) := by decide +kernel
theorem dX11_countPairsOn_66 : decode cX11_countPairsOn 66 = .ok (.iload_n 2, 1) := by decide +kernel
theorem dX11_countPairsOn_67 : decode cX11_countPairsOn 67 = .ok (.laload, 1) := by decide +kernel
theorem dX11_countPairsOn_68 : decode cX11_countPairsOn 68 = .ok (.lconst 0, 1) := by decide +kernel
theorem dX11_countPairsOn_69 : decode cX11_countPairsOn 69 = .ok (.lcmp, 1) := by decide +kernel
theorem dX11_countPairsOn_70 : decode cX11_countPairsOn 70 = .ok (.ifCond .eq 40, 3) := by decide +kernel
theorem dX11_countPairsOn_73 : decode cX11_countPairsOn 73 = .ok (.aload_n 0, 1) := by decide +kernel
theorem dX11_countPairsOn_74 : decode cX11_countPairsOn 74 = .ok (.getfield 83, 3) := by decide +kernel
theorem dX11_countPairsOn_77 : decode cX11_countPairsOn 77 = .ok (.iload_n 2, 1) := by decide +kernel
theorem dX11_countPairsOn_78 : decode cX11_countPairsOn 78 = .ok (.laload, 1) := by decide +kernel
theorem dX11_countPairsOn_79 : decode cX11_countPairsOn 79 = .ok (.aload_n 0, 1) := by decide +kernel
theorem dX11_countPairsOn_80 : decode cX11_countPairsOn 80 = .ok (.getfield 83, 3) := by decide +kernel
theorem dX11_countPairsOn_83 : decode cX11_countPairsOn 83 = .ok (.iload_n 3, 1) := by decide +kernel
theorem dX11_countPairsOn_84 : decode cX11_countPairsOn 84 = .ok (.laload, 1) := by decide +kernel
theorem dX11_countPairsOn_85 : decode cX11_countPairsOn 85 = .ok (.lcmp, 1) := by decide +kernel
theorem dX11_countPairsOn_86 : decode cX11_countPairsOn 86 = .ok (.ifCond .ne 18, 3) := by decide +kernel
theorem dX11_countPairsOn_89 : decode cX11_countPairsOn 89 = .ok (.aload_n 0, 1) := by decide +kernel
theorem dX11_countPairsOn_90 : decode cX11_countPairsOn 90 = .ok (.getfield 86, 3) := by decide +kernel
theorem dX11_countPairsOn_93 : decode cX11_countPairsOn 93 = .ok (.iload_n 2, 1) := by decide +kernel
theorem dX11_countPairsOn_94 : decode cX11_countPairsOn 94 = .ok (.bipush 20, 2) := by decide +kernel
theorem dX11_countPairsOn_96 : decode cX11_countPairsOn 96 = .ok (.imul, 1) := by decide +kernel
theorem dX11_countPairsOn_97 : decode cX11_countPairsOn 97 = .ok (.iload_n 3, 1) := by decide +kernel
theorem dX11_countPairsOn_98 : decode cX11_countPairsOn 98 = .ok (.iadd, 1) := by decide +kernel
theorem dX11_countPairsOn_99 : decode cX11_countPairsOn 99 = .ok (.dup2, 1) := by decide +kernel
theorem dX11_countPairsOn_100 : decode cX11_countPairsOn 100 = .ok (.iaload, 1) := by decide +kernel
theorem dX11_countPairsOn_101 : decode cX11_countPairsOn 101 = .ok (.iconst 1, 1) := by decide +kernel
theorem dX11_countPairsOn_102 : decode cX11_countPairsOn 102 = .ok (.iadd, 1) := by decide +kernel
theorem dX11_countPairsOn_103 : decode cX11_countPairsOn 103 = .ok (.iastore, 1) := by decide +kernel
theorem dX11_countPairsOn_104 : decode cX11_countPairsOn 104 = .ok (.iinc 3 1, 3) := by decide +kernel
theorem dX11_countPairsOn_107 : decode cX11_countPairsOn 107 = .ok (.goto (-56), 3) := by decide +kernel
theorem dX11_countPairsOn_110 : decode cX11_countPairsOn 110 = .ok (.iinc 2 1, 3) := by decide +kernel
theorem dX11_countPairsOn_113 : decode cX11_countPairsOn 113 = .ok (.goto (-77), 3) := by decide +kernel
theorem dX11_countPairsOn_116 : decode cX11_countPairsOn 116 = .ok (.return_, 1) := by decide +kernel
theorem dX11_settled_0 : decode cX11_settled 0 = .ok (.aload_n 0, 1) := by decide +kernel
theorem dX11_settled_1 : decode cX11_settled 1 = .ok (.iload_n 1, 1) := by decide +kernel
theorem dX11_settled_2 : decode cX11_settled 2 = .ok (.invokevirtual 185, 3) := by decide +kernel
theorem dX11_settled_5 : decode cX11_settled 5 = .ok (.ifCond .eq 10, 3) := by decide +kernel
theorem dX11_settled_8 : decode cX11_settled 8 = .ok (.iload_n 2, 1) := by decide +kernel
theorem dX11_settled_9 : decode cX11_settled 9 = .ok (.invokestatic 163, 3) := by decide +kernel
theorem dX11_settled_12 : decode cX11_settled 12 = .ok (.ifCond .ne 5, 3) := by decide +kernel
theorem dX11_settled_15 : decode cX11_settled 15 = .ok (.iconst (-1), 1) := by decide +kernel
theorem dX11_settled_16 : decode cX11_settled 16 = .ok (.ireturn, 1) := by decide +kernel
theorem dX11_settled_17 : decode cX11_settled 17 = .ok (.aload_n 0, 1) := by decide +kernel
theorem dX11_settled_18 : decode cX11_settled 18 = .ok (.getfield 44, 3) := by decide +kernel
theorem dX11_settled_21 : decode cX11_settled 21 = .ok (.invokevirtual 286, 3) := by decide +kernel
theorem dX11_settled_24 : decode cX11_settled 24 = .ok (.aload_n 0, 1) := by decide +kernel
theorem dX11_settled_25 : decode cX11_settled 25 = .ok (.getfield 44, 3) := by decide +kernel
theorem dX11_settled_28 : decode cX11_settled 28 = .ok (.invokevirtual 358, 3) := by decide +kernel
theorem dX11_settled_31 : decode cX11_settled 31 = .ok (.ifCond .ne 6, 3) := by decide +kernel
theorem dX11_settled_34 : decode cX11_settled 34 = .ok (.bipush (-2), 2) := by decide +kernel
theorem dX11_settled_36 : decode cX11_settled 36 = .ok (.ireturn, 1) := by decide +kernel
theorem dX11_settled_37 : decode cX11_settled 37 = .ok (.bipush (-2), 2) := by decide +kernel
theorem dX11_settled_39 : decode cX11_settled 39 = .ok (.istore_n 3, 1) := by decide +kernel
theorem dX11_settled_40 : decode cX11_settled 40 = .ok (.sipush 600, 3) := by decide +kernel
theorem dX11_settled_43 : decode cX11_settled 43 = .ok (.istore 4, 2) := by decide +kernel
theorem dX11_settled_45 : decode cX11_settled 45 = .ok (.iload 4, 2) := by decide +kernel
theorem dX11_settled_47 : decode cX11_settled 47 = .ok (.ifCond .lt 23, 3) := by decide +kernel
theorem dX11_settled_50 : decode cX11_settled 50 = .ok (.aload_n 0, 1) := by decide +kernel
theorem dX11_settled_51 : decode cX11_settled 51 = .ok (.iload_n 1, 1) := by decide +kernel
theorem dX11_settled_52 : decode cX11_settled 52 = .ok (.iload 4, 2) := by decide +kernel
theorem dX11_settled_54 : decode cX11_settled 54 = .ok (.iload_n 2, 1) := by decide +kernel
theorem dX11_settled_55 : decode cX11_settled 55 = .ok (.invokevirtual 427, 3) := by decide +kernel
theorem dX11_settled_58 : decode cX11_settled 58 = .ok (.ifCond .eq 12, 3) := by decide +kernel
theorem dX11_settled_61 : decode cX11_settled 61 = .ok (.iload 4, 2) := by decide +kernel
theorem dX11_settled_63 : decode cX11_settled 63 = .ok (.istore_n 3, 1) := by decide +kernel
theorem dX11_settled_64 : decode cX11_settled 64 = .ok (.iinc 4 (-10), 3) := by decide +kernel
theorem dX11_settled_67 : decode cX11_settled 67 = .ok (.goto (-22), 3) := by decide +kernel
theorem dX11_settled_70 : decode cX11_settled 70 = .ok (.iload_n 3, 1) := by decide +kernel
theorem dX11_settled_71 : decode cX11_settled 71 = .ok (.ireturn, 1) := by decide +kernel
theorem dX11_isOneWay_0 : decode cX11_isOneWay 0 = .ok (.lconst 0, 1) := by decide +kernel
theorem dX11_isOneWay_1 : decode cX11_isOneWay 1 = .ok (.lstore 4, 2) := by decide +kernel
theorem dX11_isOneWay_3 : decode cX11_isOneWay 3 = .ok (.iconst 0, 1) := by decide +kernel
theorem dX11_isOneWay_4 : decode cX11_isOneWay 4 = .ok (.istore 6, 2) := by decide +kernel
theorem dX11_isOneWay_6 : decode cX11_isOneWay 6 = .ok (.iload 6, 2) := by decide +kernel
theorem dX11_isOneWay_8 : decode cX11_isOneWay 8 = .ok (.aload_n 0, 1) := by decide +kernel
theorem dX11_isOneWay_9 : decode cX11_isOneWay 9 = .ok (.getfield 35, 3) := by decide +kernel
theorem dX11_isOneWay_12 : decode cX11_isOneWay 12 = .ok (.getfield 144, 3) := by decide +kernel
theorem dX11_isOneWay_15 : decode cX11_isOneWay 15 = .ok (.if_icmp .ge 63, 3) := by decide +kernel
theorem dX11_isOneWay_18 : decode cX11_isOneWay 18 = .ok (.aload_n 0, 1) := by decide +kernel
theorem dX11_isOneWay_19 : decode cX11_isOneWay 19 = .ok (.getfield 44, 3) := by decide +kernel
theorem dX11_isOneWay_22 : decode cX11_isOneWay 22 = .ok (.iload 6, 2) := by decide +kernel
theorem dX11_isOneWay_24 : decode cX11_isOneWay 24 = .ok (.invokevirtual 293, 3) := by decide +kernel
theorem dX11_isOneWay_27 : decode cX11_isOneWay 27 = .ok (.ifCond .eq 45, 3) := by decide +kernel
theorem dX11_isOneWay_30 : decode cX11_isOneWay 30 = .ok (.aload_n 0, 1) := by decide +kernel
theorem dX11_isOneWay_31 : decode cX11_isOneWay 31 = .ok (.getfield 26, 3) := by decide +kernel
theorem dX11_isOneWay_34 : decode cX11_isOneWay 34 = .ok (.aload_n 0, 1) := by decide +kernel
theorem dX11_isOneWay_35 : decode cX11_isOneWay 35 = .ok (.getfield 35, 3) := by decide +kernel
theorem dX11_isOneWay_38 : decode cX11_isOneWay 38 = .ok (.iload 6, 2) := by decide +kernel
theorem dX11_isOneWay_40 : decode cX11_isOneWay 40 = .ok (.iload_n 2, 1) := by decide +kernel
theorem dX11_isOneWay_41 : decode cX11_isOneWay 41 = .ok (.iload_n 3, 1) := by decide +kernel
theorem dX11_isOneWay_42 : decode cX11_isOneWay 42 = .ok (.invokevirtual 195, 3) := by decide +kernel
theorem dX11_isOneWay_45 : decode cX11_isOneWay 45 = .ok (.iload_n 1, 1) := by decide +kernel
theorem dX11_isOneWay_46 : decode cX11_isOneWay 46 = .ok (.invokevirtual 198, 3) := by decide +kernel
theorem dX11_isOneWay_49 : decode cX11_isOneWay 49 = .ok (.lstore 7, 2) := by decide +kernel
theorem dX11_isOneWay_51 : decode cX11_isOneWay 51 = .ok (.lload 4, 2) := by decide +kernel
theorem dX11_isOneWay_53 : decode cX11_isOneWay 53 = .ok (.lconst 0, 1) := by decide +kernel
theorem dX11_isOneWay_54 : decode cX11_isOneWay 54 = .ok (.lcmp, 1) := by decide +kernel
theorem dX11_isOneWay_55 : decode cX11_isOneWay 55 = .ok (.ifCond .eq 13, 3) := by decide +kernel
theorem dX11_isOneWay_58 : decode cX11_isOneWay 58 = .ok (.lload 7, 2) := by decide +kernel
theorem dX11_isOneWay_60 : decode cX11_isOneWay 60 = .ok (.lload 4, 2) := by decide +kernel
theorem dX11_isOneWay_62 : decode cX11_isOneWay 62 = .ok (.lcmp, 1) := by decide +kernel
theorem dX11_isOneWay_63 : decode cX11_isOneWay 63 = .ok (.ifCond .eq 5, 3) := by decide +kernel
theorem dX11_isOneWay_66 : decode cX11_isOneWay 66 = .ok (.iconst 0, 1) := by decide +kernel
theorem dX11_isOneWay_67 : decode cX11_isOneWay 67 = .ok (.ireturn, 1) := by decide +kernel
theorem dX11_isOneWay_68 : decode cX11_isOneWay 68 = .ok (.lload 7, 2) := by decide +kernel
theorem dX11_isOneWay_70 : decode cX11_isOneWay 70 = .ok (.lstore 4, 2) := by decide +kernel
theorem dX11_isOneWay_72 : decode cX11_isOneWay 72 = .ok (.iinc 6 1, 3) := by decide +kernel
theorem dX11_isOneWay_75 : decode cX11_isOneWay 75 = .ok (.goto (-69), 3) := by decide +kernel
theorem dX11_isOneWay_78 : decode cX11_isOneWay 78 = .ok (.iconst 1, 1) := by decide +kernel
theorem dX11_isOneWay_79 : decode cX11_isOneWay 79 = .ok (.ireturn, 1) := by decide +kernel
theorem dX11_fell_0 : decode cX11_fell 0 = .ok (.aload_n 0, 1) := by decide +kernel
theorem dX11_fell_1 : decode cX11_fell 1 = .ok (.iload_n 1, 1) := by decide +kernel
theorem dX11_fell_2 : decode cX11_fell 2 = .ok (.iload_n 2, 1) := by decide +kernel
theorem dX11_fell_3 : decode cX11_fell 3 = .ok (.iload_n 3, 1) := by decide +kernel
theorem dX11_fell_4 : decode cX11_fell 4 = .ok (.invokevirtual 188, 3) := by decide +kernel
theorem dX11_fell_7 : decode cX11_fell 7 = .ok (.ifCond .ne 5, 3) := by decide +kernel
theorem dX11_fell_10 : decode cX11_fell 10 = .ok (.iconst (-1), 1) := by decide +kernel
theorem dX11_fell_11 : decode cX11_fell 11 = .ok (.ireturn, 1) := by decide +kernel
theorem dX11_fell_12 : decode cX11_fell 12 = .ok (.aload_n 0, 1) := by decide +kernel
theorem dX11_fell_13 : decode cX11_fell 13 = .ok (.getfield 26, 3) := by decide +kernel
theorem dX11_fell_16 : decode cX11_fell 16 = .ok (.getfield 116, 3) := by decide +kernel
theorem dX11_fell_19 : decode cX11_fell 19 = .ok (.ifCond .ne 5, 3) := by decide +kernel
theorem dX11_fell_22 : decode cX11_fell 22 = .ok (.iconst 0, 1) := by decide +kernel
theorem dX11_fell_23 : decode cX11_fell 23 = .ok (.ireturn, 1) := by decide +kernel
theorem dX11_fell_24 : decode cX11_fell 24 = .ok (.aload_n 0, 1) := by decide +kernel
theorem dX11_fell_25 : decode cX11_fell 25 = .ok (.getfield 35, 3) := by decide +kernel
theorem dX11_fell_28 : decode cX11_fell 28 = .ok (.iload_n 1, 1) := by decide +kernel
theorem dX11_fell_29 : decode cX11_fell 29 = .ok (.iload_n 2, 1) := by decide +kernel
theorem dX11_fell_30 : decode cX11_fell 30 = .ok (.iload_n 3, 1) := by decide +kernel
theorem dX11_fell_31 : decode cX11_fell 31 = .ok (.invokevirtual 195, 3) := by decide +kernel
theorem dX11_fell_34 : decode cX11_fell 34 = .ok (.istore 4, 2) := by decide +kernel
theorem dX11_fell_36 : decode cX11_fell 36 = .ok (.iconst 0, 1) := by decide +kernel
theorem dX11_fell_37 : decode cX11_fell 37 = .ok (.istore 5, 2) := by decide +kernel
theorem dX11_fell_39 : decode cX11_fell 39 = .ok (.iconst 0, 1) := by decide +kernel
theorem dX11_fell_40 : decode cX11_fell 40 = .ok (.istore 6, 2) := by decide +kernel
theorem dX11_fell_42 : decode cX11_fell 42 = .ok (.iload 6, 2) := by decide +kernel
theorem dX11_fell_44 : decode cX11_fell 44 = .ok (.aload_n 0, 1) := by decide +kernel
theorem dX11_fell_45 : decode cX11_fell 45 = .ok (.getfield 26, 3) := by decide +kernel
theorem dX11_fell_48 : decode cX11_fell 48 = .ok (.getfield 116, 3) := by decide +kernel
theorem dX11_fell_51 : decode cX11_fell 51 = .ok (.if_icmp .ge 44, 3) := by decide +kernel
theorem dX11_fell_54 : decode cX11_fell 54 = .ok (.aload_n 0, 1) := by decide +kernel
theorem dX11_fell_55 : decode cX11_fell 55 = .ok (.getfield 26, 3) := by decide +kernel
theorem dX11_fell_58 : decode cX11_fell 58 = .ok (.iload 4, 2) := by decide +kernel
theorem dX11_fell_60 : decode cX11_fell 60 = .ok (.iload 6, 2) := by decide +kernel
theorem dX11_fell_62 : decode cX11_fell 62 = .ok (.invokevirtual 430, 3) := by decide +kernel
theorem dX11_fell_65 : decode cX11_fell 65 = .ok (.istore 7, 2) := by decide +kernel
theorem dX11_fell_67 : decode cX11_fell 67 = .ok (.iload 7, 2) := by decide +kernel
theorem dX11_fell_69 : decode cX11_fell 69 = .ok (.invokestatic 308, 3) := by decide +kernel
theorem dX11_fell_72 : decode cX11_fell 72 = .ok (.iload 5, 2) := by decide +kernel
theorem dX11_fell_74 : decode cX11_fell 74 = .ok (.invokestatic 308, 3) := by decide +kernel
theorem dX11_fell_77 : decode cX11_fell 77 = .ok (.if_icmp .le 8, 3) := by decide +kernel
theorem dX11_fell_80 : decode cX11_fell 80 = .ok (.iload 7, 2) := by decide +kernel
theorem dX11_fell_82 : decode cX11_fell 82 = .ok (.goto 5, 3) := by decide +kernel
theorem dX11_fell_85 : decode cX11_fell 85 = .ok (.iload 5, 2) := by decide +kernel
theorem dX11_fell_87 : decode cX11_fell 87 = .ok (.istore 5, 2) := by decide +kernel
theorem dX11_fell_89 : decode cX11_fell 89 = .ok (.iinc 6 1, 3) := by decide +kernel
theorem dX11_fell_92 : decode cX11_fell 92 = .ok (.goto (-50), 3) := by decide +kernel
theorem dX11_fell_95 : decode cX11_fell 95 = .ok (.aload_n 0, 1) := by decide +kernel
theorem dX11_fell_96 : decode cX11_fell 96 = .ok (.getfield 19, 3) := by decide +kernel
theorem dX11_fell_99 : decode cX11_fell 99 = .ok (.invokevirtual 192, 3) := by decide +kernel
theorem dX11_fell_102 : decode cX11_fell 102 = .ok (.aload_n 0, 1) := by decide +kernel
theorem dX11_fell_103 : decode cX11_fell 103 = .ok (.getfield 19, 3) := by decide +kernel
theorem dX11_fell_106 : decode cX11_fell 106 = .ok (.iload 5, 2) := by decide +kernel
theorem dX11_fell_108 : decode cX11_fell 108 = .ok (.i2l, 1) := by decide +kernel
theorem dX11_fell_109 : decode cX11_fell 109 = .ok (.invokevirtual 214, 3) := by decide +kernel
theorem dX11_fell_112 : decode cX11_fell 112 = .ok (.iload 5, 2) := by decide +kernel
theorem dX11_fell_114 : decode cX11_fell 114 = .ok (.invokestatic 308, 3) := by decide +kernel
theorem dX11_fell_117 : decode cX11_fell 117 = .ok (.ireturn, 1) := by decide +kernel
theorem dX11_town_0 : decode cX11_town 0 = .ok (.aload_n 0, 1) := by decide +kernel
theorem dX11_town_1 : decode cX11_town 1 = .ok (.iload_n 1, 1) := by decide +kernel
theorem dX11_town_2 : decode cX11_town 2 = .ok (.invokevirtual 185, 3) := by decide +kernel
theorem dX11_town_5 : decode cX11_town 5 = .ok (.ifCond .eq 14, 3) := by decide +kernel
theorem dX11_town_8 : decode cX11_town 8 = .ok (.aload_n 0, 1) := by decide +kernel
theorem dX11_town_9 : decode cX11_town 9 = .ok (.iload_n 2, 1) := by decide +kernel
theorem dX11_town_10 : decode cX11_town 10 = .ok (.iload_n 3, 1) := by decide +kernel
theorem dX11_town_11 : decode cX11_town 11 = .ok (.iload 4, 2) := by decide +kernel
theorem dX11_town_13 : decode cX11_town 13 = .ok (.invokevirtual 188, 3) := by decide +kernel
theorem dX11_town_16 : decode cX11_town 16 = .ok (.ifCond .ne 5, 3) := by decide +kernel
theorem dX11_town_19 : decode cX11_town 19 = .ok (.iconst (-1), 1) := by decide +kernel
theorem dX11_town_20 : decode cX11_town 20 = .ok (.ireturn, 1) := by decide +kernel
theorem dX11_town_21 : decode cX11_town 21 = .ok (.aload_n 0, 1) := by decide +kernel
theorem dX11_town_22 : decode cX11_town 22 = .ok (.getfield 26, 3) := by decide +kernel
theorem dX11_town_25 : decode cX11_town 25 = .ok (.aload_n 0, 1) := by decide +kernel
theorem dX11_town_26 : decode cX11_town 26 = .ok (.getfield 35, 3) := by decide +kernel
theorem dX11_town_29 : decode cX11_town 29 = .ok (.iload_n 2, 1) := by decide +kernel
theorem dX11_town_30 : decode cX11_town 30 = .ok (.iload_n 3, 1) := by decide +kernel
theorem dX11_town_31 : decode cX11_town 31 = .ok (.iload 4, 2) := by decide +kernel
theorem dX11_town_33 : decode cX11_town 33 = .ok (.invokevirtual 195, 3) := by decide +kernel
theorem dX11_town_36 : decode cX11_town 36 = .ok (.iload_n 1, 1) := by decide +kernel
theorem dX11_town_37 : decode cX11_town 37 = .ok (.invokevirtual 198, 3) := by decide +kernel
theorem dX11_town_40 : decode cX11_town 40 = .ok (.lstore 5, 2) := by decide +kernel
theorem dX11_town_42 : decode cX11_town 42 = .ok (.iconst (-1), 1) := by decide +kernel
theorem dX11_town_43 : decode cX11_town 43 = .ok (.istore 7, 2) := by decide +kernel
theorem dX11_town_45 : decode cX11_town 45 = .ok (.iconst 0, 1) := by decide +kernel
theorem dX11_town_46 : decode cX11_town 46 = .ok (.istore 8, 2) := by decide +kernel
theorem dX11_town_48 : decode cX11_town 48 = .ok (.iconst 0, 1) := by decide +kernel
theorem dX11_town_49 : decode cX11_town 49 = .ok (.istore 9, 2) := by decide +kernel
theorem dX11_town_51 : decode cX11_town 51 = .ok (.iload 9, 2) := by decide +kernel
theorem dX11_town_53 : decode cX11_town 53 = .ok (.bipush 6, 2) := by decide +kernel
theorem dX11_town_55 : decode cX11_town 55 = .ok (.if_icmp .ge 45, 3) := by decide +kernel
theorem dX11_town_58 : decode cX11_town 58 = .ok (.aload_n 0, 1) := by decide +kernel
theorem dX11_town_59 : decode cX11_town 59 = .ok (.iload_n 1, 1) := by decide +kernel
theorem dX11_town_60 : decode cX11_town 60 = .ok (.lload 5, 2) := by decide +kernel
theorem dX11_town_62 : decode cX11_town 62 = .ok (.iload_n 2, 1) := by decide +kernel
theorem dX11_town_63 : decode cX11_town 63 = .ok (.iload 9, 2) := by decide +kernel
theorem dX11_town_65 : decode cX11_town 65 = .ok (.invokevirtual 433, 3) := by decide +kernel
theorem dX11_town_68 : decode cX11_town 68 = .ok (.istore 10, 2) := by decide +kernel
theorem dX11_town_70 : decode cX11_town 70 = .ok (.iload 10, 2) := by decide +kernel
theorem dX11_town_72 : decode cX11_town 72 = .ok (.iconst (-1), 1) := by decide +kernel
theorem dX11_town_73 : decode cX11_town 73 = .ok (.if_icmp .ne 6, 3) := by decide +kernel
theorem dX11_town_76 : decode cX11_town 76 = .ok (.bipush (-2), 2) := by decide +kernel
theorem dX11_town_78 : decode cX11_town 78 = .ok (.ireturn, 1) := by decide +kernel
theorem dX11_town_79 : decode cX11_town 79 = .ok (.iload 10, 2) := by decide +kernel
theorem dX11_town_81 : decode cX11_town 81 = .ok (.iload 7, 2) := by decide +kernel
theorem dX11_town_83 : decode cX11_town 83 = .ok (.if_icmp .le 11, 3) := by decide +kernel
theorem dX11_town_86 : decode cX11_town 86 = .ok (.iload 10, 2) := by decide +kernel
theorem dX11_town_88 : decode cX11_town 88 = .ok (.istore 7, 2) := by decide +kernel
theorem dX11_town_90 : decode cX11_town 90 = .ok (.iload 9, 2) := by decide +kernel
theorem dX11_town_92 : decode cX11_town 92 = .ok (.istore 8, 2) := by decide +kernel
theorem dX11_town_94 : decode cX11_town 94 = .ok (.iinc 9 1, 3) := by decide +kernel
theorem dX11_town_97 : decode cX11_town 97 = .ok (.goto (-46), 3) := by decide +kernel
theorem dX11_town_100 : decode cX11_town 100 = .ok (.aload_n 0, 1) := by decide +kernel
theorem dX11_town_101 : decode cX11_town 101 = .ok (.getfield 19, 3) := by decide +kernel
theorem dX11_town_104 : decode cX11_town 104 = .ok (.invokevirtual 192, 3) := by decide +kernel
theorem dX11_town_107 : decode cX11_town 107 = .ok (.aload_n 0, 1) := by decide +kernel
theorem dX11_town_108 : decode cX11_town 108 = .ok (.getfield 19, 3) := by decide +kernel
theorem dX11_town_111 : decode cX11_town 111 = .ok (.iload 8, 2) := by decide +kernel
theorem dX11_town_113 : decode cX11_town 113 = .ok (.i2l, 1) := by decide +kernel
theorem dX11_town_114 : decode cX11_town 114 = .ok (.invokevirtual 214, 3) := by decide +kernel
theorem dX11_town_117 : decode cX11_town 117 = .ok (.iload 7, 2) := by decide +kernel
theorem dX11_town_119 : decode cX11_town 119 = .ok (.ireturn, 1) := by decide +kernel
theorem dX11_firstSaidSo_0 : decode cX11_firstSaidSo 0 = .ok (.iconst 0, 1) := by decide +kernel
theorem dX11_firstSaidSo_1 : decode cX11_firstSaidSo 1 = .ok (.istore 6, 2) := by decide +kernel
theorem dX11_firstSaidSo_3 : decode cX11_firstSaidSo 3 = .ok (.iload 6, 2) := by decide +kernel
theorem dX11_firstSaidSo_5 : decode cX11_firstSaidSo 5 = .ok (.aload_n 0, 1) := by decide +kernel
theorem dX11_firstSaidSo_6 : decode cX11_firstSaidSo 6 = .ok (.getfield 26, 3) := by decide +kernel
theorem dX11_firstSaidSo_9 : decode cX11_firstSaidSo 9 = .ok (.getfield 138, 3) := by decide +kernel
theorem dX11_firstSaidSo_12 : decode cX11_firstSaidSo 12 = .ok (.if_icmp .gt 53, 3) := by decide +kernel
theorem dX11_firstSaidSo_15 : decode cX11_firstSaidSo 15 = .ok (.aload_n 0, 1) := by decide +kernel
theorem dX11_firstSaidSo_16 : decode cX11_firstSaidSo 16 = .ok (.getfield 35, 3) := by decide +kernel
theorem dX11_firstSaidSo_19 : decode cX11_firstSaidSo 19 = .ok (.iload 4, 2) := by decide +kernel
theorem dX11_firstSaidSo_21 : decode cX11_firstSaidSo 21 = .ok (.iload 6, 2) := by decide +kernel
theorem dX11_firstSaidSo_23 : decode cX11_firstSaidSo 23 = .ok (.iload 5, 2) := by decide +kernel
theorem dX11_firstSaidSo_25 : decode cX11_firstSaidSo 25 = .ok (.invokevirtual 221, 3) := by decide +kernel
theorem dX11_firstSaidSo_28 : decode cX11_firstSaidSo 28 = .ok (.istore 7, 2) := by decide +kernel
theorem dX11_firstSaidSo_30 : decode cX11_firstSaidSo 30 = .ok (.aload_n 0, 1) := by decide +kernel
theorem dX11_firstSaidSo_31 : decode cX11_firstSaidSo 31 = .ok (.getfield 26, 3) := by decide +kernel
theorem dX11_firstSaidSo_34 : decode cX11_firstSaidSo 34 = .ok (.aload_n 0, 1) := by decide +kernel
theorem dX11_firstSaidSo_35 : decode cX11_firstSaidSo 35 = .ok (.getfield 35, 3) := by decide +kernel
theorem dX11_firstSaidSo_38 : decode cX11_firstSaidSo 38 = .ok (.iload 4, 2) := by decide +kernel
theorem dX11_firstSaidSo_40 : decode cX11_firstSaidSo 40 = .ok (.iload 7, 2) := by decide +kernel
theorem dX11_firstSaidSo_42 : decode cX11_firstSaidSo 42 = .ok (.iload 5, 2) := by decide +kernel
theorem dX11_firstSaidSo_44 : decode cX11_firstSaidSo 44 = .ok (.invokevirtual 195, 3) := by decide +kernel
theorem dX11_firstSaidSo_47 : decode cX11_firstSaidSo 47 = .ok (.iload_n 1, 1) := by decide +kernel
theorem dX11_firstSaidSo_48 : decode cX11_firstSaidSo 48 = .ok (.invokevirtual 198, 3) := by decide +kernel
theorem dX11_firstSaidSo_51 : decode cX11_firstSaidSo 51 = .ok (.lload_n 2, 1) := by decide +kernel
theorem dX11_firstSaidSo_52 : decode cX11_firstSaidSo 52 = .ok (.lcmp, 1) := by decide +kernel
theorem dX11_firstSaidSo_53 : decode cX11_firstSaidSo 53 = .ok (.ifCond .ne 6, 3) := by decide +kernel
theorem dX11_firstSaidSo_56 : decode cX11_firstSaidSo 56 = .ok (.iload 7, 2) := by decide +kernel
theorem dX11_firstSaidSo_58 : decode cX11_firstSaidSo 58 = .ok (.ireturn, 1) := by decide +kernel
theorem dX11_firstSaidSo_59 : decode cX11_firstSaidSo 59 = .ok (.iinc 6 1, 3) := by decide +kernel
theorem dX11_firstSaidSo_62 : decode cX11_firstSaidSo 62 = .ok (.goto (-59), 3) := by decide +kernel
theorem dX11_firstSaidSo_65 : decode cX11_firstSaidSo 65 = .ok (.iconst (-1), 1) := by decide +kernel
theorem dX11_firstSaidSo_66 : decode cX11_firstSaidSo 66 = .ok (.ireturn, 1) := by decide +kernel
theorem dX11_swap_0 : decode cX11_swap 0 = .ok (.aload_n 0, 1) := by decide +kernel
theorem dX11_swap_1 : decode cX11_swap 1 = .ok (.iload_n 1, 1) := by decide +kernel
theorem dX11_swap_2 : decode cX11_swap 2 = .ok (.invokevirtual 235, 3) := by decide +kernel
theorem dX11_swap_5 : decode cX11_swap 5 = .ok (.ifCond .eq 28, 3) := by decide +kernel
theorem dX11_swap_8 : decode cX11_swap 8 = .ok (.aload_n 0, 1) := by decide +kernel
theorem dX11_swap_9 : decode cX11_swap 9 = .ok (.iload_n 2, 1) := by decide +kernel
theorem dX11_swap_10 : decode cX11_swap 10 = .ok (.invokevirtual 235, 3) := by decide +kernel
theorem dX11_swap_13 : decode cX11_swap 13 = .ok (.ifCond .eq 20, 3) := by decide +kernel
theorem dX11_swap_16 : decode cX11_swap 16 = .ok (.iload_n 1, 1) := by decide +kernel
theorem dX11_swap_17 : decode cX11_swap 17 = .ok (.iload_n 2, 1) := by decide +kernel
theorem dX11_swap_18 : decode cX11_swap 18 = .ok (.if_icmp .eq 15, 3) := by decide +kernel
theorem dX11_swap_21 : decode cX11_swap 21 = .ok (.aload_n 0, 1) := by decide +kernel
theorem dX11_swap_22 : decode cX11_swap 22 = .ok (.iload_n 3, 1) := by decide +kernel
theorem dX11_swap_23 : decode cX11_swap 23 = .ok (.iload 4, 2) := by decide +kernel
theorem dX11_swap_25 : decode cX11_swap 25 = .ok (.iload 5, 2) := by decide +kernel
theorem dX11_swap_27 : decode cX11_swap 27 = .ok (.invokevirtual 188, 3) := by decide +kernel
theorem dX11_swap_30 : decode cX11_swap 30 = .ok (.ifCond .ne 5, 3) := by decide +kernel
theorem dX11_swap_33 : decode cX11_swap 33 = .ok (.iconst (-1), 1) := by decide +kernel
theorem dX11_swap_34 : decode cX11_swap 34 = .ok (.ireturn, 1) := by decide +kernel
theorem dX11_swap_35 : decode cX11_swap 35 = .ok (.aload_n 0, 1) := by decide +kernel
theorem dX11_swap_36 : decode cX11_swap 36 = .ok (.getfield 35, 3) := by decide +kernel
theorem dX11_swap_39 : decode cX11_swap 39 = .ok (.iload_n 1, 1) := by decide +kernel
theorem dX11_swap_40 : decode cX11_swap 40 = .ok (.iload_n 3, 1) := by decide +kernel
theorem dX11_swap_41 : decode cX11_swap 41 = .ok (.iload 4, 2) := by decide +kernel
theorem dX11_swap_43 : decode cX11_swap 43 = .ok (.iload 5, 2) := by decide +kernel
theorem dX11_swap_45 : decode cX11_swap 45 = .ok (.invokevirtual 238, 3) := by decide +kernel
theorem dX11_swap_48 : decode cX11_swap 48 = .ok (.ifCond .eq 19, 3) := by decide +kernel
theorem dX11_swap_51 : decode cX11_swap 51 = .ok (.aload_n 0, 1) := by decide +kernel
theorem dX11_swap_52 : decode cX11_swap 52 = .ok (.getfield 35, 3) := by decide +kernel
theorem dX11_swap_55 : decode cX11_swap 55 = .ok (.iload_n 2, 1) := by decide +kernel
theorem dX11_swap_56 : decode cX11_swap 56 = .ok (.iload_n 3, 1) := by decide +kernel
theorem dX11_swap_57 : decode cX11_swap 57 = .ok (.iload 4, 2) := by decide +kernel
theorem dX11_swap_59 : decode cX11_swap 59 = .ok (.iload 5, 2) := by decide +kernel
theorem dX11_swap_61 : decode cX11_swap 61 = .ok (.invokevirtual 238, 3) := by decide +kernel
theorem dX11_swap_64 : decode cX11_swap 64 = .ok (.ifCond .ne 5, 3) := by decide +kernel
theorem dX11_swap_67 : decode cX11_swap 67 = .ok (.iconst (-1), 1) := by decide +kernel
theorem dX11_swap_68 : decode cX11_swap 68 = .ok (.ireturn, 1) := by decide +kernel
theorem dX11_swap_69 : decode cX11_swap 69 = .ok (.aload_n 0, 1) := by decide +kernel
theorem dX11_swap_70 : decode cX11_swap 70 = .ok (.getfield 35, 3) := by decide +kernel
theorem dX11_swap_73 : decode cX11_swap 73 = .ok (.iload_n 3, 1) := by decide +kernel
theorem dX11_swap_74 : decode cX11_swap 74 = .ok (.iload 4, 2) := by decide +kernel
theorem dX11_swap_76 : decode cX11_swap 76 = .ok (.aload_n 0, 1) := by decide +kernel
theorem dX11_swap_77 : decode cX11_swap 77 = .ok (.getfield 35, 3) := by decide +kernel
theorem dX11_swap_80 : decode cX11_swap 80 = .ok (.getfield 166, 3) := by decide +kernel
theorem dX11_swap_83 : decode cX11_swap 83 = .ok (.iload 5, 2) := by decide +kernel
theorem dX11_swap_85 : decode cX11_swap 85 = .ok (.iaload, 1) := by decide +kernel
theorem dX11_swap_86 : decode cX11_swap 86 = .ok (.isub, 1) := by decide +kernel
theorem dX11_swap_87 : decode cX11_swap 87 = .ok (.iload_n 1, 1) := by decide +kernel
theorem dX11_swap_88 : decode cX11_swap 88 = .ok (.iload_n 2, 1) := by decide +kernel
theorem dX11_swap_89 : decode cX11_swap 89 = .ok (.invokevirtual 437, 3) := by decide +kernel
theorem dX11_swap_92 : decode cX11_swap 92 = .ok (.istore 6, 2) := by decide +kernel
theorem dX11_swap_94 : decode cX11_swap 94 = .ok (.aload_n 0, 1) := by decide +kernel
theorem dX11_swap_95 : decode cX11_swap 95 = .ok (.getfield 26, 3) := by decide +kernel
theorem dX11_swap_98 : decode cX11_swap 98 = .ok (.aload_n 0, 1) := by decide +kernel
theorem dX11_swap_99 : decode cX11_swap 99 = .ok (.getfield 35, 3) := by decide +kernel
theorem dX11_swap_102 : decode cX11_swap 102 = .ok (.iload_n 3, 1) := by decide +kernel
theorem dX11_swap_103 : decode cX11_swap 103 = .ok (.iload 4, 2) := by decide +kernel
theorem dX11_swap_105 : decode cX11_swap 105 = .ok (.iload 5, 2) := by decide +kernel
theorem dX11_swap_107 : decode cX11_swap 107 = .ok (.invokevirtual 195, 3) := by decide +kernel
theorem dX11_swap_110 : decode cX11_swap 110 = .ok (.iload 6, 2) := by decide +kernel
theorem dX11_swap_112 : decode cX11_swap 112 = .ok (.invokevirtual 248, 3) := by decide +kernel
theorem dX11_swap_115 : decode cX11_swap 115 = .ok (.ireturn, 1) := by decide +kernel
theorem dX11_keep_0 : decode cX11_keep 0 = .ok (.iload_n 1, 1) := by decide +kernel
theorem dX11_keep_1 : decode cX11_keep 1 = .ok (.iconst 3, 1) := by decide +kernel
theorem dX11_keep_2 : decode cX11_keep 2 = .ok (.invokestatic 101, 3) := by decide +kernel
theorem dX11_keep_5 : decode cX11_keep 5 = .ok (.ifCond .ne 5, 3) := by decide +kernel
theorem dX11_keep_8 : decode cX11_keep 8 = .ok (.iconst 0, 1) := by decide +kernel
theorem dX11_keep_9 : decode cX11_keep 9 = .ok (.ireturn, 1) := by decide +kernel
theorem dX11_keep_10 : decode cX11_keep 10 = .ok (.aload_n 0, 1) := by decide +kernel
theorem dX11_keep_11 : decode cX11_keep 11 = .ok (.getfield 71, 3) := by decide +kernel
theorem dX11_keep_14 : decode cX11_keep 14 = .ok (.iload_n 1, 1) := by decide +kernel
theorem dX11_keep_15 : decode cX11_keep 15 = .ok (.aaload, 1) := by decide +kernel
theorem dX11_keep_16 : decode cX11_keep 16 = .ok (.aload_n 0, 1) := by decide +kernel
theorem dX11_keep_17 : decode cX11_keep 17 = .ok (.getfield 44, 3) := by decide +kernel
theorem dX11_keep_20 : decode cX11_keep 20 = .ok (.aload_n 0, 1) := by decide +kernel
theorem dX11_keep_21 : decode cX11_keep 21 = .ok (.getfield 35, 3) := by decide +kernel
theorem dX11_keep_24 : decode cX11_keep 24 = .ok (.getfield 166, 3) := by decide +kernel
theorem dX11_keep_27 : decode cX11_keep 27 = .ok (.aload_n 0, 1) := by decide +kernel
theorem dX11_keep_28 : decode cX11_keep 28 = .ok (.getfield 26, 3) := by decide +kernel
theorem dX11_keep_31 : decode cX11_keep 31 = .ok (.getfield 106, 3) := by decide +kernel
theorem dX11_keep_34 : decode cX11_keep 34 = .ok (.invokevirtual 441, 3) := by decide +kernel
theorem dX11_keep_37 : decode cX11_keep 37 = .ok (.iconst 1, 1) := by decide +kernel
theorem dX11_keep_38 : decode cX11_keep 38 = .ok (.ireturn, 1) := by decide +kernel
theorem dX11_again_0 : decode cX11_again 0 = .ok (.iload_n 1, 1) := by decide +kernel
theorem dX11_again_1 : decode cX11_again 1 = .ok (.iconst 3, 1) := by decide +kernel
theorem dX11_again_2 : decode cX11_again 2 = .ok (.invokestatic 101, 3) := by decide +kernel
theorem dX11_again_5 : decode cX11_again 5 = .ok (.ifCond .eq 15, 3) := by decide +kernel
theorem dX11_again_8 : decode cX11_again 8 = .ok (.aload_n 0, 1) := by decide +kernel
theorem dX11_again_9 : decode cX11_again 9 = .ok (.getfield 71, 3) := by decide +kernel
theorem dX11_again_12 : decode cX11_again 12 = .ok (.iload_n 1, 1) := by decide +kernel
theorem dX11_again_13 : decode cX11_again 13 = .ok (.aaload, 1) := by decide +kernel
theorem dX11_again_14 : decode cX11_again 14 = .ok (.getfield 445, 3) := by decide +kernel
theorem dX11_again_17 : decode cX11_again 17 = .ok (.ifCond .ne 5, 3) := by decide +kernel
theorem dX11_again_20 : decode cX11_again 20 = .ok (.iconst 0, 1) := by decide +kernel
theorem dX11_again_21 : decode cX11_again 21 = .ok (.ireturn, 1) := by decide +kernel
theorem dX11_again_22 : decode cX11_again 22 = .ok (.aload_n 0, 1) := by decide +kernel
theorem dX11_again_23 : decode cX11_again 23 = .ok (.getfield 71, 3) := by decide +kernel
theorem dX11_again_26 : decode cX11_again 26 = .ok (.iload_n 1, 1) := by decide +kernel
theorem dX11_again_27 : decode cX11_again 27 = .ok (.aaload, 1) := by decide +kernel
theorem dX11_again_28 : decode cX11_again 28 = .ok (.aload_n 0, 1) := by decide +kernel
theorem dX11_again_29 : decode cX11_again 29 = .ok (.getfield 44, 3) := by decide +kernel
theorem dX11_again_32 : decode cX11_again 32 = .ok (.aload_n 0, 1) := by decide +kernel
theorem dX11_again_33 : decode cX11_again 33 = .ok (.getfield 35, 3) := by decide +kernel
theorem dX11_again_36 : decode cX11_again 36 = .ok (.getfield 166, 3) := by decide +kernel
theorem dX11_again_39 : decode cX11_again 39 = .ok (.invokevirtual 449, 3) := by decide +kernel
theorem dX11_again_42 : decode cX11_again 42 = .ok (.iconst 0, 1) := by decide +kernel
theorem dX11_again_43 : decode cX11_again 43 = .ok (.istore_n 2, 1) := by decide +kernel
theorem dX11_again_44 : decode cX11_again 44 = .ok (.iload_n 2, 1) := by decide +kernel
theorem dX11_again_45 : decode cX11_again 45 = .ok (.bipush 6, 2) := by decide +kernel
theorem dX11_again_47 : decode cX11_again 47 = .ok (.if_icmp .ge 28, 3) := by decide +kernel
theorem dX11_again_50 : decode cX11_again 50 = .ok (.aload_n 0, 1) := by decide +kernel
theorem dX11_again_51 : decode cX11_again 51 = .ok (.getfield 26, 3) := by decide +kernel
theorem dX11_again_54 : decode cX11_again 54 = .ok (.iload_n 2, 1) := by decide +kernel
theorem dX11_again_55 : decode cX11_again 55 = .ok (.aload_n 0, 1) := by decide +kernel
theorem dX11_again_56 : decode cX11_again 56 = .ok (.getfield 71, 3) := by decide +kernel
theorem dX11_again_59 : decode cX11_again 59 = .ok (.iload_n 1, 1) := by decide +kernel
theorem dX11_again_60 : decode cX11_again 60 = .ok (.aaload, 1) := by decide +kernel
theorem dX11_again_61 : decode cX11_again 61 = .ok (.getfield 453, 3) := by decide +kernel
theorem dX11_again_64 : decode cX11_again 64 = .ok (.iload_n 2, 1) := by decide +kernel
theorem dX11_again_65 : decode cX11_again 65 = .ok (.iaload, 1) := by decide +kernel
theorem dX11_again_66 : decode cX11_again 66 = .ok (.invokevirtual 109, 3) := by decide +kernel
theorem dX11_again_69 : decode cX11_again 69 = .ok (.iinc 2 1, 3) := by decide +kernel
theorem dX11_again_72 : decode cX11_again 72 = .ok (.goto (-28), 3) := by decide +kernel
theorem dX11_again_75 : decode cX11_again 75 = .ok (.aload_n 0, 1) := by decide +kernel
theorem dX11_again_76 : decode cX11_again 76 = .ok (.getfield 44, 3) := by decide +kernel
theorem dX11_again_79 : decode cX11_again 79 = .ok (.invokevirtual 113, 3) := by decide +kernel
theorem dX11_again_82 : decode cX11_again 82 = .ok (.iconst 1, 1) := by decide +kernel
theorem dX11_again_83 : decode cX11_again 83 = .ok (.ireturn, 1) := by decide +kernel
theorem dX11_count_0 : decode cX11_count 0 = .ok (.iload_n 1, 1) := by decide +kernel
theorem dX11_count_1 : decode cX11_count 1 = .ok (.tableswitch 99 0 6 #[43, 51, 59, 67, 75, 83, 91], 43) := by decide +kernel
theorem dX11_count_44 : decode cX11_count 44 = .ok (.aload_n 0, 1) := by decide +kernel
theorem dX11_count_45 : decode cX11_count 45 = .ok (.getfield 26, 3) := by decide +kernel
theorem dX11_count_48 : decode cX11_count 48 = .ok (.getfield 116, 3) := by decide +kernel
theorem dX11_count_51 : decode cX11_count 51 = .ok (.ireturn, 1) := by decide +kernel
theorem dX11_count_52 : decode cX11_count 52 = .ok (.aload_n 0, 1) := by decide +kernel
theorem dX11_count_53 : decode cX11_count 53 = .ok (.getfield 26, 3) := by decide +kernel
theorem dX11_count_56 : decode cX11_count 56 = .ok (.getfield 138, 3) := by decide +kernel
theorem dX11_count_59 : decode cX11_count 59 = .ok (.ireturn, 1) := by decide +kernel
theorem dX11_count_60 : decode cX11_count 60 = .ok (.aload_n 0, 1) := by decide +kernel
theorem dX11_count_61 : decode cX11_count 61 = .ok (.getfield 35, 3) := by decide +kernel
theorem dX11_count_64 : decode cX11_count 64 = .ok (.getfield 144, 3) := by decide +kernel
theorem dX11_count_67 : decode cX11_count 67 = .ok (.ireturn, 1) := by decide +kernel
theorem dX11_count_68 : decode cX11_count 68 = .ok (.aload_n 0, 1) := by decide +kernel
theorem dX11_count_69 : decode cX11_count 69 = .ok (.getfield 44, 3) := by decide +kernel
theorem dX11_count_72 : decode cX11_count 72 = .ok (.getfield 251, 3) := by decide +kernel
theorem dX11_count_75 : decode cX11_count 75 = .ok (.ireturn, 1) := by decide +kernel
theorem dX11_count_76 : decode cX11_count 76 = .ok (.aload_n 0, 1) := by decide +kernel
theorem dX11_count_77 : decode cX11_count 77 = .ok (.getfield 44, 3) := by decide +kernel
theorem dX11_count_80 : decode cX11_count 80 = .ok (.getfield 283, 3) := by decide +kernel
theorem dX11_count_83 : decode cX11_count 83 = .ok (.ireturn, 1) := by decide +kernel
theorem dX11_count_84 : decode cX11_count 84 = .ok (.aload_n 0, 1) := by decide +kernel
theorem dX11_count_85 : decode cX11_count 85 = .ok (.getfield 19, 3) := by decide +kernel
theorem dX11_count_88 : decode cX11_count 88 = .ok (.getfield 224, 3) := by decide +kernel
theorem dX11_count_91 : decode cX11_count 91 = .ok (.ireturn, 1) := by decide +kernel
theorem dX11_count_92 : decode cX11_count 92 = .ok (.aload_n 0, 1) := by decide +kernel
theorem dX11_count_93 : decode cX11_count 93 = .ok (.getfield 10, 3) := by decide +kernel
theorem dX11_count_96 : decode cX11_count 96 = .ok (.getfield 94, 3) := by decide +kernel
theorem dX11_count_99 : decode cX11_count 99 = .ok (.ireturn, 1) := by decide +kernel
theorem dX11_count_100 : decode cX11_count 100 = .ok (.iconst (-1), 1) := by decide +kernel
theorem dX11_count_101 : decode cX11_count 101 = .ok (.ireturn, 1) := by decide +kernel
theorem dX11_year_0 : decode cX11_year 0 = .ok (.aload_n 0, 1) := by decide +kernel
theorem dX11_year_1 : decode cX11_year 1 = .ok (.iload_n 1, 1) := by decide +kernel
theorem dX11_year_2 : decode cX11_year 2 = .ok (.invokevirtual 235, 3) := by decide +kernel
theorem dX11_year_5 : decode cX11_year 5 = .ok (.ifCond .eq 11, 3) := by decide +kernel
theorem dX11_year_8 : decode cX11_year 8 = .ok (.aload_n 0, 1) := by decide +kernel
theorem dX11_year_9 : decode cX11_year 9 = .ok (.iload_n 2, 1) := by decide +kernel
theorem dX11_year_10 : decode cX11_year 10 = .ok (.invokevirtual 218, 3) := by decide +kernel
theorem dX11_year_13 : decode cX11_year 13 = .ok (.ifCond .ne 5, 3) := by decide +kernel
theorem dX11_year_16 : decode cX11_year 16 = .ok (.iconst (-1), 1) := by decide +kernel
theorem dX11_year_17 : decode cX11_year 17 = .ok (.ireturn, 1) := by decide +kernel
theorem dX11_year_18 : decode cX11_year 18 = .ok (.aload_n 0, 1) := by decide +kernel
theorem dX11_year_19 : decode cX11_year 19 = .ok (.getfield 35, 3) := by decide +kernel
theorem dX11_year_22 : decode cX11_year 22 = .ok (.iload_n 2, 1) := by decide +kernel
theorem dX11_year_23 : decode cX11_year 23 = .ok (.iload_n 1, 1) := by decide +kernel
theorem dX11_year_24 : decode cX11_year 24 = .ok (.invokevirtual 296, 3) := by decide +kernel
theorem dX11_year_27 : decode cX11_year 27 = .ok (.ireturn, 1) := by decide +kernel
theorem dX11_row_0 : decode cX11_row 0 = .ok (.iload_n 1, 1) := by decide +kernel
theorem dX11_row_1 : decode cX11_row 1 = .ok (.aload_n 0, 1) := by decide +kernel
theorem dX11_row_2 : decode cX11_row 2 = .ok (.getfield 19, 3) := by decide +kernel
theorem dX11_row_5 : decode cX11_row 5 = .ok (.getfield 224, 3) := by decide +kernel
theorem dX11_row_8 : decode cX11_row 8 = .ok (.invokestatic 101, 3) := by decide +kernel
theorem dX11_row_11 : decode cX11_row 11 = .ok (.ifCond .ne 11, 3) := by decide +kernel
theorem dX11_row_14 : decode cX11_row 14 = .ok (.new 454, 3) := by decide +kernel
theorem dX11_row_17 : decode cX11_row 17 = .ok (.dup, 1) := by decide +kernel
theorem dX11_row_18 : decode cX11_row 18 = .ok (.invokespecial 456, 3) := by decide +kernel
theorem dX11_row_21 : decode cX11_row 21 = .ok (.athrow, 1) := by decide +kernel
theorem dX11_row_22 : decode cX11_row 22 = .ok (.aload_n 0, 1) := by decide +kernel
theorem dX11_row_23 : decode cX11_row 23 = .ok (.getfield 19, 3) := by decide +kernel
theorem dX11_row_26 : decode cX11_row 26 = .ok (.getfield 457, 3) := by decide +kernel
theorem dX11_row_29 : decode cX11_row 29 = .ok (.iload_n 1, 1) := by decide +kernel
theorem dX11_row_30 : decode cX11_row 30 = .ok (.laload, 1) := by decide +kernel
theorem dX11_row_31 : decode cX11_row 31 = .ok (.lreturn, 1) := by decide +kernel
theorem dX11_isBelow_0 : decode cX11_isBelow 0 = .ok (.iload_n 0, 1) := by decide +kernel
theorem dX11_isBelow_1 : decode cX11_isBelow 1 = .ok (.ifCond .lt 12, 3) := by decide +kernel
theorem dX11_isBelow_4 : decode cX11_isBelow 4 = .ok (.iload_n 0, 1) := by decide +kernel
theorem dX11_isBelow_5 : decode cX11_isBelow 5 = .ok (.iload_n 1, 1) := by decide +kernel
theorem dX11_isBelow_6 : decode cX11_isBelow 6 = .ok (.if_icmp .ge 7, 3) := by decide +kernel
theorem dX11_isBelow_9 : decode cX11_isBelow 9 = .ok (.iconst 1, 1) := by decide +kernel
theorem dX11_isBelow_10 : decode cX11_isBelow 10 = .ok (.goto 4, 3) := by decide +kernel
theorem dX11_isBelow_13 : decode cX11_isBelow 13 = .ok (.iconst 0, 1) := by decide +kernel
theorem dX11_isBelow_14 : decode cX11_isBelow 14 = .ok (.ireturn, 1) := by decide +kernel
theorem dX11_isYear_0 : decode cX11_isYear 0 = .ok (.iload_n 0, 1) := by decide +kernel
theorem dX11_isYear_1 : decode cX11_isYear 1 = .ok (.ifCond .lt 14, 3) := by decide +kernel
theorem dX11_isYear_4 : decode cX11_isYear 4 = .ok (.iload_n 0, 1) := by decide +kernel
theorem dX11_isYear_5 : decode cX11_isYear 5 = .ok (.sipush 600, 3) := by decide +kernel
theorem dX11_isYear_8 : decode cX11_isYear 8 = .ok (.if_icmp .gt 7, 3) := by decide +kernel
theorem dX11_isYear_11 : decode cX11_isYear 11 = .ok (.iconst 1, 1) := by decide +kernel
theorem dX11_isYear_12 : decode cX11_isYear 12 = .ok (.goto 4, 3) := by decide +kernel
theorem dX11_isYear_15 : decode cX11_isYear 15 = .ok (.iconst 0, 1) := by decide +kernel
theorem dX11_isYear_16 : decode cX11_isYear 16 = .ok (.ireturn, 1) := by decide +kernel
theorem dX11_isPlace_0 : decode cX11_isPlace 0 = .ok (.iload_n 0, 1) := by decide +kernel
theorem dX11_isPlace_1 : decode cX11_isPlace 1 = .ok (.bipush 6, 2) := by decide +kernel
theorem dX11_isPlace_3 : decode cX11_isPlace 3 = .ok (.invokestatic 101, 3) := by decide +kernel
theorem dX11_isPlace_6 : decode cX11_isPlace 6 = .ok (.ireturn, 1) := by decide +kernel
theorem dX11_isWord_0 : decode cX11_isWord 0 = .ok (.iload_n 1, 1) := by decide +kernel
theorem dX11_isWord_1 : decode cX11_isWord 1 = .ok (.aload_n 0, 1) := by decide +kernel
theorem dX11_isWord_2 : decode cX11_isWord 2 = .ok (.getfield 26, 3) := by decide +kernel
theorem dX11_isWord_5 : decode cX11_isWord 5 = .ok (.getfield 116, 3) := by decide +kernel
theorem dX11_isWord_8 : decode cX11_isWord 8 = .ok (.invokestatic 101, 3) := by decide +kernel
theorem dX11_isWord_11 : decode cX11_isWord 11 = .ok (.ireturn, 1) := by decide +kernel
theorem dX11_isLaw_0 : decode cX11_isLaw 0 = .ok (.iload_n 1, 1) := by decide +kernel
theorem dX11_isLaw_1 : decode cX11_isLaw 1 = .ok (.aload_n 0, 1) := by decide +kernel
theorem dX11_isLaw_2 : decode cX11_isLaw 2 = .ok (.getfield 26, 3) := by decide +kernel
theorem dX11_isLaw_5 : decode cX11_isLaw 5 = .ok (.getfield 138, 3) := by decide +kernel
theorem dX11_isLaw_8 : decode cX11_isLaw 8 = .ok (.invokestatic 101, 3) := by decide +kernel
theorem dX11_isLaw_11 : decode cX11_isLaw 11 = .ok (.ireturn, 1) := by decide +kernel
theorem dX11_isHistory_0 : decode cX11_isHistory 0 = .ok (.iload_n 1, 1) := by decide +kernel
theorem dX11_isHistory_1 : decode cX11_isHistory 1 = .ok (.aload_n 0, 1) := by decide +kernel
theorem dX11_isHistory_2 : decode cX11_isHistory 2 = .ok (.getfield 35, 3) := by decide +kernel
theorem dX11_isHistory_5 : decode cX11_isHistory 5 = .ok (.getfield 144, 3) := by decide +kernel
theorem dX11_isHistory_8 : decode cX11_isHistory 8 = .ok (.invokestatic 101, 3) := by decide +kernel
theorem dX11_isHistory_11 : decode cX11_isHistory 11 = .ok (.ireturn, 1) := by decide +kernel
theorem dX11_isSign_0 : decode cX11_isSign 0 = .ok (.iload_n 1, 1) := by decide +kernel
theorem dX11_isSign_1 : decode cX11_isSign 1 = .ok (.aload_n 0, 1) := by decide +kernel
theorem dX11_isSign_2 : decode cX11_isSign 2 = .ok (.getfield 44, 3) := by decide +kernel
theorem dX11_isSign_5 : decode cX11_isSign 5 = .ok (.getfield 251, 3) := by decide +kernel
theorem dX11_isSign_8 : decode cX11_isSign 8 = .ok (.invokestatic 101, 3) := by decide +kernel
theorem dX11_isSign_11 : decode cX11_isSign 11 = .ok (.ireturn, 1) := by decide +kernel
theorem dX11_isThenAndThere_0 : decode cX11_isThenAndThere 0 = .ok (.aload_n 0, 1) := by decide +kernel
theorem dX11_isThenAndThere_1 : decode cX11_isThenAndThere 1 = .ok (.iload_n 1, 1) := by decide +kernel
theorem dX11_isThenAndThere_2 : decode cX11_isThenAndThere 2 = .ok (.invokevirtual 218, 3) := by decide +kernel
theorem dX11_isThenAndThere_5 : decode cX11_isThenAndThere 5 = .ok (.ifCond .eq 21, 3) := by decide +kernel
theorem dX11_isThenAndThere_8 : decode cX11_isThenAndThere 8 = .ok (.iload_n 2, 1) := by decide +kernel
theorem dX11_isThenAndThere_9 : decode cX11_isThenAndThere 9 = .ok (.invokestatic 257, 3) := by decide +kernel
theorem dX11_isThenAndThere_12 : decode cX11_isThenAndThere 12 = .ok (.ifCond .eq 14, 3) := by decide +kernel
theorem dX11_isThenAndThere_15 : decode cX11_isThenAndThere 15 = .ok (.iload_n 3, 1) := by decide +kernel
theorem dX11_isThenAndThere_16 : decode cX11_isThenAndThere 16 = .ok (.invokestatic 163, 3) := by decide +kernel
theorem dX11_isThenAndThere_19 : decode cX11_isThenAndThere 19 = .ok (.ifCond .eq 7, 3) := by decide +kernel
theorem dX11_isThenAndThere_22 : decode cX11_isThenAndThere 22 = .ok (.iconst 1, 1) := by decide +kernel
theorem dX11_isThenAndThere_23 : decode cX11_isThenAndThere 23 = .ok (.goto 4, 3) := by decide +kernel
theorem dX11_isThenAndThere_26 : decode cX11_isThenAndThere 26 = .ok (.iconst 0, 1) := by decide +kernel
theorem dX11_isThenAndThere_27 : decode cX11_isThenAndThere 27 = .ok (.ireturn, 1) := by decide +kernel
theorem dX12_thrown_0 : decode cX12_thrown 0 = .ok (.aload_n 0, 1) := by decide +kernel
theorem dX12_thrown_1 : decode cX12_thrown 1 = .ok (.getfield 1, 3) := by decide +kernel
theorem dX12_thrown_4 : decode cX12_thrown 4 = .ok (.ireturn, 1) := by decide +kernel
theorem dX12_in_0 : decode cX12_in 0 = .ok (.lload_n 0, 1) := by decide +kernel
theorem dX12_in_1 : decode cX12_in 1 = .ok (.lload_n 2, 1) := by decide +kernel
theorem dX12_in_2 : decode cX12_in 2 = .ok (.lcmp, 1) := by decide +kernel
theorem dX12_in_3 : decode cX12_in 3 = .ok (.ifCond .lt 14, 3) := by decide +kernel
theorem dX12_in_6 : decode cX12_in 6 = .ok (.lload_n 0, 1) := by decide +kernel
theorem dX12_in_7 : decode cX12_in 7 = .ok (.lload 4, 2) := by decide +kernel
theorem dX12_in_9 : decode cX12_in 9 = .ok (.lcmp, 1) := by decide +kernel
theorem dX12_in_10 : decode cX12_in 10 = .ok (.ifCond .gt 7, 3) := by decide +kernel
theorem dX12_in_13 : decode cX12_in 13 = .ok (.iconst 1, 1) := by decide +kernel
theorem dX12_in_14 : decode cX12_in 14 = .ok (.goto 4, 3) := by decide +kernel
theorem dX12_in_17 : decode cX12_in 17 = .ok (.iconst 0, 1) := by decide +kernel
theorem dX12_in_18 : decode cX12_in 18 = .ok (.ireturn, 1) := by decide +kernel
theorem dX12_has_0 : decode cX12_has 0 = .ok (.iload_n 0, 1) := by decide +kernel
theorem dX12_has_1 : decode cX12_has 1 = .ok (.iload_n 1, 1) := by decide +kernel
theorem dX12_has_2 : decode cX12_has 2 = .ok (.ishr, 1) := by decide +kernel
theorem dX12_has_3 : decode cX12_has 3 = .ok (.iconst 1, 1) := by decide +kernel
theorem dX12_has_4 : decode cX12_has 4 = .ok (.iand, 1) := by decide +kernel
theorem dX12_has_5 : decode cX12_has 5 = .ok (.iconst 1, 1) := by decide +kernel
theorem dX12_has_6 : decode cX12_has 6 = .ok (.if_icmp .ne 7, 3) := by decide +kernel
theorem dX12_has_9 : decode cX12_has 9 = .ok (.iconst 1, 1) := by decide +kernel
theorem dX12_has_10 : decode cX12_has 10 = .ok (.goto 4, 3) := by decide +kernel
theorem dX12_has_13 : decode cX12_has 13 = .ok (.iconst 0, 1) := by decide +kernel
theorem dX12_has_14 : decode cX12_has 14 = .ok (.ireturn, 1) := by decide +kernel
theorem dX12_truth_0 : decode cX12_truth 0 = .ok (.iload_n 0, 1) := by decide +kernel
theorem dX12_truth_1 : decode cX12_truth 1 = .ok (.ifCond .eq 7, 3) := by decide +kernel
theorem dX12_truth_4 : decode cX12_truth 4 = .ok (.iconst 1, 1) := by decide +kernel
theorem dX12_truth_5 : decode cX12_truth 5 = .ok (.goto 4, 3) := by decide +kernel
theorem dX12_truth_8 : decode cX12_truth 8 = .ok (.iconst 0, 1) := by decide +kernel
theorem dX12_truth_9 : decode cX12_truth 9 = .ok (.ireturn, 1) := by decide +kernel
theorem dX12_enters_0 : decode cX12_enters 0 = .ok (.aload_n 0, 1) := by decide +kernel
theorem dX12_enters_1 : decode cX12_enters 1 = .ok (.getfield 7, 3) := by decide +kernel
theorem dX12_enters_4 : decode cX12_enters 4 = .ok (.aload_n 0, 1) := by decide +kernel
theorem dX12_enters_5 : decode cX12_enters 5 = .ok (.getfield 11, 3) := by decide +kernel
theorem dX12_enters_8 : decode cX12_enters 8 = .ok (.lload_n 1, 1) := by decide +kernel
theorem dX12_enters_9 : decode cX12_enters 9 = .ok (.lastore, 1) := by decide +kernel
theorem dX12_enters_10 : decode cX12_enters 10 = .ok (.aload_n 0, 1) := by decide +kernel
theorem dX12_enters_11 : decode cX12_enters 11 = .ok (.dup, 1) := by decide +kernel
theorem dX12_enters_12 : decode cX12_enters 12 = .ok (.getfield 11, 3) := by decide +kernel
theorem dX12_enters_15 : decode cX12_enters 15 = .ok (.iconst 1, 1) := by decide +kernel
theorem dX12_enters_16 : decode cX12_enters 16 = .ok (.iadd, 1) := by decide +kernel
theorem dX12_enters_17 : decode cX12_enters 17 = .ok (.putfield 11, 3) := by decide +kernel
theorem dX12_enters_20 : decode cX12_enters 20 = .ok (.return_, 1) := by decide +kernel
theorem dX12_common_0 : decode cX12_common 0 = .ok (.lload_n 0, 1) := by decide +kernel
theorem dX12_common_1 : decode cX12_common 1 = .ok (.lstore 4, 2) := by decide +kernel
theorem dX12_common_3 : decode cX12_common 3 = .ok (.lload_n 2, 1) := by decide +kernel
theorem dX12_common_4 : decode cX12_common 4 = .ok (.lstore 6, 2) := by decide +kernel
theorem dX12_common_6 : decode cX12_common 6 = .ok (.lload 6, 2) := by decide +kernel
theorem dX12_common_8 : decode cX12_common 8 = .ok (.lconst 0, 1) := by decide +kernel
theorem dX12_common_9 : decode cX12_common 9 = .ok (.lcmp, 1) := by decide +kernel
theorem dX12_common_10 : decode cX12_common 10 = .ok (.ifCond .eq 21, 3) := by decide +kernel
theorem dX12_common_13 : decode cX12_common 13 = .ok (.lload 4, 2) := by decide +kernel
theorem dX12_common_15 : decode cX12_common 15 = .ok (.lload 6, 2) := by decide +kernel
theorem dX12_common_17 : decode cX12_common 17 = .ok (.lrem, 1) := by decide +kernel
theorem dX12_common_18 : decode cX12_common 18 = .ok (.lstore 8, 2) := by decide +kernel
theorem dX12_common_20 : decode cX12_common 20 = .ok (.lload 6, 2) := by decide +kernel
theorem dX12_common_22 : decode cX12_common 22 = .ok (.lstore 4, 2) := by decide +kernel
theorem dX12_common_24 : decode cX12_common 24 = .ok (.lload 8, 2) := by decide +kernel
theorem dX12_common_26 : decode cX12_common 26 = .ok (.lstore 6, 2) := by decide +kernel
theorem dX12_common_28 : decode cX12_common 28 = .ok (.goto (-22), 3) := by decide +kernel
theorem dX12_common_31 : decode cX12_common 31 = .ok (.lload 4, 2) := by decide +kernel
theorem dX12_common_33 : decode cX12_common 33 = .ok (.lreturn, 1) := by decide +kernel
theorem dX12_entersFraction_0 : decode cX12_entersFraction 0 = .ok (.lload_n 1, 1) := by decide +kernel
theorem dX12_entersFraction_1 : decode cX12_entersFraction 1 = .ok (.lload_n 3, 1) := by decide +kernel
theorem dX12_entersFraction_2 : decode cX12_entersFraction 2 = .ok (.invokestatic 14, 3) := by decide +kernel
theorem dX12_entersFraction_5 : decode cX12_entersFraction 5 = .ok (.lstore 5, 2) := by decide +kernel
theorem dX12_entersFraction_7 : decode cX12_entersFraction 7 = .ok (.aload_n 0, 1) := by decide +kernel
theorem dX12_entersFraction_8 : decode cX12_entersFraction 8 = .ok (.lload_n 1, 1) := by decide +kernel
theorem dX12_entersFraction_9 : decode cX12_entersFraction 9 = .ok (.lload 5, 2) := by decide +kernel
theorem dX12_entersFraction_11 : decode cX12_entersFraction 11 = .ok (.ldiv, 1) := by decide +kernel
theorem dX12_entersFraction_12 : decode cX12_entersFraction 12 = .ok (.invokevirtual 18, 3) := by decide +kernel
theorem dX12_entersFraction_15 : decode cX12_entersFraction 15 = .ok (.aload_n 0, 1) := by decide +kernel
theorem dX12_entersFraction_16 : decode cX12_entersFraction 16 = .ok (.lload_n 3, 1) := by decide +kernel
theorem dX12_entersFraction_17 : decode cX12_entersFraction 17 = .ok (.lload 5, 2) := by decide +kernel
theorem dX12_entersFraction_19 : decode cX12_entersFraction 19 = .ok (.ldiv, 1) := by decide +kernel
theorem dX12_entersFraction_20 : decode cX12_entersFraction 20 = .ok (.invokevirtual 18, 3) := by decide +kernel
theorem dX12_entersFraction_23 : decode cX12_entersFraction 23 = .ok (.return_, 1) := by decide +kernel
theorem dX12_sign_0 : decode cX12_sign 0 = .ok (.aload_n 0, 1) := by decide +kernel
theorem dX12_sign_1 : decode cX12_sign 1 = .ok (.iconst 0, 1) := by decide +kernel
theorem dX12_sign_2 : decode cX12_sign 2 = .ok (.putfield 1, 3) := by decide +kernel
theorem dX12_sign_5 : decode cX12_sign 5 = .ok (.aload_n 0, 1) := by decide +kernel
theorem dX12_sign_6 : decode cX12_sign 6 = .ok (.getfield 22, 3) := by decide +kernel
theorem dX12_sign_9 : decode cX12_sign 9 = .ok (.bipush 36, 2) := by decide +kernel
theorem dX12_sign_11 : decode cX12_sign 11 = .ok (.if_icmp .le 5, 3) := by decide +kernel
theorem dX12_sign_14 : decode cX12_sign 14 = .ok (.iconst (-1), 1) := by decide +kernel
theorem dX12_sign_15 : decode cX12_sign 15 = .ok (.ireturn, 1) := by decide +kernel
theorem dX12_sign_16 : decode cX12_sign 16 = .ok (.iconst 0, 1) := by decide +kernel
theorem dX12_sign_17 : decode cX12_sign 17 = .ok (.istore_n 2, 1) := by decide +kernel
theorem dX12_sign_18 : decode cX12_sign 18 = .ok (.iload_n 2, 1) := by decide +kernel
theorem dX12_sign_19 : decode cX12_sign 19 = .ok (.iconst 4, 1) := by decide +kernel
theorem dX12_sign_20 : decode cX12_sign 20 = .ok (.if_icmp .ge 33, 3) := by decide +kernel
theorem dX12_sign_23 : decode cX12_sign 23 = .ok (.aload_n 0, 1) := by decide +kernel
theorem dX12_sign_24 : decode cX12_sign 24 = .ok (.getfield 25, 3) := by decide +kernel
theorem dX12_sign_27 : decode cX12_sign 27 = .ok (.aload_n 0, 1) := by decide +kernel
theorem dX12_sign_28 : decode cX12_sign 28 = .ok (.getfield 22, 3) := by decide +kernel
theorem dX12_sign_31 : decode cX12_sign 31 = .ok (.iload_n 2, 1) := by decide +kernel
theorem dX12_sign_32 : decode cX12_sign 32 = .ok (.iadd, 1) := by decide +kernel
theorem dX12_sign_33 : decode cX12_sign 33 = .ok (.iload_n 1, 1) := by decide +kernel
theorem dX12_sign_34 : decode cX12_sign 34 = .ok (.bipush 24, 2) := by decide +kernel
theorem dX12_sign_36 : decode cX12_sign 36 = .ok (.bipush 8, 2) := by decide +kernel
theorem dX12_sign_38 : decode cX12_sign 38 = .ok (.iload_n 2, 1) := by decide +kernel
theorem dX12_sign_39 : decode cX12_sign 39 = .ok (.imul, 1) := by decide +kernel
theorem dX12_sign_40 : decode cX12_sign 40 = .ok (.isub, 1) := by decide +kernel
theorem dX12_sign_41 : decode cX12_sign 41 = .ok (.ishr, 1) := by decide +kernel
theorem dX12_sign_42 : decode cX12_sign 42 = .ok (.sipush 255, 3) := by decide +kernel
theorem dX12_sign_45 : decode cX12_sign 45 = .ok (.iand, 1) := by decide +kernel
theorem dX12_sign_46 : decode cX12_sign 46 = .ok (.iastore, 1) := by decide +kernel
theorem dX12_sign_47 : decode cX12_sign 47 = .ok (.iinc 2 1, 3) := by decide +kernel
theorem dX12_sign_50 : decode cX12_sign 50 = .ok (.goto (-32), 3) := by decide +kernel
theorem dX12_sign_53 : decode cX12_sign 53 = .ok (.aload_n 0, 1) := by decide +kernel
theorem dX12_sign_54 : decode cX12_sign 54 = .ok (.dup, 1) := by decide +kernel
theorem dX12_sign_55 : decode cX12_sign 55 = .ok (.getfield 22, 3) := by decide +kernel
theorem dX12_sign_58 : decode cX12_sign 58 = .ok (.iconst 4, 1) := by decide +kernel
theorem dX12_sign_59 : decode cX12_sign 59 = .ok (.iadd, 1) := by decide +kernel
theorem dX12_sign_60 : decode cX12_sign 60 = .ok (.putfield 22, 3) := by decide +kernel
theorem dX12_sign_63 : decode cX12_sign 63 = .ok (.aload_n 0, 1) := by decide +kernel
theorem dX12_sign_64 : decode cX12_sign 64 = .ok (.getfield 22, 3) := by decide +kernel
theorem dX12_sign_67 : decode cX12_sign 67 = .ok (.ireturn, 1) := by decide +kernel
theorem dX12_end_0 : decode cX12_end 0 = .ok (.aload_n 0, 1) := by decide +kernel
theorem dX12_end_1 : decode cX12_end 1 = .ok (.iconst 0, 1) := by decide +kernel
theorem dX12_end_2 : decode cX12_end 2 = .ok (.putfield 1, 3) := by decide +kernel
theorem dX12_end_5 : decode cX12_end 5 = .ok (.iload_n 1, 1) := by decide +kernel
theorem dX12_end_6 : decode cX12_end 6 = .ok (.i2l, 1) := by decide +kernel
theorem dX12_end_7 : decode cX12_end 7 = .ok (.lconst 0, 1) := by decide +kernel
theorem dX12_end_8 : decode cX12_end 8 = .ok (.aload_n 0, 1) := by decide +kernel
theorem dX12_end_9 : decode cX12_end 9 = .ok (.getfield 22, 3) := by decide +kernel
theorem dX12_end_12 : decode cX12_end 12 = .ok (.i2l, 1) := by decide +kernel
theorem dX12_end_13 : decode cX12_end 13 = .ok (.invokestatic 29, 3) := by decide +kernel
theorem dX12_end_16 : decode cX12_end 16 = .ok (.ifCond .ne 5, 3) := by decide +kernel
theorem dX12_end_19 : decode cX12_end 19 = .ok (.iconst 0, 1) := by decide +kernel
theorem dX12_end_20 : decode cX12_end 20 = .ok (.ireturn, 1) := by decide +kernel
theorem dX12_end_21 : decode cX12_end 21 = .ok (.aload_n 0, 1) := by decide +kernel
theorem dX12_end_22 : decode cX12_end 22 = .ok (.iload_n 1, 1) := by decide +kernel
theorem dX12_end_23 : decode cX12_end 23 = .ok (.putfield 22, 3) := by decide +kernel
theorem dX12_end_26 : decode cX12_end 26 = .ok (.iconst 1, 1) := by decide +kernel
theorem dX12_end_27 : decode cX12_end 27 = .ok (.ireturn, 1) := by decide +kernel
theorem dX12_comes_0 : decode cX12_comes 0 = .ok (.aload_n 0, 1) := by decide +kernel
theorem dX12_comes_1 : decode cX12_comes 1 = .ok (.getfield 33, 3) := by decide +kernel
theorem dX12_comes_4 : decode cX12_comes 4 = .ok (.aload_n 0, 1) := by decide +kernel
theorem dX12_comes_5 : decode cX12_comes 5 = .ok (.getfield 36, 3) := by decide +kernel
theorem dX12_comes_8 : decode cX12_comes 8 = .ok (.if_icmp .ge 20, 3) := by decide +kernel
theorem dX12_comes_11 : decode cX12_comes 11 = .ok (.aload_n 0, 1) := by decide +kernel
theorem dX12_comes_12 : decode cX12_comes 12 = .ok (.getfield 25, 3) := by decide +kernel
theorem dX12_comes_15 : decode cX12_comes 15 = .ok (.aload_n 0, 1) := by decide +kernel
theorem dX12_comes_16 : decode cX12_comes 16 = .ok (.getfield 33, 3) := by decide +kernel
theorem dX12_comes_19 : decode cX12_comes 19 = .ok (.iaload, 1) := by decide +kernel
theorem dX12_comes_20 : decode cX12_comes 20 = .ok (.iload_n 1, 1) := by decide +kernel
theorem dX12_comes_21 : decode cX12_comes 21 = .ok (.if_icmp .ne 7, 3) := by decide +kernel
theorem dX12_comes_24 : decode cX12_comes 24 = .ok (.iconst 1, 1) := by decide +kernel
theorem dX12_comes_25 : decode cX12_comes 25 = .ok (.goto 4, 3) := by decide +kernel
theorem dX12_comes_28 : decode cX12_comes 28 = .ok (.iconst 0, 1) := by decide +kernel
theorem dX12_comes_29 : decode cX12_comes 29 = .ok (.istore_n 2, 1) := by decide +kernel
theorem dX12_comes_30 : decode cX12_comes 30 = .ok (.aload_n 0, 1) := by decide +kernel
theorem dX12_comes_31 : decode cX12_comes 31 = .ok (.dup, 1) := by decide +kernel
theorem dX12_comes_32 : decode cX12_comes 32 = .ok (.getfield 33, 3) := by decide +kernel
theorem dX12_comes_35 : decode cX12_comes 35 = .ok (.iload_n 2, 1) := by decide +kernel
theorem dX12_comes_36 : decode cX12_comes 36 = .ok (.invokestatic 39, 3) := by decide +kernel
theorem dX12_comes_39 : decode cX12_comes 39 = .ok (.iadd, 1) := by decide +kernel
theorem dX12_comes_40 : decode cX12_comes 40 = .ok (.putfield 33, 3) := by decide +kernel
theorem dX12_comes_43 : decode cX12_comes 43 = .ok (.iload_n 2, 1) := by decide +kernel
theorem dX12_comes_44 : decode cX12_comes 44 = .ok (.ireturn, 1) := by decide +kernel
theorem dX12_sound_0 : decode cX12_sound 0 = .ok (.aload_n 0, 1) := by decide +kernel
theorem dX12_sound_1 : decode cX12_sound 1 = .ok (.getfield 33, 3) := by decide +kernel
theorem dX12_sound_4 : decode cX12_sound 4 = .ok (.aload_n 0, 1) := by decide +kernel
theorem dX12_sound_5 : decode cX12_sound 5 = .ok (.getfield 36, 3) := by decide +kernel
theorem dX12_sound_8 : decode cX12_sound 8 = .ok (.if_icmp .ge 25, 3) := by decide +kernel
theorem dX12_sound_11 : decode cX12_sound 11 = .ok (.aload_n 0, 1) := by decide +kernel
theorem dX12_sound_12 : decode cX12_sound 12 = .ok (.getfield 25, 3) := by decide +kernel
theorem dX12_sound_15 : decode cX12_sound 15 = .ok (.aload_n 0, 1) := by decide +kernel
theorem dX12_sound_16 : decode cX12_sound 16 = .ok (.getfield 33, 3) := by decide +kernel
theorem dX12_sound_19 : decode cX12_sound 19 = .ok (.iaload, 1) := by decide +kernel
theorem dX12_sound_20 : decode cX12_sound 20 = .ok (.i2l, 1) := by decide +kernel
theorem dX12_sound_21 : decode cX12_sound 21 = .ok (.ldc2_w 43, 3) := by decide +kernel
theorem dX12_sound_24 : decode cX12_sound 24 = .ok (.ldc2_w 45, 3) := by decide +kernel
theorem dX12_sound_27 : decode cX12_sound 27 = .ok (.invokestatic 29, 3) := by decide +kernel
theorem dX12_sound_30 : decode cX12_sound 30 = .ok (.ifCond .ne 5, 3) := by decide +kernel
theorem dX12_sound_33 : decode cX12_sound 33 = .ok (.iconst (-1), 1) := by decide +kernel
theorem dX12_sound_34 : decode cX12_sound 34 = .ok (.ireturn, 1) := by decide +kernel
theorem dX12_sound_35 : decode cX12_sound 35 = .ok (.aload_n 0, 1) := by decide +kernel
theorem dX12_sound_36 : decode cX12_sound 36 = .ok (.dup, 1) := by decide +kernel
theorem dX12_sound_37 : decode cX12_sound 37 = .ok (.getfield 33, 3) := by decide +kernel
theorem dX12_sound_40 : decode cX12_sound 40 = .ok (.iconst 1, 1) := by decide +kernel
theorem dX12_sound_41 : decode cX12_sound 41 = .ok (.iadd, 1) := by decide +kernel
theorem dX12_sound_42 : decode cX12_sound 42 = .ok (.putfield 33, 3) := by decide +kernel
theorem dX12_sound_45 : decode cX12_sound 45 = .ok (.aload_n 0, 1) := by decide +kernel
theorem dX12_sound_46 : decode cX12_sound 46 = .ok (.getfield 25, 3) := by decide +kernel
theorem dX12_sound_49 : decode cX12_sound 49 = .ok (.aload_n 0, 1) := by decide +kernel
theorem dX12_sound_50 : decode cX12_sound 50 = .ok (.getfield 33, 3) := by decide +kernel
theorem dX12_sound_53 : decode cX12_sound 53 = .ok (.iconst 1, 1) := by decide +kernel
theorem dX12_sound_54 : decode cX12_sound 54 = .ok (.isub, 1) := by decide +kernel
theorem dX12_sound_55 : decode cX12_sound 55 = .ok (.iaload, 1) := by decide +kernel
theorem dX12_sound_56 : decode cX12_sound 56 = .ok (.bipush 97, 2) := by decide +kernel
theorem dX12_sound_58 : decode cX12_sound 58 = .ok (.isub, 1) := by decide +kernel
theorem dX12_sound_59 : decode cX12_sound 59 = .ok (.ireturn, 1) := by decide +kernel
theorem dX12_soundOrClass_0 : decode cX12_soundOrClass 0 = .ok (.aload_n 0, 1) := by decide +kernel
theorem dX12_soundOrClass_1 : decode cX12_soundOrClass 1 = .ok (.invokevirtual 47, 3) := by decide +kernel
theorem dX12_soundOrClass_4 : decode cX12_soundOrClass 4 = .ok (.istore_n 1, 1) := by decide +kernel
theorem dX12_soundOrClass_5 : decode cX12_soundOrClass 5 = .ok (.iload_n 1, 1) := by decide +kernel
theorem dX12_soundOrClass_6 : decode cX12_soundOrClass 6 = .ok (.ifCond .lt 5, 3) := by decide +kernel
theorem dX12_soundOrClass_9 : decode cX12_soundOrClass 9 = .ok (.iload_n 1, 1) := by decide +kernel
theorem dX12_soundOrClass_10 : decode cX12_soundOrClass 10 = .ok (.ireturn, 1) := by decide +kernel
theorem dX12_soundOrClass_11 : decode cX12_soundOrClass 11 = .ok (.aload_n 0, 1) := by decide +kernel
theorem dX12_soundOrClass_12 : decode cX12_soundOrClass 12 = .ok (.getfield 33, 3) := by decide +kernel
theorem dX12_soundOrClass_15 : decode cX12_soundOrClass 15 = .ok (.aload_n 0, 1) := by decide +kernel
theorem dX12_soundOrClass_16 : decode cX12_soundOrClass 16 = .ok (.getfield 36, 3) := by decide +kernel
theorem dX12_soundOrClass_19 : decode cX12_soundOrClass 19 = .ok (.if_icmp .ge 25, 3) := by decide +kernel
theorem dX12_soundOrClass_22 : decode cX12_soundOrClass 22 = .ok (.aload_n 0, 1) := by decide +kernel
theorem dX12_soundOrClass_23 : decode cX12_soundOrClass 23 = .ok (.getfield 25, 3) := by decide +kernel
theorem dX12_soundOrClass_26 : decode cX12_soundOrClass 26 = .ok (.aload_n 0, 1) := by decide +kernel
theorem dX12_soundOrClass_27 : decode cX12_soundOrClass 27 = .ok (.getfield 33, 3) := by decide +kernel
theorem dX12_soundOrClass_30 : decode cX12_soundOrClass 30 = .ok (.iaload, 1) := by decide +kernel
theorem dX12_soundOrClass_31 : decode cX12_soundOrClass 31 = .ok (.i2l, 1) := by decide +kernel
theorem dX12_soundOrClass_32 : decode cX12_soundOrClass 32 = .ok (.ldc2_w 51, 3) := by decide +kernel
theorem dX12_soundOrClass_35 : decode cX12_soundOrClass 35 = .ok (.ldc2_w 53, 3) := by decide +kernel
theorem dX12_soundOrClass_38 : decode cX12_soundOrClass 38 = .ok (.invokestatic 29, 3) := by decide +kernel
theorem dX12_soundOrClass_41 : decode cX12_soundOrClass 41 = .ok (.ifCond .ne 5, 3) := by decide +kernel
theorem dX12_soundOrClass_44 : decode cX12_soundOrClass 44 = .ok (.iconst (-1), 1) := by decide +kernel
theorem dX12_soundOrClass_45 : decode cX12_soundOrClass 45 = .ok (.ireturn, 1) := by decide +kernel
theorem dX12_soundOrClass_46 : decode cX12_soundOrClass 46 = .ok (.aload_n 0, 1) := by decide +kernel
theorem dX12_soundOrClass_47 : decode cX12_soundOrClass 47 = .ok (.dup, 1) := by decide +kernel
theorem dX12_soundOrClass_48 : decode cX12_soundOrClass 48 = .ok (.getfield 33, 3) := by decide +kernel
theorem dX12_soundOrClass_51 : decode cX12_soundOrClass 51 = .ok (.iconst 1, 1) := by decide +kernel
theorem dX12_soundOrClass_52 : decode cX12_soundOrClass 52 = .ok (.iadd, 1) := by decide +kernel
theorem dX12_soundOrClass_53 : decode cX12_soundOrClass 53 = .ok (.putfield 33, 3) := by decide +kernel
theorem dX12_soundOrClass_56 : decode cX12_soundOrClass 56 = .ok (.bipush 16, 2) := by decide +kernel
theorem dX12_soundOrClass_58 : decode cX12_soundOrClass 58 = .ok (.aload_n 0, 1) := by decide +kernel
theorem dX12_soundOrClass_59 : decode cX12_soundOrClass 59 = .ok (.getfield 25, 3) := by decide +kernel
theorem dX12_soundOrClass_62 : decode cX12_soundOrClass 62 = .ok (.aload_n 0, 1) := by decide +kernel
theorem dX12_soundOrClass_63 : decode cX12_soundOrClass 63 = .ok (.getfield 33, 3) := by decide +kernel
theorem dX12_soundOrClass_66 : decode cX12_soundOrClass 66 = .ok (.iconst 1, 1) := by decide +kernel
theorem dX12_soundOrClass_67 : decode cX12_soundOrClass 67 = .ok (.isub, 1) := by decide +kernel
theorem dX12_soundOrClass_68 : decode cX12_soundOrClass 68 = .ok (.iaload, 1) := by decide +kernel
theorem dX12_soundOrClass_69 : decode cX12_soundOrClass 69 = .ok (.iadd, 1) := by decide +kernel
theorem dX12_soundOrClass_70 : decode cX12_soundOrClass 70 = .ok (.bipush 65, 2) := by decide +kernel
theorem dX12_soundOrClass_72 : decode cX12_soundOrClass 72 = .ok (.isub, 1) := by decide +kernel
theorem dX12_soundOrClass_73 : decode cX12_soundOrClass 73 = .ok (.ireturn, 1) := by decide +kernel
theorem dX12_beside_0 : decode cX12_beside 0 = .ok (.aload_n 0, 1) := by decide +kernel
theorem dX12_beside_1 : decode cX12_beside 1 = .ok (.invokevirtual 55, 3) := by decide +kernel
theorem dX12_beside_4 : decode cX12_beside 4 = .ok (.istore_n 1, 1) := by decide +kernel
theorem dX12_beside_5 : decode cX12_beside 5 = .ok (.iload_n 1, 1) := by decide +kernel
theorem dX12_beside_6 : decode cX12_beside 6 = .ok (.ifCond .lt 7, 3) := by decide +kernel
theorem dX12_beside_9 : decode cX12_beside 9 = .ok (.iload_n 1, 1) := by decide +kernel
theorem dX12_beside_10 : decode cX12_beside 10 = .ok (.goto 19, 3) := by decide +kernel
theorem dX12_beside_13 : decode cX12_beside 13 = .ok (.aload_n 0, 1) := by decide +kernel
theorem dX12_beside_14 : decode cX12_beside 14 = .ok (.bipush 35, 2) := by decide +kernel
theorem dX12_beside_16 : decode cX12_beside 16 = .ok (.invokevirtual 58, 3) := by decide +kernel
theorem dX12_beside_19 : decode cX12_beside 19 = .ok (.ifCond .eq 8, 3) := by decide +kernel
theorem dX12_beside_22 : decode cX12_beside 22 = .ok (.bipush 22, 2) := by decide +kernel
theorem dX12_beside_24 : decode cX12_beside 24 = .ok (.goto 5, 3) := by decide +kernel
theorem dX12_beside_27 : decode cX12_beside 27 = .ok (.bipush 23, 2) := by decide +kernel
theorem dX12_beside_29 : decode cX12_beside 29 = .ok (.ireturn, 1) := by decide +kernel
theorem dX12_group_0 : decode cX12_group 0 = .ok (.aload_n 0, 1) := by decide +kernel
theorem dX12_group_1 : decode cX12_group 1 = .ok (.iconst 0, 1) := by decide +kernel
theorem dX12_group_2 : decode cX12_group 2 = .ok (.putfield 1, 3) := by decide +kernel
theorem dX12_group_5 : decode cX12_group 5 = .ok (.iload_n 1, 1) := by decide +kernel
theorem dX12_group_6 : decode cX12_group 6 = .ok (.i2l, 1) := by decide +kernel
theorem dX12_group_7 : decode cX12_group 7 = .ok (.lconst 0, 1) := by decide +kernel
theorem dX12_group_8 : decode cX12_group 8 = .ok (.ldc2_w 62, 3) := by decide +kernel
theorem dX12_group_11 : decode cX12_group 11 = .ok (.invokestatic 29, 3) := by decide +kernel
theorem dX12_group_14 : decode cX12_group 14 = .ok (.ifCond .eq 15, 3) := by decide +kernel
theorem dX12_group_17 : decode cX12_group 17 = .ok (.iload_n 2, 1) := by decide +kernel
theorem dX12_group_18 : decode cX12_group 18 = .ok (.i2l, 1) := by decide +kernel
theorem dX12_group_19 : decode cX12_group 19 = .ok (.lconst 0, 1) := by decide +kernel
theorem dX12_group_20 : decode cX12_group 20 = .ok (.ldc2_w 64, 3) := by decide +kernel
theorem dX12_group_23 : decode cX12_group 23 = .ok (.invokestatic 29, 3) := by decide +kernel
theorem dX12_group_26 : decode cX12_group 26 = .ok (.ifCond .ne 5, 3) := by decide +kernel
theorem dX12_group_29 : decode cX12_group 29 = .ok (.iconst (-1), 1) := by decide +kernel
theorem dX12_group_30 : decode cX12_group 30 = .ok (.ireturn, 1) := by decide +kernel
theorem dX12_group_31 : decode cX12_group 31 = .ok (.aload_n 0, 1) := by decide +kernel
theorem dX12_group_32 : decode cX12_group 32 = .ok (.getfield 66, 3) := by decide +kernel
theorem dX12_group_35 : decode cX12_group 35 = .ok (.iload_n 1, 1) := by decide +kernel
theorem dX12_group_36 : decode cX12_group 36 = .ok (.iaload, 1) := by decide +kernel
theorem dX12_group_37 : decode cX12_group 37 = .ok (.istore_n 3, 1) := by decide +kernel
theorem dX12_group_38 : decode cX12_group 38 = .ok (.aload_n 0, 1) := by decide +kernel
theorem dX12_group_39 : decode cX12_group 39 = .ok (.getfield 66, 3) := by decide +kernel
theorem dX12_group_42 : decode cX12_group 42 = .ok (.iload_n 1, 1) := by decide +kernel
theorem dX12_group_43 : decode cX12_group 43 = .ok (.iload_n 2, 1) := by decide +kernel
theorem dX12_group_44 : decode cX12_group 44 = .ok (.iastore, 1) := by decide +kernel
theorem dX12_group_45 : decode cX12_group 45 = .ok (.iload_n 3, 1) := by decide +kernel
theorem dX12_group_46 : decode cX12_group 46 = .ok (.ireturn, 1) := by decide +kernel
theorem dX12_word_0 : decode cX12_word 0 = .ok (.aload_n 0, 1) := by decide +kernel
theorem dX12_word_1 : decode cX12_word 1 = .ok (.iconst 0, 1) := by decide +kernel
theorem dX12_word_2 : decode cX12_word 2 = .ok (.putfield 1, 3) := by decide +kernel
theorem dX12_word_5 : decode cX12_word 5 = .ok (.aload_n 0, 1) := by decide +kernel
theorem dX12_word_6 : decode cX12_word 6 = .ok (.getfield 22, 3) := by decide +kernel
theorem dX12_word_9 : decode cX12_word 9 = .ok (.istore_n 1, 1) := by decide +kernel
theorem dX12_word_10 : decode cX12_word 10 = .ok (.aload_n 0, 1) := by decide +kernel
theorem dX12_word_11 : decode cX12_word 11 = .ok (.iconst 0, 1) := by decide +kernel
theorem dX12_word_12 : decode cX12_word 12 = .ok (.putfield 22, 3) := by decide +kernel
theorem dX12_word_15 : decode cX12_word 15 = .ok (.aload_n 0, 1) := by decide +kernel
theorem dX12_word_16 : decode cX12_word 16 = .ok (.iconst 0, 1) := by decide +kernel
theorem dX12_word_17 : decode cX12_word 17 = .ok (.putfield 33, 3) := by decide +kernel
theorem dX12_word_20 : decode cX12_word 20 = .ok (.aload_n 0, 1) := by decide +kernel
theorem dX12_word_21 : decode cX12_word 21 = .ok (.iload_n 1, 1) := by decide +kernel
theorem dX12_word_22 : decode cX12_word 22 = .ok (.bipush 8, 2) := by decide +kernel
theorem dX12_word_24 : decode cX12_word 24 = .ok (.invokestatic 69, 3) := by decide +kernel
theorem dX12_word_27 : decode cX12_word 27 = .ok (.putfield 36, 3) := by decide +kernel
theorem dX12_word_30 : decode cX12_word 30 = .ok (.aload_n 0, 1) := by decide +kernel
theorem dX12_word_31 : decode cX12_word 31 = .ok (.getfield 75, 3) := by decide +kernel
theorem dX12_word_34 : decode cX12_word 34 = .ok (.bipush 20, 2) := by decide +kernel
theorem dX12_word_36 : decode cX12_word 36 = .ok (.if_icmp .ne 6, 3) := by decide +kernel
theorem dX12_word_39 : decode cX12_word 39 = .ok (.bipush (-100), 2) := by decide +kernel
theorem dX12_word_41 : decode cX12_word 41 = .ok (.ireturn, 1) := by decide +kernel
theorem dX12_word_42 : decode cX12_word 42 = .ok (.aload_n 0, 1) := by decide +kernel
theorem dX12_word_43 : decode cX12_word 43 = .ok (.getfield 33, 3) := by decide +kernel
theorem dX12_word_46 : decode cX12_word 46 = .ok (.aload_n 0, 1) := by decide +kernel
theorem dX12_word_47 : decode cX12_word 47 = .ok (.getfield 36, 3) := by decide +kernel
theorem dX12_word_50 : decode cX12_word 50 = .ok (.if_icmp .ge 42, 3) := by decide +kernel
theorem dX12_word_53 : decode cX12_word 53 = .ok (.aload_n 0, 1) := by decide +kernel
theorem dX12_word_54 : decode cX12_word 54 = .ok (.invokevirtual 47, 3) := by decide +kernel
theorem dX12_word_57 : decode cX12_word 57 = .ok (.istore_n 2, 1) := by decide +kernel
theorem dX12_word_58 : decode cX12_word 58 = .ok (.iload_n 2, 1) := by decide +kernel
theorem dX12_word_59 : decode cX12_word 59 = .ok (.ifCond .ge 10, 3) := by decide +kernel
theorem dX12_word_62 : decode cX12_word 62 = .ok (.iconst (-1), 1) := by decide +kernel
theorem dX12_word_63 : decode cX12_word 63 = .ok (.aload_n 0, 1) := by decide +kernel
theorem dX12_word_64 : decode cX12_word 64 = .ok (.getfield 33, 3) := by decide +kernel
theorem dX12_word_67 : decode cX12_word 67 = .ok (.isub, 1) := by decide +kernel
theorem dX12_word_68 : decode cX12_word 68 = .ok (.ireturn, 1) := by decide +kernel
theorem dX12_word_69 : decode cX12_word 69 = .ok (.aload_n 0, 1) := by decide +kernel
theorem dX12_word_70 : decode cX12_word 70 = .ok (.getfield 78, 3) := by decide +kernel
theorem dX12_word_73 : decode cX12_word 73 = .ok (.bipush 8, 2) := by decide +kernel
theorem dX12_word_75 : decode cX12_word 75 = .ok (.aload_n 0, 1) := by decide +kernel
theorem dX12_word_76 : decode cX12_word 76 = .ok (.getfield 75, 3) := by decide +kernel
theorem dX12_word_79 : decode cX12_word 79 = .ok (.imul, 1) := by decide +kernel
theorem dX12_word_80 : decode cX12_word 80 = .ok (.aload_n 0, 1) := by decide +kernel
theorem dX12_word_81 : decode cX12_word 81 = .ok (.getfield 33, 3) := by decide +kernel
theorem dX12_word_84 : decode cX12_word 84 = .ok (.iadd, 1) := by decide +kernel
theorem dX12_word_85 : decode cX12_word 85 = .ok (.iconst 1, 1) := by decide +kernel
theorem dX12_word_86 : decode cX12_word 86 = .ok (.isub, 1) := by decide +kernel
theorem dX12_word_87 : decode cX12_word 87 = .ok (.iload_n 2, 1) := by decide +kernel
theorem dX12_word_88 : decode cX12_word 88 = .ok (.iastore, 1) := by decide +kernel
theorem dX12_word_89 : decode cX12_word 89 = .ok (.goto (-47), 3) := by decide +kernel
theorem dX12_word_92 : decode cX12_word 92 = .ok (.iload_n 1, 1) := by decide +kernel
theorem dX12_word_93 : decode cX12_word 93 = .ok (.ifCond .eq 9, 3) := by decide +kernel
theorem dX12_word_96 : decode cX12_word 96 = .ok (.iload_n 1, 1) := by decide +kernel
theorem dX12_word_97 : decode cX12_word 97 = .ok (.bipush 8, 2) := by decide +kernel
theorem dX12_word_99 : decode cX12_word 99 = .ok (.if_icmp .le 10, 3) := by decide +kernel
theorem dX12_word_102 : decode cX12_word 102 = .ok (.iconst (-1), 1) := by decide +kernel
theorem dX12_word_103 : decode cX12_word 103 = .ok (.aload_n 0, 1) := by decide +kernel
theorem dX12_word_104 : decode cX12_word 104 = .ok (.getfield 36, 3) := by decide +kernel
theorem dX12_word_107 : decode cX12_word 107 = .ok (.isub, 1) := by decide +kernel
theorem dX12_word_108 : decode cX12_word 108 = .ok (.ireturn, 1) := by decide +kernel
theorem dX12_word_109 : decode cX12_word 109 = .ok (.aload_n 0, 1) := by decide +kernel
theorem dX12_word_110 : decode cX12_word 110 = .ok (.getfield 81, 3) := by decide +kernel
theorem dX12_word_113 : decode cX12_word 113 = .ok (.aload_n 0, 1) := by decide +kernel
theorem dX12_word_114 : decode cX12_word 114 = .ok (.getfield 75, 3) := by decide +kernel
theorem dX12_word_117 : decode cX12_word 117 = .ok (.iload_n 1, 1) := by decide +kernel
theorem dX12_word_118 : decode cX12_word 118 = .ok (.iastore, 1) := by decide +kernel
theorem dX12_word_119 : decode cX12_word 119 = .ok (.aload_n 0, 1) := by decide +kernel
theorem dX12_word_120 : decode cX12_word 120 = .ok (.dup, 1) := by decide +kernel
theorem dX12_word_121 : decode cX12_word 121 = .ok (.getfield 75, 3) := by decide +kernel
theorem dX12_word_124 : decode cX12_word 124 = .ok (.iconst 1, 1) := by decide +kernel
theorem dX12_word_125 : decode cX12_word 125 = .ok (.iadd, 1) := by decide +kernel
theorem dX12_word_126 : decode cX12_word 126 = .ok (.putfield 75, 3) := by decide +kernel
theorem dX12_word_129 : decode cX12_word 129 = .ok (.aload_n 0, 1) := by decide +kernel
theorem dX12_word_130 : decode cX12_word 130 = .ok (.getfield 75, 3) := by decide +kernel
theorem dX12_word_133 : decode cX12_word 133 = .ok (.iconst 1, 1) := by decide +kernel
theorem dX12_word_134 : decode cX12_word 134 = .ok (.isub, 1) := by decide +kernel
theorem dX12_word_135 : decode cX12_word 135 = .ok (.ireturn, 1) := by decide +kernel
theorem dX12_readsLaw_0 : decode cX12_readsLaw 0 = .ok (.aload_n 0, 1) := by decide +kernel
theorem dX12_readsLaw_1 : decode cX12_readsLaw 1 = .ok (.getfield 84, 3) := by decide +kernel
theorem dX12_readsLaw_4 : decode cX12_readsLaw 4 = .ok (.iload_n 1, 1) := by decide +kernel
theorem dX12_readsLaw_5 : decode cX12_readsLaw 5 = .ok (.aload_n 0, 1) := by decide +kernel
theorem dX12_readsLaw_6 : decode cX12_readsLaw 6 = .ok (.invokevirtual 55, 3) := by decide +kernel
theorem dX12_readsLaw_9 : decode cX12_readsLaw 9 = .ok (.iastore, 1) := by decide +kernel
theorem dX12_readsLaw_10 : decode cX12_readsLaw 10 = .ok (.aload_n 0, 1) := by decide +kernel
theorem dX12_readsLaw_11 : decode cX12_readsLaw 11 = .ok (.getfield 84, 3) := by decide +kernel
theorem dX12_readsLaw_14 : decode cX12_readsLaw 14 = .ok (.iload_n 1, 1) := by decide +kernel
theorem dX12_readsLaw_15 : decode cX12_readsLaw 15 = .ok (.iaload, 1) := by decide +kernel
theorem dX12_readsLaw_16 : decode cX12_readsLaw 16 = .ok (.ifCond .lt 12, 3) := by decide +kernel
theorem dX12_readsLaw_19 : decode cX12_readsLaw 19 = .ok (.aload_n 0, 1) := by decide +kernel
theorem dX12_readsLaw_20 : decode cX12_readsLaw 20 = .ok (.bipush 62, 2) := by decide +kernel
theorem dX12_readsLaw_22 : decode cX12_readsLaw 22 = .ok (.invokevirtual 58, 3) := by decide +kernel
theorem dX12_readsLaw_25 : decode cX12_readsLaw 25 = .ok (.ifCond .ne 5, 3) := by decide +kernel
theorem dX12_readsLaw_28 : decode cX12_readsLaw 28 = .ok (.iconst 0, 1) := by decide +kernel
theorem dX12_readsLaw_29 : decode cX12_readsLaw 29 = .ok (.ireturn, 1) := by decide +kernel
theorem dX12_readsLaw_30 : decode cX12_readsLaw 30 = .ok (.aload_n 0, 1) := by decide +kernel
theorem dX12_readsLaw_31 : decode cX12_readsLaw 31 = .ok (.invokevirtual 47, 3) := by decide +kernel
theorem dX12_readsLaw_34 : decode cX12_readsLaw 34 = .ok (.istore_n 2, 1) := by decide +kernel
theorem dX12_readsLaw_35 : decode cX12_readsLaw 35 = .ok (.aload_n 0, 1) := by decide +kernel
theorem dX12_readsLaw_36 : decode cX12_readsLaw 36 = .ok (.getfield 87, 3) := by decide +kernel
theorem dX12_readsLaw_39 : decode cX12_readsLaw 39 = .ok (.iload_n 1, 1) := by decide +kernel
theorem dX12_readsLaw_40 : decode cX12_readsLaw 40 = .ok (.iload_n 2, 1) := by decide +kernel
theorem dX12_readsLaw_41 : decode cX12_readsLaw 41 = .ok (.ifCond .ge 8, 3) := by decide +kernel
theorem dX12_readsLaw_44 : decode cX12_readsLaw 44 = .ok (.bipush 24, 2) := by decide +kernel
theorem dX12_readsLaw_46 : decode cX12_readsLaw 46 = .ok (.goto 4, 3) := by decide +kernel
theorem dX12_readsLaw_49 : decode cX12_readsLaw 49 = .ok (.iload_n 2, 1) := by decide +kernel
theorem dX12_readsLaw_50 : decode cX12_readsLaw 50 = .ok (.iastore, 1) := by decide +kernel
theorem dX12_readsLaw_51 : decode cX12_readsLaw 51 = .ok (.aload_n 0, 1) := by decide +kernel
theorem dX12_readsLaw_52 : decode cX12_readsLaw 52 = .ok (.getfield 90, 3) := by decide +kernel
theorem dX12_readsLaw_55 : decode cX12_readsLaw 55 = .ok (.iload_n 1, 1) := by decide +kernel
theorem dX12_readsLaw_56 : decode cX12_readsLaw 56 = .ok (.bipush 23, 2) := by decide +kernel
theorem dX12_readsLaw_58 : decode cX12_readsLaw 58 = .ok (.iastore, 1) := by decide +kernel
theorem dX12_readsLaw_59 : decode cX12_readsLaw 59 = .ok (.aload_n 0, 1) := by decide +kernel
theorem dX12_readsLaw_60 : decode cX12_readsLaw 60 = .ok (.getfield 93, 3) := by decide +kernel
theorem dX12_readsLaw_63 : decode cX12_readsLaw 63 = .ok (.iload_n 1, 1) := by decide +kernel
theorem dX12_readsLaw_64 : decode cX12_readsLaw 64 = .ok (.bipush 23, 2) := by decide +kernel
theorem dX12_readsLaw_66 : decode cX12_readsLaw 66 = .ok (.iastore, 1) := by decide +kernel
theorem dX12_readsLaw_67 : decode cX12_readsLaw 67 = .ok (.aload_n 0, 1) := by decide +kernel
theorem dX12_readsLaw_68 : decode cX12_readsLaw 68 = .ok (.bipush 47, 2) := by decide +kernel
theorem dX12_readsLaw_70 : decode cX12_readsLaw 70 = .ok (.invokevirtual 58, 3) := by decide +kernel
theorem dX12_readsLaw_73 : decode cX12_readsLaw 73 = .ok (.ifCond .ne 5, 3) := by decide +kernel
theorem dX12_readsLaw_76 : decode cX12_readsLaw 76 = .ok (.iconst 1, 1) := by decide +kernel
theorem dX12_readsLaw_77 : decode cX12_readsLaw 77 = .ok (.ireturn, 1) := by decide +kernel
theorem dX12_readsLaw_78 : decode cX12_readsLaw 78 = .ok (.aload_n 0, 1) := by decide +kernel
theorem dX12_readsLaw_79 : decode cX12_readsLaw 79 = .ok (.getfield 90, 3) := by decide +kernel
theorem dX12_readsLaw_82 : decode cX12_readsLaw 82 = .ok (.iload_n 1, 1) := by decide +kernel
theorem dX12_readsLaw_83 : decode cX12_readsLaw 83 = .ok (.aload_n 0, 1) := by decide +kernel
theorem dX12_readsLaw_84 : decode cX12_readsLaw 84 = .ok (.invokevirtual 96, 3) := by decide +kernel
theorem dX12_readsLaw_87 : decode cX12_readsLaw 87 = .ok (.iastore, 1) := by decide +kernel
theorem dX12_readsLaw_88 : decode cX12_readsLaw 88 = .ok (.aload_n 0, 1) := by decide +kernel
theorem dX12_readsLaw_89 : decode cX12_readsLaw 89 = .ok (.bipush 95, 2) := by decide +kernel
theorem dX12_readsLaw_91 : decode cX12_readsLaw 91 = .ok (.invokevirtual 58, 3) := by decide +kernel
theorem dX12_readsLaw_94 : decode cX12_readsLaw 94 = .ok (.ifCond .ne 5, 3) := by decide +kernel
theorem dX12_readsLaw_97 : decode cX12_readsLaw 97 = .ok (.iconst 0, 1) := by decide +kernel
theorem dX12_readsLaw_98 : decode cX12_readsLaw 98 = .ok (.ireturn, 1) := by decide +kernel
theorem dX12_readsLaw_99 : decode cX12_readsLaw 99 = .ok (.aload_n 0, 1) := by decide +kernel
theorem dX12_readsLaw_100 : decode cX12_readsLaw 100 = .ok (.getfield 93, 3) := by decide +kernel
theorem dX12_readsLaw_103 : decode cX12_readsLaw 103 = .ok (.iload_n 1, 1) := by decide +kernel
theorem dX12_readsLaw_104 : decode cX12_readsLaw 104 = .ok (.aload_n 0, 1) := by decide +kernel
theorem dX12_readsLaw_105 : decode cX12_readsLaw 105 = .ok (.invokevirtual 96, 3) := by decide +kernel
theorem dX12_readsLaw_108 : decode cX12_readsLaw 108 = .ok (.iastore, 1) := by decide +kernel
theorem dX12_readsLaw_109 : decode cX12_readsLaw 109 = .ok (.iconst 1, 1) := by decide +kernel
theorem dX12_readsLaw_110 : decode cX12_readsLaw 110 = .ok (.ireturn, 1) := by decide +kernel
theorem dX12_histories_0 : decode cX12_histories 0 = .ok (.iconst 1, 1) := by decide +kernel
theorem dX12_histories_1 : decode cX12_histories 1 = .ok (.istore_n 1, 1) := by decide +kernel
theorem dX12_histories_2 : decode cX12_histories 2 = .ok (.iconst 0, 1) := by decide +kernel
theorem dX12_histories_3 : decode cX12_histories 3 = .ok (.istore_n 2, 1) := by decide +kernel
theorem dX12_histories_4 : decode cX12_histories 4 = .ok (.iload_n 2, 1) := by decide +kernel
theorem dX12_histories_5 : decode cX12_histories 5 = .ok (.aload_n 0, 1) := by decide +kernel
theorem dX12_histories_6 : decode cX12_histories 6 = .ok (.getfield 99, 3) := by decide +kernel
theorem dX12_histories_9 : decode cX12_histories 9 = .ok (.if_icmp .ge 18, 3) := by decide +kernel
theorem dX12_histories_12 : decode cX12_histories 12 = .ok (.iload_n 1, 1) := by decide +kernel
theorem dX12_histories_13 : decode cX12_histories 13 = .ok (.aload_n 0, 1) := by decide +kernel
theorem dX12_histories_14 : decode cX12_histories 14 = .ok (.getfield 102, 3) := by decide +kernel
theorem dX12_histories_17 : decode cX12_histories 17 = .ok (.iload_n 2, 1) := by decide +kernel
theorem dX12_histories_18 : decode cX12_histories 18 = .ok (.iaload, 1) := by decide +kernel
theorem dX12_histories_19 : decode cX12_histories 19 = .ok (.imul, 1) := by decide +kernel
theorem dX12_histories_20 : decode cX12_histories 20 = .ok (.istore_n 1, 1) := by decide +kernel
theorem dX12_histories_21 : decode cX12_histories 21 = .ok (.iinc 2 1, 3) := by decide +kernel
theorem dX12_histories_24 : decode cX12_histories 24 = .ok (.goto (-20), 3) := by decide +kernel
theorem dX12_histories_27 : decode cX12_histories 27 = .ok (.iload_n 1, 1) := by decide +kernel
theorem dX12_histories_28 : decode cX12_histories 28 = .ok (.ireturn, 1) := by decide +kernel
theorem dX12_law_0 : decode cX12_law 0 = .ok (.aload_n 0, 1) := by decide +kernel
theorem dX12_law_1 : decode cX12_law 1 = .ok (.iconst 0, 1) := by decide +kernel
theorem dX12_law_2 : decode cX12_law 2 = .ok (.putfield 1, 3) := by decide +kernel
theorem dX12_law_5 : decode cX12_law 5 = .ok (.aload_n 0, 1) := by decide +kernel
theorem dX12_law_6 : decode cX12_law 6 = .ok (.getfield 22, 3) := by decide +kernel
theorem dX12_law_9 : decode cX12_law 9 = .ok (.istore 4, 2) := by decide +kernel
theorem dX12_law_11 : decode cX12_law 11 = .ok (.aload_n 0, 1) := by decide +kernel
theorem dX12_law_12 : decode cX12_law 12 = .ok (.iconst 0, 1) := by decide +kernel
theorem dX12_law_13 : decode cX12_law 13 = .ok (.putfield 22, 3) := by decide +kernel
theorem dX12_law_16 : decode cX12_law 16 = .ok (.aload_n 0, 1) := by decide +kernel
theorem dX12_law_17 : decode cX12_law 17 = .ok (.iconst 0, 1) := by decide +kernel
theorem dX12_law_18 : decode cX12_law 18 = .ok (.putfield 33, 3) := by decide +kernel
theorem dX12_law_21 : decode cX12_law 21 = .ok (.aload_n 0, 1) := by decide +kernel
theorem dX12_law_22 : decode cX12_law 22 = .ok (.iload 4, 2) := by decide +kernel
theorem dX12_law_24 : decode cX12_law 24 = .ok (.bipush 20, 2) := by decide +kernel
theorem dX12_law_26 : decode cX12_law 26 = .ok (.invokestatic 69, 3) := by decide +kernel
theorem dX12_law_29 : decode cX12_law 29 = .ok (.putfield 36, 3) := by decide +kernel
theorem dX12_law_32 : decode cX12_law 32 = .ok (.aload_n 0, 1) := by decide +kernel
theorem dX12_law_33 : decode cX12_law 33 = .ok (.getfield 99, 3) := by decide +kernel
theorem dX12_law_36 : decode cX12_law 36 = .ok (.bipush 6, 2) := by decide +kernel
theorem dX12_law_38 : decode cX12_law 38 = .ok (.if_icmp .ne 6, 3) := by decide +kernel
theorem dX12_law_41 : decode cX12_law 41 = .ok (.bipush (-100), 2) := by decide +kernel
theorem dX12_law_43 : decode cX12_law 43 = .ok (.ireturn, 1) := by decide +kernel
theorem dX12_law_44 : decode cX12_law 44 = .ok (.iload_n 1, 1) := by decide +kernel
theorem dX12_law_45 : decode cX12_law 45 = .ok (.i2l, 1) := by decide +kernel
theorem dX12_law_46 : decode cX12_law 46 = .ok (.lconst 0, 1) := by decide +kernel
theorem dX12_law_47 : decode cX12_law 47 = .ok (.ldc2_w 105, 3) := by decide +kernel
theorem dX12_law_50 : decode cX12_law 50 = .ok (.invokestatic 29, 3) := by decide +kernel
theorem dX12_law_53 : decode cX12_law 53 = .ok (.ifCond .eq 31, 3) := by decide +kernel
theorem dX12_law_56 : decode cX12_law 56 = .ok (.iload_n 2, 1) := by decide +kernel
theorem dX12_law_57 : decode cX12_law 57 = .ok (.i2l, 1) := by decide +kernel
theorem dX12_law_58 : decode cX12_law 58 = .ok (.iload_n 1, 1) := by decide +kernel
theorem dX12_law_59 : decode cX12_law 59 = .ok (.i2l, 1) := by decide +kernel
theorem dX12_law_60 : decode cX12_law 60 = .ok (.ldc2_w 105, 3) := by decide +kernel
theorem dX12_law_63 : decode cX12_law 63 = .ok (.invokestatic 29, 3) := by decide +kernel
theorem dX12_law_66 : decode cX12_law 66 = .ok (.ifCond .eq 18, 3) := by decide +kernel
theorem dX12_law_69 : decode cX12_law 69 = .ok (.iload_n 3, 1) := by decide +kernel
theorem dX12_law_70 : decode cX12_law 70 = .ok (.iconst 1, 1) := by decide +kernel
theorem dX12_law_71 : decode cX12_law 71 = .ok (.if_icmp .lt 13, 3) := by decide +kernel
theorem dX12_law_74 : decode cX12_law 74 = .ok (.iload_n 2, 1) := by decide +kernel
theorem dX12_law_75 : decode cX12_law 75 = .ok (.iload_n 1, 1) := by decide +kernel
theorem dX12_law_76 : decode cX12_law 76 = .ok (.isub, 1) := by decide +kernel
theorem dX12_law_77 : decode cX12_law 77 = .ok (.iload_n 3, 1) := by decide +kernel
theorem dX12_law_78 : decode cX12_law 78 = .ok (.idiv, 1) := by decide +kernel
theorem dX12_law_79 : decode cX12_law 79 = .ok (.bipush 8, 2) := by decide +kernel
theorem dX12_law_81 : decode cX12_law 81 = .ok (.if_icmp .lt 6, 3) := by decide +kernel
theorem dX12_law_84 : decode cX12_law 84 = .ok (.bipush (-101), 2) := by decide +kernel
theorem dX12_law_86 : decode cX12_law 86 = .ok (.ireturn, 1) := by decide +kernel
theorem dX12_law_87 : decode cX12_law 87 = .ok (.iload_n 2, 1) := by decide +kernel
theorem dX12_law_88 : decode cX12_law 88 = .ok (.iload_n 1, 1) := by decide +kernel
theorem dX12_law_89 : decode cX12_law 89 = .ok (.isub, 1) := by decide +kernel
theorem dX12_law_90 : decode cX12_law 90 = .ok (.iload_n 3, 1) := by decide +kernel
theorem dX12_law_91 : decode cX12_law 91 = .ok (.idiv, 1) := by decide +kernel
theorem dX12_law_92 : decode cX12_law 92 = .ok (.iconst 1, 1) := by decide +kernel
theorem dX12_law_93 : decode cX12_law 93 = .ok (.iadd, 1) := by decide +kernel
theorem dX12_law_94 : decode cX12_law 94 = .ok (.istore 5, 2) := by decide +kernel
theorem dX12_law_96 : decode cX12_law 96 = .ok (.aload_n 0, 1) := by decide +kernel
theorem dX12_law_97 : decode cX12_law 97 = .ok (.invokevirtual 107, 3) := by decide +kernel
theorem dX12_law_100 : decode cX12_law 100 = .ok (.iload 5, 2) := by decide +kernel
theorem dX12_law_102 : decode cX12_law 102 = .ok (.imul, 1) := by decide +kernel
theorem dX12_law_103 : decode cX12_law 103 = .ok (.sipush 600, 3) := by decide +kernel
theorem dX12_law_106 : decode cX12_law 106 = .ok (.if_icmp .le 6, 3) := by decide +kernel
theorem dX12_law_109 : decode cX12_law 109 = .ok (.bipush (-102), 2) := by decide +kernel
theorem dX12_law_111 : decode cX12_law 111 = .ok (.ireturn, 1) := by decide +kernel
theorem dX12_law_112 : decode cX12_law 112 = .ok (.aload_n 0, 1) := by decide +kernel
theorem dX12_law_113 : decode cX12_law 113 = .ok (.aload_n 0, 1) := by decide +kernel
theorem dX12_law_114 : decode cX12_law 114 = .ok (.getfield 99, 3) := by decide +kernel
theorem dX12_law_117 : decode cX12_law 117 = .ok (.invokevirtual 110, 3) := by decide +kernel
theorem dX12_law_120 : decode cX12_law 120 = .ok (.ifCond .eq 18, 3) := by decide +kernel
theorem dX12_law_123 : decode cX12_law 123 = .ok (.aload_n 0, 1) := by decide +kernel
theorem dX12_law_124 : decode cX12_law 124 = .ok (.getfield 33, 3) := by decide +kernel
theorem dX12_law_127 : decode cX12_law 127 = .ok (.aload_n 0, 1) := by decide +kernel
theorem dX12_law_128 : decode cX12_law 128 = .ok (.getfield 36, 3) := by decide +kernel
theorem dX12_law_131 : decode cX12_law 131 = .ok (.if_icmp .ne 7, 3) := by decide +kernel
theorem dX12_law_134 : decode cX12_law 134 = .ok (.iconst 1, 1) := by decide +kernel
theorem dX12_law_135 : decode cX12_law 135 = .ok (.goto 4, 3) := by decide +kernel
theorem dX12_law_138 : decode cX12_law 138 = .ok (.iconst 0, 1) := by decide +kernel
theorem dX12_law_139 : decode cX12_law 139 = .ok (.istore 6, 2) := by decide +kernel
theorem dX12_law_141 : decode cX12_law 141 = .ok (.iload 4, 2) := by decide +kernel
theorem dX12_law_143 : decode cX12_law 143 = .ok (.bipush 20, 2) := by decide +kernel
theorem dX12_law_145 : decode cX12_law 145 = .ok (.if_icmp .le 20, 3) := by decide +kernel
theorem dX12_law_148 : decode cX12_law 148 = .ok (.iload 6, 2) := by decide +kernel
theorem dX12_law_150 : decode cX12_law 150 = .ok (.ifCond .ne 12, 3) := by decide +kernel
theorem dX12_law_153 : decode cX12_law 153 = .ok (.aload_n 0, 1) := by decide +kernel
theorem dX12_law_154 : decode cX12_law 154 = .ok (.getfield 33, 3) := by decide +kernel
theorem dX12_law_157 : decode cX12_law 157 = .ok (.bipush 20, 2) := by decide +kernel
theorem dX12_law_159 : decode cX12_law 159 = .ok (.if_icmp .lt 6, 3) := by decide +kernel
theorem dX12_law_162 : decode cX12_law 162 = .ok (.bipush (-21), 2) := by decide +kernel
theorem dX12_law_164 : decode cX12_law 164 = .ok (.ireturn, 1) := by decide +kernel
theorem dX12_law_165 : decode cX12_law 165 = .ok (.iload 6, 2) := by decide +kernel
theorem dX12_law_167 : decode cX12_law 167 = .ok (.ifCond .ne 10, 3) := by decide +kernel
theorem dX12_law_170 : decode cX12_law 170 = .ok (.iconst (-1), 1) := by decide +kernel
theorem dX12_law_171 : decode cX12_law 171 = .ok (.aload_n 0, 1) := by decide +kernel
theorem dX12_law_172 : decode cX12_law 172 = .ok (.getfield 33, 3) := by decide +kernel
theorem dX12_law_175 : decode cX12_law 175 = .ok (.isub, 1) := by decide +kernel
theorem dX12_law_176 : decode cX12_law 176 = .ok (.ireturn, 1) := by decide +kernel
theorem dX12_law_177 : decode cX12_law 177 = .ok (.aload_n 0, 1) := by decide +kernel
theorem dX12_law_178 : decode cX12_law 178 = .ok (.getfield 114, 3) := by decide +kernel
theorem dX12_law_181 : decode cX12_law 181 = .ok (.aload_n 0, 1) := by decide +kernel
theorem dX12_law_182 : decode cX12_law 182 = .ok (.getfield 99, 3) := by decide +kernel
theorem dX12_law_185 : decode cX12_law 185 = .ok (.iload_n 1, 1) := by decide +kernel
theorem dX12_law_186 : decode cX12_law 186 = .ok (.iastore, 1) := by decide +kernel
theorem dX12_law_187 : decode cX12_law 187 = .ok (.aload_n 0, 1) := by decide +kernel
theorem dX12_law_188 : decode cX12_law 188 = .ok (.getfield 117, 3) := by decide +kernel
theorem dX12_law_191 : decode cX12_law 191 = .ok (.aload_n 0, 1) := by decide +kernel
theorem dX12_law_192 : decode cX12_law 192 = .ok (.getfield 99, 3) := by decide +kernel
theorem dX12_law_195 : decode cX12_law 195 = .ok (.iload_n 3, 1) := by decide +kernel
theorem dX12_law_196 : decode cX12_law 196 = .ok (.iastore, 1) := by decide +kernel
theorem dX12_law_197 : decode cX12_law 197 = .ok (.aload_n 0, 1) := by decide +kernel
theorem dX12_law_198 : decode cX12_law 198 = .ok (.getfield 102, 3) := by decide +kernel
theorem dX12_law_201 : decode cX12_law 201 = .ok (.aload_n 0, 1) := by decide +kernel
theorem dX12_law_202 : decode cX12_law 202 = .ok (.getfield 99, 3) := by decide +kernel
theorem dX12_law_205 : decode cX12_law 205 = .ok (.iload 5, 2) := by decide +kernel
theorem dX12_law_207 : decode cX12_law 207 = .ok (.iastore, 1) := by decide +kernel
theorem dX12_law_208 : decode cX12_law 208 = .ok (.aload_n 0, 1) := by decide +kernel
theorem dX12_law_209 : decode cX12_law 209 = .ok (.dup, 1) := by decide +kernel
theorem dX12_law_210 : decode cX12_law 210 = .ok (.getfield 99, 3) := by decide +kernel
theorem dX12_law_213 : decode cX12_law 213 = .ok (.iconst 1, 1) := by decide +kernel
theorem dX12_law_214 : decode cX12_law 214 = .ok (.iadd, 1) := by decide +kernel
theorem dX12_law_215 : decode cX12_law 215 = .ok (.putfield 99, 3) := by decide +kernel
theorem dX12_law_218 : decode cX12_law 218 = .ok (.aload_n 0, 1) := by decide +kernel
