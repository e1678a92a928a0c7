theorem dX12_stages_186 : decode cX12_stages 186 = .ok (.iinc 5 1, 3) := by decide +kernel
theorem dX12_stages_189 : decode cX12_stages 189 = .ok (.goto (-142), 3) := by decide +kernel
theorem dX12_stages_192 : decode cX12_stages 192 = .ok (.iload 4, 2) := by decide +kernel
theorem dX12_stages_194 : decode cX12_stages 194 = .ok (.aload_n 0, 1) := by decide +kernel
theorem dX12_stages_195 : decode cX12_stages 195 = .ok (.getfield 367, 3) := by decide +kernel
theorem dX12_stages_198 : decode cX12_stages 198 = .ok (.if_icmp .le 41, 3) := by decide +kernel
theorem dX12_stages_201 : decode cX12_stages 201 = .ok (.aload_n 0, 1) := by decide +kernel
theorem dX12_stages_202 : decode cX12_stages 202 = .ok (.iload 4, 2) := by decide +kernel
theorem dX12_stages_204 : decode cX12_stages 204 = .ok (.putfield 367, 3) := by decide +kernel
theorem dX12_stages_207 : decode cX12_stages 207 = .ok (.iconst 0, 1) := by decide +kernel
theorem dX12_stages_208 : decode cX12_stages 208 = .ok (.istore 5, 2) := by decide +kernel
theorem dX12_stages_210 : decode cX12_stages 210 = .ok (.iload 5, 2) := by decide +kernel
theorem dX12_stages_212 : decode cX12_stages 212 = .ok (.aload_n 0, 1) := by decide +kernel
theorem dX12_stages_213 : decode cX12_stages 213 = .ok (.getfield 346, 3) := by decide +kernel
theorem dX12_stages_216 : decode cX12_stages 216 = .ok (.if_icmp .ge 23, 3) := by decide +kernel
theorem dX12_stages_219 : decode cX12_stages 219 = .ok (.aload_n 0, 1) := by decide +kernel
theorem dX12_stages_220 : decode cX12_stages 220 = .ok (.getfield 370, 3) := by decide +kernel
theorem dX12_stages_223 : decode cX12_stages 223 = .ok (.iload 5, 2) := by decide +kernel
theorem dX12_stages_225 : decode cX12_stages 225 = .ok (.aload_n 0, 1) := by decide +kernel
theorem dX12_stages_226 : decode cX12_stages 226 = .ok (.getfield 352, 3) := by decide +kernel
theorem dX12_stages_229 : decode cX12_stages 229 = .ok (.iload 5, 2) := by decide +kernel
theorem dX12_stages_231 : decode cX12_stages 231 = .ok (.iaload, 1) := by decide +kernel
theorem dX12_stages_232 : decode cX12_stages 232 = .ok (.iastore, 1) := by decide +kernel
theorem dX12_stages_233 : decode cX12_stages 233 = .ok (.iinc 5 1, 3) := by decide +kernel
theorem dX12_stages_236 : decode cX12_stages 236 = .ok (.goto (-26), 3) := by decide +kernel
theorem dX12_stages_239 : decode cX12_stages 239 = .ok (.return_, 1) := by decide +kernel
theorem dX12_stage_0 : decode cX12_stage 0 = .ok (.aload_n 0, 1) := by decide +kernel
theorem dX12_stage_1 : decode cX12_stage 1 = .ok (.iconst 0, 1) := by decide +kernel
theorem dX12_stage_2 : decode cX12_stage 2 = .ok (.putfield 1, 3) := by decide +kernel
theorem dX12_stage_5 : decode cX12_stage 5 = .ok (.aload_n 0, 1) := by decide +kernel
theorem dX12_stage_6 : decode cX12_stage 6 = .ok (.iload_n 1, 1) := by decide +kernel
theorem dX12_stage_7 : decode cX12_stage 7 = .ok (.invokevirtual 194, 3) := by decide +kernel
theorem dX12_stage_10 : decode cX12_stage 10 = .ok (.ifCond .eq 29, 3) := by decide +kernel
theorem dX12_stage_13 : decode cX12_stage 13 = .ok (.iload_n 3, 1) := by decide +kernel
theorem dX12_stage_14 : decode cX12_stage 14 = .ok (.iload_n 2, 1) := by decide +kernel
theorem dX12_stage_15 : decode cX12_stage 15 = .ok (.invokestatic 197, 3) := by decide +kernel
theorem dX12_stage_18 : decode cX12_stage 18 = .ok (.ifCond .eq 21, 3) := by decide +kernel
theorem dX12_stage_21 : decode cX12_stage 21 = .ok (.iload 4, 2) := by decide +kernel
theorem dX12_stage_23 : decode cX12_stage 23 = .ok (.iload_n 2, 1) := by decide +kernel
theorem dX12_stage_24 : decode cX12_stage 24 = .ok (.invokestatic 197, 3) := by decide +kernel
theorem dX12_stage_27 : decode cX12_stage 27 = .ok (.ifCond .eq 12, 3) := by decide +kernel
theorem dX12_stage_30 : decode cX12_stage 30 = .ok (.iload 5, 2) := by decide +kernel
theorem dX12_stage_32 : decode cX12_stage 32 = .ok (.iload_n 2, 1) := by decide +kernel
theorem dX12_stage_33 : decode cX12_stage 33 = .ok (.invokestatic 197, 3) := by decide +kernel
theorem dX12_stage_36 : decode cX12_stage 36 = .ok (.ifCond .ne 5, 3) := by decide +kernel
theorem dX12_stage_39 : decode cX12_stage 39 = .ok (.iconst (-1), 1) := by decide +kernel
theorem dX12_stage_40 : decode cX12_stage 40 = .ok (.ireturn, 1) := by decide +kernel
theorem dX12_stage_41 : decode cX12_stage 41 = .ok (.aload_n 0, 1) := by decide +kernel
theorem dX12_stage_42 : decode cX12_stage 42 = .ok (.getfield 364, 3) := by decide +kernel
theorem dX12_stage_45 : decode cX12_stage 45 = .ok (.iconst 0, 1) := by decide +kernel
theorem dX12_stage_46 : decode cX12_stage 46 = .ok (.iload_n 3, 1) := by decide +kernel
theorem dX12_stage_47 : decode cX12_stage 47 = .ok (.iastore, 1) := by decide +kernel
theorem dX12_stage_48 : decode cX12_stage 48 = .ok (.aload_n 0, 1) := by decide +kernel
theorem dX12_stage_49 : decode cX12_stage 49 = .ok (.getfield 364, 3) := by decide +kernel
theorem dX12_stage_52 : decode cX12_stage 52 = .ok (.iconst 1, 1) := by decide +kernel
theorem dX12_stage_53 : decode cX12_stage 53 = .ok (.iload 4, 2) := by decide +kernel
theorem dX12_stage_55 : decode cX12_stage 55 = .ok (.iastore, 1) := by decide +kernel
theorem dX12_stage_56 : decode cX12_stage 56 = .ok (.aload_n 0, 1) := by decide +kernel
theorem dX12_stage_57 : decode cX12_stage 57 = .ok (.getfield 364, 3) := by decide +kernel
theorem dX12_stage_60 : decode cX12_stage 60 = .ok (.iconst 2, 1) := by decide +kernel
theorem dX12_stage_61 : decode cX12_stage 61 = .ok (.iload 5, 2) := by decide +kernel
theorem dX12_stage_63 : decode cX12_stage 63 = .ok (.iastore, 1) := by decide +kernel
theorem dX12_stage_64 : decode cX12_stage 64 = .ok (.aload_n 0, 1) := by decide +kernel
theorem dX12_stage_65 : decode cX12_stage 65 = .ok (.iconst 0, 1) := by decide +kernel
theorem dX12_stage_66 : decode cX12_stage 66 = .ok (.putfield 346, 3) := by decide +kernel
theorem dX12_stage_69 : decode cX12_stage 69 = .ok (.iconst 0, 1) := by decide +kernel
theorem dX12_stage_70 : decode cX12_stage 70 = .ok (.istore 6, 2) := by decide +kernel
theorem dX12_stage_72 : decode cX12_stage 72 = .ok (.iload 6, 2) := by decide +kernel
theorem dX12_stage_74 : decode cX12_stage 74 = .ok (.aload_n 0, 1) := by decide +kernel
theorem dX12_stage_75 : decode cX12_stage 75 = .ok (.getfield 75, 3) := by decide +kernel
theorem dX12_stage_78 : decode cX12_stage 78 = .ok (.if_icmp .ge 110, 3) := by decide +kernel
theorem dX12_stage_81 : decode cX12_stage 81 = .ok (.aload_n 0, 1) := by decide +kernel
theorem dX12_stage_82 : decode cX12_stage 82 = .ok (.getfield 346, 3) := by decide +kernel
theorem dX12_stage_85 : decode cX12_stage 85 = .ok (.bipush 7, 2) := by decide +kernel
theorem dX12_stage_87 : decode cX12_stage 87 = .ok (.if_icmp .ge 101, 3) := by decide +kernel
theorem dX12_stage_90 : decode cX12_stage 90 = .ok (.iconst 0, 1) := by decide +kernel
theorem dX12_stage_91 : decode cX12_stage 91 = .ok (.istore 7, 2) := by decide +kernel
theorem dX12_stage_93 : decode cX12_stage 93 = .ok (.iconst 0, 1) := by decide +kernel
theorem dX12_stage_94 : decode cX12_stage 94 = .ok (.istore 8, 2) := by decide +kernel
theorem dX12_stage_96 : decode cX12_stage 96 = .ok (.iload 8, 2) := by decide +kernel
theorem dX12_stage_98 : decode cX12_stage 98 = .ok (.aload_n 0, 1) := by decide +kernel
theorem dX12_stage_99 : decode cX12_stage 99 = .ok (.getfield 258, 3) := by decide +kernel
theorem dX12_stage_102 : decode cX12_stage 102 = .ok (.if_icmp .ge 54, 3) := by decide +kernel
theorem dX12_stage_105 : decode cX12_stage 105 = .ok (.iload 7, 2) := by decide +kernel
theorem dX12_stage_107 : decode cX12_stage 107 = .ok (.ifCond .ne 36, 3) := by decide +kernel
theorem dX12_stage_110 : decode cX12_stage 110 = .ok (.aload_n 0, 1) := by decide +kernel
theorem dX12_stage_111 : decode cX12_stage 111 = .ok (.iload 8, 2) := by decide +kernel
theorem dX12_stage_113 : decode cX12_stage 113 = .ok (.invokevirtual 361, 3) := by decide +kernel
theorem dX12_stage_116 : decode cX12_stage 116 = .ok (.ifCond .eq 31, 3) := by decide +kernel
theorem dX12_stage_119 : decode cX12_stage 119 = .ok (.aload_n 0, 1) := by decide +kernel
theorem dX12_stage_120 : decode cX12_stage 120 = .ok (.getfield 229, 3) := by decide +kernel
theorem dX12_stage_123 : decode cX12_stage 123 = .ok (.iload 8, 2) := by decide +kernel
theorem dX12_stage_125 : decode cX12_stage 125 = .ok (.iaload, 1) := by decide +kernel
theorem dX12_stage_126 : decode cX12_stage 126 = .ok (.iload 6, 2) := by decide +kernel
theorem dX12_stage_128 : decode cX12_stage 128 = .ok (.if_icmp .eq 15, 3) := by decide +kernel
theorem dX12_stage_131 : decode cX12_stage 131 = .ok (.aload_n 0, 1) := by decide +kernel
theorem dX12_stage_132 : decode cX12_stage 132 = .ok (.getfield 232, 3) := by decide +kernel
theorem dX12_stage_135 : decode cX12_stage 135 = .ok (.iload 8, 2) := by decide +kernel
theorem dX12_stage_137 : decode cX12_stage 137 = .ok (.iaload, 1) := by decide +kernel
theorem dX12_stage_138 : decode cX12_stage 138 = .ok (.iload 6, 2) := by decide +kernel
theorem dX12_stage_140 : decode cX12_stage 140 = .ok (.if_icmp .ne 7, 3) := by decide +kernel
theorem dX12_stage_143 : decode cX12_stage 143 = .ok (.iconst 1, 1) := by decide +kernel
theorem dX12_stage_144 : decode cX12_stage 144 = .ok (.goto 4, 3) := by decide +kernel
theorem dX12_stage_147 : decode cX12_stage 147 = .ok (.iconst 0, 1) := by decide +kernel
theorem dX12_stage_148 : decode cX12_stage 148 = .ok (.istore 7, 2) := by decide +kernel
theorem dX12_stage_150 : decode cX12_stage 150 = .ok (.iinc 8 1, 3) := by decide +kernel
theorem dX12_stage_153 : decode cX12_stage 153 = .ok (.goto (-57), 3) := by decide +kernel
theorem dX12_stage_156 : decode cX12_stage 156 = .ok (.iload 7, 2) := by decide +kernel
theorem dX12_stage_158 : decode cX12_stage 158 = .ok (.ifCond .eq 24, 3) := by decide +kernel
theorem dX12_stage_161 : decode cX12_stage 161 = .ok (.aload_n 0, 1) := by decide +kernel
theorem dX12_stage_162 : decode cX12_stage 162 = .ok (.getfield 349, 3) := by decide +kernel
theorem dX12_stage_165 : decode cX12_stage 165 = .ok (.aload_n 0, 1) := by decide +kernel
theorem dX12_stage_166 : decode cX12_stage 166 = .ok (.getfield 346, 3) := by decide +kernel
theorem dX12_stage_169 : decode cX12_stage 169 = .ok (.iload 6, 2) := by decide +kernel
theorem dX12_stage_171 : decode cX12_stage 171 = .ok (.iastore, 1) := by decide +kernel
theorem dX12_stage_172 : decode cX12_stage 172 = .ok (.aload_n 0, 1) := by decide +kernel
theorem dX12_stage_173 : decode cX12_stage 173 = .ok (.dup, 1) := by decide +kernel
theorem dX12_stage_174 : decode cX12_stage 174 = .ok (.getfield 346, 3) := by decide +kernel
theorem dX12_stage_177 : decode cX12_stage 177 = .ok (.iconst 1, 1) := by decide +kernel
theorem dX12_stage_178 : decode cX12_stage 178 = .ok (.iadd, 1) := by decide +kernel
theorem dX12_stage_179 : decode cX12_stage 179 = .ok (.putfield 346, 3) := by decide +kernel
theorem dX12_stage_182 : decode cX12_stage 182 = .ok (.iinc 6 1, 3) := by decide +kernel
theorem dX12_stage_185 : decode cX12_stage 185 = .ok (.goto (-113), 3) := by decide +kernel
theorem dX12_stage_188 : decode cX12_stage 188 = .ok (.aload_n 0, 1) := by decide +kernel
theorem dX12_stage_189 : decode cX12_stage 189 = .ok (.iconst (-1), 1) := by decide +kernel
theorem dX12_stage_190 : decode cX12_stage 190 = .ok (.putfield 367, 3) := by decide +kernel
theorem dX12_stage_193 : decode cX12_stage 193 = .ok (.aload_n 0, 1) := by decide +kernel
theorem dX12_stage_194 : decode cX12_stage 194 = .ok (.iconst 0, 1) := by decide +kernel
theorem dX12_stage_195 : decode cX12_stage 195 = .ok (.iload_n 1, 1) := by decide +kernel
theorem dX12_stage_196 : decode cX12_stage 196 = .ok (.iload_n 2, 1) := by decide +kernel
theorem dX12_stage_197 : decode cX12_stage 197 = .ok (.invokevirtual 355, 3) := by decide +kernel
theorem dX12_stage_200 : decode cX12_stage 200 = .ok (.aload_n 0, 1) := by decide +kernel
theorem dX12_stage_201 : decode cX12_stage 201 = .ok (.iconst 0, 1) := by decide +kernel
theorem dX12_stage_202 : decode cX12_stage 202 = .ok (.putfield 11, 3) := by decide +kernel
theorem dX12_stage_205 : decode cX12_stage 205 = .ok (.iconst 0, 1) := by decide +kernel
theorem dX12_stage_206 : decode cX12_stage 206 = .ok (.istore 6, 2) := by decide +kernel
theorem dX12_stage_208 : decode cX12_stage 208 = .ok (.iload 6, 2) := by decide +kernel
theorem dX12_stage_210 : decode cX12_stage 210 = .ok (.aload_n 0, 1) := by decide +kernel
theorem dX12_stage_211 : decode cX12_stage 211 = .ok (.getfield 346, 3) := by decide +kernel
theorem dX12_stage_214 : decode cX12_stage 214 = .ok (.if_icmp .ge 33, 3) := by decide +kernel
theorem dX12_stage_217 : decode cX12_stage 217 = .ok (.aload_n 0, 1) := by decide +kernel
theorem dX12_stage_218 : decode cX12_stage 218 = .ok (.aload_n 0, 1) := by decide +kernel
theorem dX12_stage_219 : decode cX12_stage 219 = .ok (.getfield 349, 3) := by decide +kernel
theorem dX12_stage_222 : decode cX12_stage 222 = .ok (.iload 6, 2) := by decide +kernel
theorem dX12_stage_224 : decode cX12_stage 224 = .ok (.iaload, 1) := by decide +kernel
theorem dX12_stage_225 : decode cX12_stage 225 = .ok (.i2l, 1) := by decide +kernel
theorem dX12_stage_226 : decode cX12_stage 226 = .ok (.invokevirtual 18, 3) := by decide +kernel
theorem dX12_stage_229 : decode cX12_stage 229 = .ok (.aload_n 0, 1) := by decide +kernel
theorem dX12_stage_230 : decode cX12_stage 230 = .ok (.aload_n 0, 1) := by decide +kernel
theorem dX12_stage_231 : decode cX12_stage 231 = .ok (.getfield 370, 3) := by decide +kernel
theorem dX12_stage_234 : decode cX12_stage 234 = .ok (.iload 6, 2) := by decide +kernel
theorem dX12_stage_236 : decode cX12_stage 236 = .ok (.iaload, 1) := by decide +kernel
theorem dX12_stage_237 : decode cX12_stage 237 = .ok (.i2l, 1) := by decide +kernel
theorem dX12_stage_238 : decode cX12_stage 238 = .ok (.invokevirtual 18, 3) := by decide +kernel
theorem dX12_stage_241 : decode cX12_stage 241 = .ok (.iinc 6 1, 3) := by decide +kernel
theorem dX12_stage_244 : decode cX12_stage 244 = .ok (.goto (-36), 3) := by decide +kernel
theorem dX12_stage_247 : decode cX12_stage 247 = .ok (.aload_n 0, 1) := by decide +kernel
theorem dX12_stage_248 : decode cX12_stage 248 = .ok (.getfield 367, 3) := by decide +kernel
theorem dX12_stage_251 : decode cX12_stage 251 = .ok (.ireturn, 1) := by decide +kernel
theorem dX12_might_0 : decode cX12_might 0 = .ok (.aload_n 0, 1) := by decide +kernel
theorem dX12_might_1 : decode cX12_might 1 = .ok (.iconst 0, 1) := by decide +kernel
theorem dX12_might_2 : decode cX12_might 2 = .ok (.putfield 1, 3) := by decide +kernel
theorem dX12_might_5 : decode cX12_might 5 = .ok (.aload_n 0, 1) := by decide +kernel
theorem dX12_might_6 : decode cX12_might 6 = .ok (.iload_n 1, 1) := by decide +kernel
theorem dX12_might_7 : decode cX12_might 7 = .ok (.iload_n 2, 1) := by decide +kernel
theorem dX12_might_8 : decode cX12_might 8 = .ok (.iload_n 3, 1) := by decide +kernel
theorem dX12_might_9 : decode cX12_might 9 = .ok (.iload 4, 2) := by decide +kernel
theorem dX12_might_11 : decode cX12_might 11 = .ok (.iload 5, 2) := by decide +kernel
theorem dX12_might_13 : decode cX12_might 13 = .ok (.iload 6, 2) := by decide +kernel
theorem dX12_might_15 : decode cX12_might 15 = .ok (.invokevirtual 254, 3) := by decide +kernel
theorem dX12_might_18 : decode cX12_might 18 = .ok (.ifCond .ne 5, 3) := by decide +kernel
theorem dX12_might_21 : decode cX12_might 21 = .ok (.iconst (-1), 1) := by decide +kernel
theorem dX12_might_22 : decode cX12_might 22 = .ok (.ireturn, 1) := by decide +kernel
theorem dX12_might_23 : decode cX12_might 23 = .ok (.aload_n 0, 1) := by decide +kernel
theorem dX12_might_24 : decode cX12_might 24 = .ok (.invokevirtual 282, 3) := by decide +kernel
theorem dX12_might_27 : decode cX12_might 27 = .ok (.aload_n 0, 1) := by decide +kernel
theorem dX12_might_28 : decode cX12_might 28 = .ok (.bipush 16, 2) := by decide +kernel
theorem dX12_might_30 : decode cX12_might 30 = .ok (.iload_n 1, 1) := by decide +kernel
theorem dX12_might_31 : decode cX12_might 31 = .ok (.iload_n 2, 1) := by decide +kernel
theorem dX12_might_32 : decode cX12_might 32 = .ok (.iload_n 3, 1) := by decide +kernel
theorem dX12_might_33 : decode cX12_might 33 = .ok (.iload 4, 2) := by decide +kernel
theorem dX12_might_35 : decode cX12_might 35 = .ok (.iload 5, 2) := by decide +kernel
theorem dX12_might_37 : decode cX12_might 37 = .ok (.iload 6, 2) := by decide +kernel
theorem dX12_might_39 : decode cX12_might 39 = .ok (.invokevirtual 261, 3) := by decide +kernel
theorem dX12_might_42 : decode cX12_might 42 = .ok (.aload_n 0, 1) := by decide +kernel
theorem dX12_might_43 : decode cX12_might 43 = .ok (.bipush 16, 2) := by decide +kernel
theorem dX12_might_45 : decode cX12_might 45 = .ok (.invokevirtual 334, 3) := by decide +kernel
theorem dX12_might_48 : decode cX12_might 48 = .ok (.istore 7, 2) := by decide +kernel
theorem dX12_might_50 : decode cX12_might 50 = .ok (.aload_n 0, 1) := by decide +kernel
theorem dX12_might_51 : decode cX12_might 51 = .ok (.iconst 0, 1) := by decide +kernel
theorem dX12_might_52 : decode cX12_might 52 = .ok (.putfield 11, 3) := by decide +kernel
theorem dX12_might_55 : decode cX12_might 55 = .ok (.aload_n 0, 1) := by decide +kernel
theorem dX12_might_56 : decode cX12_might 56 = .ok (.iload 7, 2) := by decide +kernel
theorem dX12_might_58 : decode cX12_might 58 = .ok (.i2l, 1) := by decide +kernel
theorem dX12_might_59 : decode cX12_might 59 = .ok (.invokevirtual 18, 3) := by decide +kernel
theorem dX12_might_62 : decode cX12_might 62 = .ok (.aload_n 0, 1) := by decide +kernel
theorem dX12_might_63 : decode cX12_might 63 = .ok (.aload_n 0, 1) := by decide +kernel
theorem dX12_might_64 : decode cX12_might 64 = .ok (.getfield 273, 3) := by decide +kernel
theorem dX12_might_67 : decode cX12_might 67 = .ok (.iload 7, 2) := by decide +kernel
theorem dX12_might_69 : decode cX12_might 69 = .ok (.isub, 1) := by decide +kernel
theorem dX12_might_70 : decode cX12_might 70 = .ok (.i2l, 1) := by decide +kernel
theorem dX12_might_71 : decode cX12_might 71 = .ok (.invokevirtual 18, 3) := by decide +kernel
theorem dX12_might_74 : decode cX12_might 74 = .ok (.aload_n 0, 1) := by decide +kernel
theorem dX12_might_75 : decode cX12_might 75 = .ok (.getfield 273, 3) := by decide +kernel
theorem dX12_might_78 : decode cX12_might 78 = .ok (.ireturn, 1) := by decide +kernel
theorem dX12_look_0 : decode cX12_look 0 = .ok (.aload_n 0, 1) := by decide +kernel
theorem dX12_look_1 : decode cX12_look 1 = .ok (.iconst 0, 1) := by decide +kernel
theorem dX12_look_2 : decode cX12_look 2 = .ok (.putfield 1, 3) := by decide +kernel
theorem dX12_look_5 : decode cX12_look 5 = .ok (.iload_n 1, 1) := by decide +kernel
theorem dX12_look_6 : decode cX12_look 6 = .ok (.iload_n 2, 1) := by decide +kernel
theorem dX12_look_7 : decode cX12_look 7 = .ok (.invokestatic 197, 3) := by decide +kernel
theorem dX12_look_10 : decode cX12_look 10 = .ok (.ifCond .eq 11, 3) := by decide +kernel
theorem dX12_look_13 : decode cX12_look 13 = .ok (.aload_n 0, 1) := by decide +kernel
theorem dX12_look_14 : decode cX12_look 14 = .ok (.getfield 75, 3) := by decide +kernel
theorem dX12_look_17 : decode cX12_look 17 = .ok (.iconst 2, 1) := by decide +kernel
theorem dX12_look_18 : decode cX12_look 18 = .ok (.if_icmp .ge 5, 3) := by decide +kernel
theorem dX12_look_21 : decode cX12_look 21 = .ok (.iconst (-1), 1) := by decide +kernel
theorem dX12_look_22 : decode cX12_look 22 = .ok (.ireturn, 1) := by decide +kernel
theorem dX12_look_23 : decode cX12_look 23 = .ok (.aload_n 0, 1) := by decide +kernel
theorem dX12_look_24 : decode cX12_look 24 = .ok (.invokevirtual 282, 3) := by decide +kernel
theorem dX12_look_27 : decode cX12_look 27 = .ok (.aload_n 0, 1) := by decide +kernel
theorem dX12_look_28 : decode cX12_look 28 = .ok (.getfield 273, 3) := by decide +kernel
theorem dX12_look_31 : decode cX12_look 31 = .ok (.ifCond .ne 6, 3) := by decide +kernel
theorem dX12_look_34 : decode cX12_look 34 = .ok (.bipush (-2), 2) := by decide +kernel
theorem dX12_look_36 : decode cX12_look 36 = .ok (.ireturn, 1) := by decide +kernel
theorem dX12_look_37 : decode cX12_look 37 = .ok (.iconst (-1), 1) := by decide +kernel
theorem dX12_look_38 : decode cX12_look 38 = .ok (.istore_n 3, 1) := by decide +kernel
theorem dX12_look_39 : decode cX12_look 39 = .ok (.iconst 0, 1) := by decide +kernel
theorem dX12_look_40 : decode cX12_look 40 = .ok (.istore 4, 2) := by decide +kernel
theorem dX12_look_42 : decode cX12_look 42 = .ok (.iconst 0, 1) := by decide +kernel
theorem dX12_look_43 : decode cX12_look 43 = .ok (.istore 5, 2) := by decide +kernel
theorem dX12_look_45 : decode cX12_look 45 = .ok (.iconst 0, 1) := by decide +kernel
theorem dX12_look_46 : decode cX12_look 46 = .ok (.istore 6, 2) := by decide +kernel
theorem dX12_look_48 : decode cX12_look 48 = .ok (.iload 6, 2) := by decide +kernel
theorem dX12_look_50 : decode cX12_look 50 = .ok (.aload_n 0, 1) := by decide +kernel
theorem dX12_look_51 : decode cX12_look 51 = .ok (.getfield 75, 3) := by decide +kernel
theorem dX12_look_54 : decode cX12_look 54 = .ok (.if_icmp .ge 93, 3) := by decide +kernel
theorem dX12_look_57 : decode cX12_look 57 = .ok (.iload 6, 2) := by decide +kernel
theorem dX12_look_59 : decode cX12_look 59 = .ok (.iconst 1, 1) := by decide +kernel
theorem dX12_look_60 : decode cX12_look 60 = .ok (.iadd, 1) := by decide +kernel
theorem dX12_look_61 : decode cX12_look 61 = .ok (.istore 7, 2) := by decide +kernel
theorem dX12_look_63 : decode cX12_look 63 = .ok (.iload 7, 2) := by decide +kernel
theorem dX12_look_65 : decode cX12_look 65 = .ok (.aload_n 0, 1) := by decide +kernel
theorem dX12_look_66 : decode cX12_look 66 = .ok (.getfield 75, 3) := by decide +kernel
theorem dX12_look_69 : decode cX12_look 69 = .ok (.if_icmp .ge 72, 3) := by decide +kernel
theorem dX12_look_72 : decode cX12_look 72 = .ok (.aload_n 0, 1) := by decide +kernel
theorem dX12_look_73 : decode cX12_look 73 = .ok (.bipush 16, 2) := by decide +kernel
theorem dX12_look_75 : decode cX12_look 75 = .ok (.iconst 0, 1) := by decide +kernel
theorem dX12_look_76 : decode cX12_look 76 = .ok (.iload 6, 2) := by decide +kernel
theorem dX12_look_78 : decode cX12_look 78 = .ok (.iload 7, 2) := by decide +kernel
theorem dX12_look_80 : decode cX12_look 80 = .ok (.iload_n 1, 1) := by decide +kernel
theorem dX12_look_81 : decode cX12_look 81 = .ok (.iload_n 2, 1) := by decide +kernel
theorem dX12_look_82 : decode cX12_look 82 = .ok (.iconst 0, 1) := by decide +kernel
theorem dX12_look_83 : decode cX12_look 83 = .ok (.invokevirtual 261, 3) := by decide +kernel
theorem dX12_look_86 : decode cX12_look 86 = .ok (.aload_n 0, 1) := by decide +kernel
theorem dX12_look_87 : decode cX12_look 87 = .ok (.bipush 16, 2) := by decide +kernel
theorem dX12_look_89 : decode cX12_look 89 = .ok (.invokevirtual 334, 3) := by decide +kernel
theorem dX12_look_92 : decode cX12_look 92 = .ok (.istore 8, 2) := by decide +kernel
theorem dX12_look_94 : decode cX12_look 94 = .ok (.iload_n 3, 1) := by decide +kernel
theorem dX12_look_95 : decode cX12_look 95 = .ok (.ifCond .lt 29, 3) := by decide +kernel
theorem dX12_look_98 : decode cX12_look 98 = .ok (.iconst 2, 1) := by decide +kernel
theorem dX12_look_99 : decode cX12_look 99 = .ok (.iload 8, 2) := by decide +kernel
theorem dX12_look_101 : decode cX12_look 101 = .ok (.imul, 1) := by decide +kernel
theorem dX12_look_102 : decode cX12_look 102 = .ok (.aload_n 0, 1) := by decide +kernel
theorem dX12_look_103 : decode cX12_look 103 = .ok (.getfield 273, 3) := by decide +kernel
theorem dX12_look_106 : decode cX12_look 106 = .ok (.isub, 1) := by decide +kernel
theorem dX12_look_107 : decode cX12_look 107 = .ok (.invokestatic 337, 3) := by decide +kernel
theorem dX12_look_110 : decode cX12_look 110 = .ok (.iconst 2, 1) := by decide +kernel
theorem dX12_look_111 : decode cX12_look 111 = .ok (.iload_n 3, 1) := by decide +kernel
theorem dX12_look_112 : decode cX12_look 112 = .ok (.imul, 1) := by decide +kernel
theorem dX12_look_113 : decode cX12_look 113 = .ok (.aload_n 0, 1) := by decide +kernel
theorem dX12_look_114 : decode cX12_look 114 = .ok (.getfield 273, 3) := by decide +kernel
theorem dX12_look_117 : decode cX12_look 117 = .ok (.isub, 1) := by decide +kernel
theorem dX12_look_118 : decode cX12_look 118 = .ok (.invokestatic 337, 3) := by decide +kernel
theorem dX12_look_121 : decode cX12_look 121 = .ok (.if_icmp .ge 14, 3) := by decide +kernel
theorem dX12_look_124 : decode cX12_look 124 = .ok (.iload 8, 2) := by decide +kernel
theorem dX12_look_126 : decode cX12_look 126 = .ok (.istore_n 3, 1) := by decide +kernel
theorem dX12_look_127 : decode cX12_look 127 = .ok (.iload 6, 2) := by decide +kernel
theorem dX12_look_129 : decode cX12_look 129 = .ok (.istore 4, 2) := by decide +kernel
theorem dX12_look_131 : decode cX12_look 131 = .ok (.iload 7, 2) := by decide +kernel
theorem dX12_look_133 : decode cX12_look 133 = .ok (.istore 5, 2) := by decide +kernel
theorem dX12_look_135 : decode cX12_look 135 = .ok (.iinc 7 1, 3) := by decide +kernel
theorem dX12_look_138 : decode cX12_look 138 = .ok (.goto (-75), 3) := by decide +kernel
theorem dX12_look_141 : decode cX12_look 141 = .ok (.iinc 6 1, 3) := by decide +kernel
theorem dX12_look_144 : decode cX12_look 144 = .ok (.goto (-96), 3) := by decide +kernel
theorem dX12_look_147 : decode cX12_look 147 = .ok (.aload_n 0, 1) := by decide +kernel
theorem dX12_look_148 : decode cX12_look 148 = .ok (.iconst 0, 1) := by decide +kernel
theorem dX12_look_149 : decode cX12_look 149 = .ok (.putfield 11, 3) := by decide +kernel
theorem dX12_look_152 : decode cX12_look 152 = .ok (.aload_n 0, 1) := by decide +kernel
theorem dX12_look_153 : decode cX12_look 153 = .ok (.iload 4, 2) := by decide +kernel
theorem dX12_look_155 : decode cX12_look 155 = .ok (.i2l, 1) := by decide +kernel
theorem dX12_look_156 : decode cX12_look 156 = .ok (.invokevirtual 18, 3) := by decide +kernel
theorem dX12_look_159 : decode cX12_look 159 = .ok (.aload_n 0, 1) := by decide +kernel
theorem dX12_look_160 : decode cX12_look 160 = .ok (.iload 5, 2) := by decide +kernel
theorem dX12_look_162 : decode cX12_look 162 = .ok (.i2l, 1) := by decide +kernel
theorem dX12_look_163 : decode cX12_look 163 = .ok (.invokevirtual 18, 3) := by decide +kernel
theorem dX12_look_166 : decode cX12_look 166 = .ok (.iload_n 3, 1) := by decide +kernel
theorem dX12_look_167 : decode cX12_look 167 = .ok (.ireturn, 1) := by decide +kernel
theorem dX12_isOneWay_0 : decode cX12_isOneWay 0 = .ok (.aload_n 0, 1) := by decide +kernel
theorem dX12_isOneWay_1 : decode cX12_isOneWay 1 = .ok (.iconst 0, 1) := by decide +kernel
theorem dX12_isOneWay_2 : decode cX12_isOneWay 2 = .ok (.iload_n 1, 1) := by decide +kernel
theorem dX12_isOneWay_3 : decode cX12_isOneWay 3 = .ok (.aload_n 0, 1) := by decide +kernel
theorem dX12_isOneWay_4 : decode cX12_isOneWay 4 = .ok (.getfield 279, 3) := by decide +kernel
theorem dX12_isOneWay_7 : decode cX12_isOneWay 7 = .ok (.iconst 0, 1) := by decide +kernel
theorem dX12_isOneWay_8 : decode cX12_isOneWay 8 = .ok (.iaload, 1) := by decide +kernel
theorem dX12_isOneWay_9 : decode cX12_isOneWay 9 = .ok (.iload_n 2, 1) := by decide +kernel
theorem dX12_isOneWay_10 : decode cX12_isOneWay 10 = .ok (.iload_n 3, 1) := by decide +kernel
theorem dX12_isOneWay_11 : decode cX12_isOneWay 11 = .ok (.invokevirtual 200, 3) := by decide +kernel
theorem dX12_isOneWay_14 : decode cX12_isOneWay 14 = .ok (.aload_n 0, 1) := by decide +kernel
theorem dX12_isOneWay_15 : decode cX12_isOneWay 15 = .ok (.iconst 0, 1) := by decide +kernel
theorem dX12_isOneWay_16 : decode cX12_isOneWay 16 = .ok (.invokevirtual 303, 3) := by decide +kernel
theorem dX12_isOneWay_19 : decode cX12_isOneWay 19 = .ok (.lstore 4, 2) := by decide +kernel
theorem dX12_isOneWay_21 : decode cX12_isOneWay 21 = .ok (.iconst 1, 1) := by decide +kernel
theorem dX12_isOneWay_22 : decode cX12_isOneWay 22 = .ok (.istore 6, 2) := by decide +kernel
theorem dX12_isOneWay_24 : decode cX12_isOneWay 24 = .ok (.iload 6, 2) := by decide +kernel
theorem dX12_isOneWay_26 : decode cX12_isOneWay 26 = .ok (.aload_n 0, 1) := by decide +kernel
theorem dX12_isOneWay_27 : decode cX12_isOneWay 27 = .ok (.getfield 273, 3) := by decide +kernel
theorem dX12_isOneWay_30 : decode cX12_isOneWay 30 = .ok (.if_icmp .ge 37, 3) := by decide +kernel
theorem dX12_isOneWay_33 : decode cX12_isOneWay 33 = .ok (.aload_n 0, 1) := by decide +kernel
theorem dX12_isOneWay_34 : decode cX12_isOneWay 34 = .ok (.iconst 0, 1) := by decide +kernel
theorem dX12_isOneWay_35 : decode cX12_isOneWay 35 = .ok (.iload_n 1, 1) := by decide +kernel
theorem dX12_isOneWay_36 : decode cX12_isOneWay 36 = .ok (.aload_n 0, 1) := by decide +kernel
theorem dX12_isOneWay_37 : decode cX12_isOneWay 37 = .ok (.getfield 279, 3) := by decide +kernel
theorem dX12_isOneWay_40 : decode cX12_isOneWay 40 = .ok (.iload 6, 2) := by decide +kernel
theorem dX12_isOneWay_42 : decode cX12_isOneWay 42 = .ok (.iaload, 1) := by decide +kernel
theorem dX12_isOneWay_43 : decode cX12_isOneWay 43 = .ok (.iload_n 2, 1) := by decide +kernel
theorem dX12_isOneWay_44 : decode cX12_isOneWay 44 = .ok (.iload_n 3, 1) := by decide +kernel
theorem dX12_isOneWay_45 : decode cX12_isOneWay 45 = .ok (.invokevirtual 200, 3) := by decide +kernel
theorem dX12_isOneWay_48 : decode cX12_isOneWay 48 = .ok (.aload_n 0, 1) := by decide +kernel
theorem dX12_isOneWay_49 : decode cX12_isOneWay 49 = .ok (.iconst 0, 1) := by decide +kernel
theorem dX12_isOneWay_50 : decode cX12_isOneWay 50 = .ok (.invokevirtual 303, 3) := by decide +kernel
theorem dX12_isOneWay_53 : decode cX12_isOneWay 53 = .ok (.lload 4, 2) := by decide +kernel
theorem dX12_isOneWay_55 : decode cX12_isOneWay 55 = .ok (.lcmp, 1) := by decide +kernel
theorem dX12_isOneWay_56 : decode cX12_isOneWay 56 = .ok (.ifCond .eq 5, 3) := by decide +kernel
theorem dX12_isOneWay_59 : decode cX12_isOneWay 59 = .ok (.iconst 0, 1) := by decide +kernel
theorem dX12_isOneWay_60 : decode cX12_isOneWay 60 = .ok (.ireturn, 1) := by decide +kernel
theorem dX12_isOneWay_61 : decode cX12_isOneWay 61 = .ok (.iinc 6 1, 3) := by decide +kernel
theorem dX12_isOneWay_64 : decode cX12_isOneWay 64 = .ok (.goto (-40), 3) := by decide +kernel
theorem dX12_isOneWay_67 : decode cX12_isOneWay 67 = .ok (.iconst 1, 1) := by decide +kernel
theorem dX12_isOneWay_68 : decode cX12_isOneWay 68 = .ok (.ireturn, 1) := by decide +kernel
theorem dX12_settled_0 : decode cX12_settled 0 = .ok (.aload_n 0, 1) := by decide +kernel
theorem dX12_settled_1 : decode cX12_settled 1 = .ok (.iconst 0, 1) := by decide +kernel
theorem dX12_settled_2 : decode cX12_settled 2 = .ok (.putfield 1, 3) := by decide +kernel
theorem dX12_settled_5 : decode cX12_settled 5 = .ok (.aload_n 0, 1) := by decide +kernel
theorem dX12_settled_6 : decode cX12_settled 6 = .ok (.iload_n 1, 1) := by decide +kernel
theorem dX12_settled_7 : decode cX12_settled 7 = .ok (.invokevirtual 191, 3) := by decide +kernel
theorem dX12_settled_10 : decode cX12_settled 10 = .ok (.ifCond .eq 11, 3) := by decide +kernel
theorem dX12_settled_13 : decode cX12_settled 13 = .ok (.iconst 0, 1) := by decide +kernel
theorem dX12_settled_14 : decode cX12_settled 14 = .ok (.iload_n 2, 1) := by decide +kernel
theorem dX12_settled_15 : decode cX12_settled 15 = .ok (.invokestatic 197, 3) := by decide +kernel
theorem dX12_settled_18 : decode cX12_settled 18 = .ok (.ifCond .ne 5, 3) := by decide +kernel
theorem dX12_settled_21 : decode cX12_settled 21 = .ok (.iconst (-1), 1) := by decide +kernel
theorem dX12_settled_22 : decode cX12_settled 22 = .ok (.ireturn, 1) := by decide +kernel
theorem dX12_settled_23 : decode cX12_settled 23 = .ok (.aload_n 0, 1) := by decide +kernel
theorem dX12_settled_24 : decode cX12_settled 24 = .ok (.invokevirtual 282, 3) := by decide +kernel
theorem dX12_settled_27 : decode cX12_settled 27 = .ok (.bipush (-2), 2) := by decide +kernel
theorem dX12_settled_29 : decode cX12_settled 29 = .ok (.istore_n 3, 1) := by decide +kernel
theorem dX12_settled_30 : decode cX12_settled 30 = .ok (.sipush 600, 3) := by decide +kernel
theorem dX12_settled_33 : decode cX12_settled 33 = .ok (.istore 4, 2) := by decide +kernel
theorem dX12_settled_35 : decode cX12_settled 35 = .ok (.iload 4, 2) := by decide +kernel
theorem dX12_settled_37 : decode cX12_settled 37 = .ok (.ifCond .lt 32, 3) := by decide +kernel
theorem dX12_settled_40 : decode cX12_settled 40 = .ok (.aload_n 0, 1) := by decide +kernel
theorem dX12_settled_41 : decode cX12_settled 41 = .ok (.getfield 273, 3) := by decide +kernel
theorem dX12_settled_44 : decode cX12_settled 44 = .ok (.ifCond .le 25, 3) := by decide +kernel
theorem dX12_settled_47 : decode cX12_settled 47 = .ok (.aload_n 0, 1) := by decide +kernel
theorem dX12_settled_48 : decode cX12_settled 48 = .ok (.iload_n 1, 1) := by decide +kernel
theorem dX12_settled_49 : decode cX12_settled 49 = .ok (.iload 4, 2) := by decide +kernel
theorem dX12_settled_51 : decode cX12_settled 51 = .ok (.iload_n 2, 1) := by decide +kernel
theorem dX12_settled_52 : decode cX12_settled 52 = .ok (.invokevirtual 373, 3) := by decide +kernel
theorem dX12_settled_55 : decode cX12_settled 55 = .ok (.ifCond .ne 5, 3) := by decide +kernel
theorem dX12_settled_58 : decode cX12_settled 58 = .ok (.iload_n 3, 1) := by decide +kernel
theorem dX12_settled_59 : decode cX12_settled 59 = .ok (.ireturn, 1) := by decide +kernel
theorem dX12_settled_60 : decode cX12_settled 60 = .ok (.iload 4, 2) := by decide +kernel
theorem dX12_settled_62 : decode cX12_settled 62 = .ok (.istore_n 3, 1) := by decide +kernel
theorem dX12_settled_63 : decode cX12_settled 63 = .ok (.iinc 4 (-10), 3) := by decide +kernel
theorem dX12_settled_66 : decode cX12_settled 66 = .ok (.goto (-31), 3) := by decide +kernel
theorem dX12_settled_69 : decode cX12_settled 69 = .ok (.iload_n 3, 1) := by decide +kernel
theorem dX12_settled_70 : decode cX12_settled 70 = .ok (.ireturn, 1) := by decide +kernel
theorem dX12_fell_0 : decode cX12_fell 0 = .ok (.aload_n 0, 1) := by decide +kernel
theorem dX12_fell_1 : decode cX12_fell 1 = .ok (.iconst 0, 1) := by decide +kernel
theorem dX12_fell_2 : decode cX12_fell 2 = .ok (.putfield 1, 3) := by decide +kernel
theorem dX12_fell_5 : decode cX12_fell 5 = .ok (.aload_n 0, 1) := by decide +kernel
theorem dX12_fell_6 : decode cX12_fell 6 = .ok (.iload_n 1, 1) := by decide +kernel
theorem dX12_fell_7 : decode cX12_fell 7 = .ok (.invokevirtual 194, 3) := by decide +kernel
theorem dX12_fell_10 : decode cX12_fell 10 = .ok (.ifCond .eq 11, 3) := by decide +kernel
theorem dX12_fell_13 : decode cX12_fell 13 = .ok (.iload_n 2, 1) := by decide +kernel
theorem dX12_fell_14 : decode cX12_fell 14 = .ok (.iload_n 3, 1) := by decide +kernel
theorem dX12_fell_15 : decode cX12_fell 15 = .ok (.invokestatic 197, 3) := by decide +kernel
theorem dX12_fell_18 : decode cX12_fell 18 = .ok (.ifCond .ne 5, 3) := by decide +kernel
theorem dX12_fell_21 : decode cX12_fell 21 = .ok (.iconst (-1), 1) := by decide +kernel
theorem dX12_fell_22 : decode cX12_fell 22 = .ok (.ireturn, 1) := by decide +kernel
theorem dX12_fell_23 : decode cX12_fell 23 = .ok (.iconst 0, 1) := by decide +kernel
theorem dX12_fell_24 : decode cX12_fell 24 = .ok (.istore 4, 2) := by decide +kernel
theorem dX12_fell_26 : decode cX12_fell 26 = .ok (.iconst 0, 1) := by decide +kernel
theorem dX12_fell_27 : decode cX12_fell 27 = .ok (.istore 5, 2) := by decide +kernel
theorem dX12_fell_29 : decode cX12_fell 29 = .ok (.iload 5, 2) := by decide +kernel
theorem dX12_fell_31 : decode cX12_fell 31 = .ok (.aload_n 0, 1) := by decide +kernel
theorem dX12_fell_32 : decode cX12_fell 32 = .ok (.getfield 75, 3) := by decide +kernel
theorem dX12_fell_35 : decode cX12_fell 35 = .ok (.if_icmp .ge 83, 3) := by decide +kernel
theorem dX12_fell_38 : decode cX12_fell 38 = .ok (.iconst 0, 1) := by decide +kernel
theorem dX12_fell_39 : decode cX12_fell 39 = .ok (.istore 6, 2) := by decide +kernel
theorem dX12_fell_41 : decode cX12_fell 41 = .ok (.iconst 0, 1) := by decide +kernel
theorem dX12_fell_42 : decode cX12_fell 42 = .ok (.istore 7, 2) := by decide +kernel
theorem dX12_fell_44 : decode cX12_fell 44 = .ok (.iload 7, 2) := by decide +kernel
theorem dX12_fell_46 : decode cX12_fell 46 = .ok (.aload_n 0, 1) := by decide +kernel
theorem dX12_fell_47 : decode cX12_fell 47 = .ok (.getfield 75, 3) := by decide +kernel
theorem dX12_fell_50 : decode cX12_fell 50 = .ok (.if_icmp .ge 40, 3) := by decide +kernel
theorem dX12_fell_53 : decode cX12_fell 53 = .ok (.aload_n 0, 1) := by decide +kernel
theorem dX12_fell_54 : decode cX12_fell 54 = .ok (.iload 5, 2) := by decide +kernel
theorem dX12_fell_56 : decode cX12_fell 56 = .ok (.iload 7, 2) := by decide +kernel
theorem dX12_fell_58 : decode cX12_fell 58 = .ok (.iload_n 1, 1) := by decide +kernel
theorem dX12_fell_59 : decode cX12_fell 59 = .ok (.iload_n 2, 1) := by decide +kernel
theorem dX12_fell_60 : decode cX12_fell 60 = .ok (.iload_n 3, 1) := by decide +kernel
theorem dX12_fell_61 : decode cX12_fell 61 = .ok (.invokevirtual 207, 3) := by decide +kernel
theorem dX12_fell_64 : decode cX12_fell 64 = .ok (.iload 6, 2) := by decide +kernel
theorem dX12_fell_66 : decode cX12_fell 66 = .ok (.aload_n 0, 1) := by decide +kernel
theorem dX12_fell_67 : decode cX12_fell 67 = .ok (.invokevirtual 204, 3) := by decide +kernel
theorem dX12_fell_70 : decode cX12_fell 70 = .ok (.ifCond .eq 10, 3) := by decide +kernel
theorem dX12_fell_73 : decode cX12_fell 73 = .ok (.iconst 1, 1) := by decide +kernel
theorem dX12_fell_74 : decode cX12_fell 74 = .ok (.iload 7, 2) := by decide +kernel
theorem dX12_fell_76 : decode cX12_fell 76 = .ok (.ishl, 1) := by decide +kernel
theorem dX12_fell_77 : decode cX12_fell 77 = .ok (.goto 4, 3) := by decide +kernel
theorem dX12_fell_80 : decode cX12_fell 80 = .ok (.iconst 0, 1) := by decide +kernel
theorem dX12_fell_81 : decode cX12_fell 81 = .ok (.ior, 1) := by decide +kernel
theorem dX12_fell_82 : decode cX12_fell 82 = .ok (.istore 6, 2) := by decide +kernel
theorem dX12_fell_84 : decode cX12_fell 84 = .ok (.iinc 7 1, 3) := by decide +kernel
theorem dX12_fell_87 : decode cX12_fell 87 = .ok (.goto (-43), 3) := by decide +kernel
theorem dX12_fell_90 : decode cX12_fell 90 = .ok (.iload 6, 2) := by decide +kernel
theorem dX12_fell_92 : decode cX12_fell 92 = .ok (.invokestatic 289, 3) := by decide +kernel
theorem dX12_fell_95 : decode cX12_fell 95 = .ok (.iload 4, 2) := by decide +kernel
theorem dX12_fell_97 : decode cX12_fell 97 = .ok (.invokestatic 289, 3) := by decide +kernel
theorem dX12_fell_100 : decode cX12_fell 100 = .ok (.if_icmp .le 8, 3) := by decide +kernel
theorem dX12_fell_103 : decode cX12_fell 103 = .ok (.iload 6, 2) := by decide +kernel
theorem dX12_fell_105 : decode cX12_fell 105 = .ok (.goto 5, 3) := by decide +kernel
theorem dX12_fell_108 : decode cX12_fell 108 = .ok (.iload 4, 2) := by decide +kernel
theorem dX12_fell_110 : decode cX12_fell 110 = .ok (.istore 4, 2) := by decide +kernel
theorem dX12_fell_112 : decode cX12_fell 112 = .ok (.iinc 5 1, 3) := by decide +kernel
theorem dX12_fell_115 : decode cX12_fell 115 = .ok (.goto (-86), 3) := by decide +kernel
theorem dX12_fell_118 : decode cX12_fell 118 = .ok (.aload_n 0, 1) := by decide +kernel
theorem dX12_fell_119 : decode cX12_fell 119 = .ok (.getfield 75, 3) := by decide +kernel
theorem dX12_fell_122 : decode cX12_fell 122 = .ok (.ifCond .le 15, 3) := by decide +kernel
theorem dX12_fell_125 : decode cX12_fell 125 = .ok (.aload_n 0, 1) := by decide +kernel
theorem dX12_fell_126 : decode cX12_fell 126 = .ok (.iconst 0, 1) := by decide +kernel
theorem dX12_fell_127 : decode cX12_fell 127 = .ok (.putfield 11, 3) := by decide +kernel
theorem dX12_fell_130 : decode cX12_fell 130 = .ok (.aload_n 0, 1) := by decide +kernel
theorem dX12_fell_131 : decode cX12_fell 131 = .ok (.iload 4, 2) := by decide +kernel
theorem dX12_fell_133 : decode cX12_fell 133 = .ok (.i2l, 1) := by decide +kernel
theorem dX12_fell_134 : decode cX12_fell 134 = .ok (.invokevirtual 18, 3) := by decide +kernel
theorem dX12_fell_137 : decode cX12_fell 137 = .ok (.iload 4, 2) := by decide +kernel
theorem dX12_fell_139 : decode cX12_fell 139 = .ok (.invokestatic 289, 3) := by decide +kernel
theorem dX12_fell_142 : decode cX12_fell 142 = .ok (.ireturn, 1) := by decide +kernel
theorem dX12_town_0 : decode cX12_town 0 = .ok (.aload_n 0, 1) := by decide +kernel
theorem dX12_town_1 : decode cX12_town 1 = .ok (.iconst 0, 1) := by decide +kernel
theorem dX12_town_2 : decode cX12_town 2 = .ok (.putfield 1, 3) := by decide +kernel
theorem dX12_town_5 : decode cX12_town 5 = .ok (.aload_n 0, 1) := by decide +kernel
theorem dX12_town_6 : decode cX12_town 6 = .ok (.iload_n 1, 1) := by decide +kernel
theorem dX12_town_7 : decode cX12_town 7 = .ok (.invokevirtual 191, 3) := by decide +kernel
theorem dX12_town_10 : decode cX12_town 10 = .ok (.ifCond .eq 20, 3) := by decide +kernel
theorem dX12_town_13 : decode cX12_town 13 = .ok (.aload_n 0, 1) := by decide +kernel
theorem dX12_town_14 : decode cX12_town 14 = .ok (.iload_n 2, 1) := by decide +kernel
theorem dX12_town_15 : decode cX12_town 15 = .ok (.invokevirtual 194, 3) := by decide +kernel
theorem dX12_town_18 : decode cX12_town 18 = .ok (.ifCond .eq 12, 3) := by decide +kernel
theorem dX12_town_21 : decode cX12_town 21 = .ok (.iload_n 3, 1) := by decide +kernel
theorem dX12_town_22 : decode cX12_town 22 = .ok (.iload 4, 2) := by decide +kernel
theorem dX12_town_24 : decode cX12_town 24 = .ok (.invokestatic 197, 3) := by decide +kernel
theorem dX12_town_27 : decode cX12_town 27 = .ok (.ifCond .ne 5, 3) := by decide +kernel
theorem dX12_town_30 : decode cX12_town 30 = .ok (.iconst (-1), 1) := by decide +kernel
theorem dX12_town_31 : decode cX12_town 31 = .ok (.ireturn, 1) := by decide +kernel
theorem dX12_town_32 : decode cX12_town 32 = .ok (.aload_n 0, 1) := by decide +kernel
theorem dX12_town_33 : decode cX12_town 33 = .ok (.iconst 0, 1) := by decide +kernel
theorem dX12_town_34 : decode cX12_town 34 = .ok (.iload_n 1, 1) := by decide +kernel
theorem dX12_town_35 : decode cX12_town 35 = .ok (.iload_n 2, 1) := by decide +kernel
theorem dX12_town_36 : decode cX12_town 36 = .ok (.iload_n 3, 1) := by decide +kernel
theorem dX12_town_37 : decode cX12_town 37 = .ok (.iload 4, 2) := by decide +kernel
theorem dX12_town_39 : decode cX12_town 39 = .ok (.invokevirtual 200, 3) := by decide +kernel
theorem dX12_town_42 : decode cX12_town 42 = .ok (.aload_n 0, 1) := by decide +kernel
theorem dX12_town_43 : decode cX12_town 43 = .ok (.iconst 0, 1) := by decide +kernel
theorem dX12_town_44 : decode cX12_town 44 = .ok (.invokevirtual 303, 3) := by decide +kernel
theorem dX12_town_47 : decode cX12_town 47 = .ok (.lstore 5, 2) := by decide +kernel
theorem dX12_town_49 : decode cX12_town 49 = .ok (.iconst (-1), 1) := by decide +kernel
theorem dX12_town_50 : decode cX12_town 50 = .ok (.istore 7, 2) := by decide +kernel
theorem dX12_town_52 : decode cX12_town 52 = .ok (.iconst 0, 1) := by decide +kernel
theorem dX12_town_53 : decode cX12_town 53 = .ok (.istore 8, 2) := by decide +kernel
theorem dX12_town_55 : decode cX12_town 55 = .ok (.iconst 0, 1) := by decide +kernel
theorem dX12_town_56 : decode cX12_town 56 = .ok (.istore 9, 2) := by decide +kernel
theorem dX12_town_58 : decode cX12_town 58 = .ok (.iload 9, 2) := by decide +kernel
theorem dX12_town_60 : decode cX12_town 60 = .ok (.bipush 6, 2) := by decide +kernel
theorem dX12_town_62 : decode cX12_town 62 = .ok (.if_icmp .ge 101, 3) := by decide +kernel
theorem dX12_town_65 : decode cX12_town 65 = .ok (.iconst 0, 1) := by decide +kernel
theorem dX12_town_66 : decode cX12_town 66 = .ok (.istore 10, 2) := by decide +kernel
theorem dX12_town_68 : decode cX12_town 68 = .ok (.iconst 0, 1) := by decide +kernel
theorem dX12_town_69 : decode cX12_town 69 = .ok (.istore 11, 2) := by decide +kernel
theorem dX12_town_71 : decode cX12_town 71 = .ok (.iload 10, 2) := by decide +kernel
theorem dX12_town_73 : decode cX12_town 73 = .ok (.sipush 600, 3) := by decide +kernel
theorem dX12_town_76 : decode cX12_town 76 = .ok (.if_icmp .gt 58, 3) := by decide +kernel
theorem dX12_town_79 : decode cX12_town 79 = .ok (.iload 11, 2) := by decide +kernel
theorem dX12_town_81 : decode cX12_town 81 = .ok (.ifCond .ne 53, 3) := by decide +kernel
theorem dX12_town_84 : decode cX12_town 84 = .ok (.aload_n 0, 1) := by decide +kernel
theorem dX12_town_85 : decode cX12_town 85 = .ok (.iconst 0, 1) := by decide +kernel
theorem dX12_town_86 : decode cX12_town 86 = .ok (.iload_n 1, 1) := by decide +kernel
theorem dX12_town_87 : decode cX12_town 87 = .ok (.iload_n 2, 1) := by decide +kernel
theorem dX12_town_88 : decode cX12_town 88 = .ok (.iload 10, 2) := by decide +kernel
theorem dX12_town_90 : decode cX12_town 90 = .ok (.iload 9, 2) := by decide +kernel
theorem dX12_town_92 : decode cX12_town 92 = .ok (.invokevirtual 200, 3) := by decide +kernel
theorem dX12_town_95 : decode cX12_town 95 = .ok (.aload_n 0, 1) := by decide +kernel
theorem dX12_town_96 : decode cX12_town 96 = .ok (.iconst 0, 1) := by decide +kernel
theorem dX12_town_97 : decode cX12_town 97 = .ok (.invokevirtual 303, 3) := by decide +kernel
theorem dX12_town_100 : decode cX12_town 100 = .ok (.lload 5, 2) := by decide +kernel
theorem dX12_town_102 : decode cX12_town 102 = .ok (.lcmp, 1) := by decide +kernel
theorem dX12_town_103 : decode cX12_town 103 = .ok (.ifCond .ne 7, 3) := by decide +kernel
theorem dX12_town_106 : decode cX12_town 106 = .ok (.iconst 1, 1) := by decide +kernel
theorem dX12_town_107 : decode cX12_town 107 = .ok (.goto 4, 3) := by decide +kernel
theorem dX12_town_110 : decode cX12_town 110 = .ok (.iconst 0, 1) := by decide +kernel
theorem dX12_town_111 : decode cX12_town 111 = .ok (.istore 11, 2) := by decide +kernel
theorem dX12_town_113 : decode cX12_town 113 = .ok (.iload 10, 2) := by decide +kernel
theorem dX12_town_115 : decode cX12_town 115 = .ok (.iload 11, 2) := by decide +kernel
theorem dX12_town_117 : decode cX12_town 117 = .ok (.ifCond .ne 7, 3) := by decide +kernel
theorem dX12_town_120 : decode cX12_town 120 = .ok (.iconst 1, 1) := by decide +kernel
theorem dX12_town_121 : decode cX12_town 121 = .ok (.goto 4, 3) := by decide +kernel
theorem dX12_town_124 : decode cX12_town 124 = .ok (.iconst 0, 1) := by decide +kernel
theorem dX12_town_125 : decode cX12_town 125 = .ok (.invokestatic 39, 3) := by decide +kernel
theorem dX12_town_128 : decode cX12_town 128 = .ok (.iadd, 1) := by decide +kernel
theorem dX12_town_129 : decode cX12_town 129 = .ok (.istore 10, 2) := by decide +kernel
theorem dX12_town_131 : decode cX12_town 131 = .ok (.goto (-60), 3) := by decide +kernel
theorem dX12_town_134 : decode cX12_town 134 = .ok (.iload 11, 2) := by decide +kernel
theorem dX12_town_136 : decode cX12_town 136 = .ok (.ifCond .ne 6, 3) := by decide +kernel
theorem dX12_town_139 : decode cX12_town 139 = .ok (.bipush (-2), 2) := by decide +kernel
theorem dX12_town_141 : decode cX12_town 141 = .ok (.ireturn, 1) := by decide +kernel
theorem dX12_town_142 : decode cX12_town 142 = .ok (.iload 10, 2) := by decide +kernel
theorem dX12_town_144 : decode cX12_town 144 = .ok (.iload 7, 2) := by decide +kernel
theorem dX12_town_146 : decode cX12_town 146 = .ok (.if_icmp .le 11, 3) := by decide +kernel
theorem dX12_town_149 : decode cX12_town 149 = .ok (.iload 10, 2) := by decide +kernel
theorem dX12_town_151 : decode cX12_town 151 = .ok (.istore 7, 2) := by decide +kernel
theorem dX12_town_153 : decode cX12_town 153 = .ok (.iload 9, 2) := by decide +kernel
theorem dX12_town_155 : decode cX12_town 155 = .ok (.istore 8, 2) := by decide +kernel
theorem dX12_town_157 : decode cX12_town 157 = .ok (.iinc 9 1, 3) := by decide +kernel
theorem dX12_town_160 : decode cX12_town 160 = .ok (.goto (-102), 3) := by decide +kernel
theorem dX12_town_163 : decode cX12_town 163 = .ok (.aload_n 0, 1) := by decide +kernel
theorem dX12_town_164 : decode cX12_town 164 = .ok (.iconst 0, 1) := by decide +kernel
theorem dX12_town_165 : decode cX12_town 165 = .ok (.putfield 11, 3) := by decide +kernel
theorem dX12_town_168 : decode cX12_town 168 = .ok (.aload_n 0, 1) := by decide +kernel
theorem dX12_town_169 : decode cX12_town 169 = .ok (.iload 8, 2) := by decide +kernel
theorem dX12_town_171 : decode cX12_town 171 = .ok (.i2l, 1) := by decide +kernel
theorem dX12_town_172 : decode cX12_town 172 = .ok (.invokevirtual 18, 3) := by decide +kernel
theorem dX12_town_175 : decode cX12_town 175 = .ok (.iload 7, 2) := by decide +kernel
theorem dX12_town_177 : decode cX12_town 177 = .ok (.ireturn, 1) := by decide +kernel
theorem dX12_hasCome_0 : decode cX12_hasCome 0 = .ok (.aload_n 0, 1) := by decide +kernel
theorem dX12_hasCome_1 : decode cX12_hasCome 1 = .ok (.iload_n 1, 1) := by decide +kernel
theorem dX12_hasCome_2 : decode cX12_hasCome 2 = .ok (.iload_n 2, 1) := by decide +kernel
theorem dX12_hasCome_3 : decode cX12_hasCome 3 = .ok (.invokevirtual 140, 3) := by decide +kernel
theorem dX12_hasCome_6 : decode cX12_hasCome 6 = .ok (.aload_n 0, 1) := by decide +kernel
theorem dX12_hasCome_7 : decode cX12_hasCome 7 = .ok (.getfield 122, 3) := by decide +kernel
theorem dX12_hasCome_10 : decode cX12_hasCome 10 = .ok (.iload 4, 2) := by decide +kernel
theorem dX12_hasCome_12 : decode cX12_hasCome 12 = .ok (.iaload, 1) := by decide +kernel
theorem dX12_hasCome_13 : decode cX12_hasCome 13 = .ok (.iadd, 1) := by decide +kernel
theorem dX12_hasCome_14 : decode cX12_hasCome 14 = .ok (.iload_n 3, 1) := by decide +kernel
theorem dX12_hasCome_15 : decode cX12_hasCome 15 = .ok (.if_icmp .gt 7, 3) := by decide +kernel
theorem dX12_hasCome_18 : decode cX12_hasCome 18 = .ok (.iconst 1, 1) := by decide +kernel
theorem dX12_hasCome_19 : decode cX12_hasCome 19 = .ok (.goto 4, 3) := by decide +kernel
theorem dX12_hasCome_22 : decode cX12_hasCome 22 = .ok (.iconst 0, 1) := by decide +kernel
theorem dX12_hasCome_23 : decode cX12_hasCome 23 = .ok (.ireturn, 1) := by decide +kernel
theorem dX12_swap_0 : decode cX12_swap 0 = .ok (.aload_n 0, 1) := by decide +kernel
theorem dX12_swap_1 : decode cX12_swap 1 = .ok (.iconst 0, 1) := by decide +kernel
theorem dX12_swap_2 : decode cX12_swap 2 = .ok (.putfield 1, 3) := by decide +kernel
theorem dX12_swap_5 : decode cX12_swap 5 = .ok (.aload_n 0, 1) := by decide +kernel
theorem dX12_swap_6 : decode cX12_swap 6 = .ok (.iload_n 1, 1) := by decide +kernel
theorem dX12_swap_7 : decode cX12_swap 7 = .ok (.invokevirtual 217, 3) := by decide +kernel
theorem dX12_swap_10 : decode cX12_swap 10 = .ok (.ifCond .eq 34, 3) := by decide +kernel
theorem dX12_swap_13 : decode cX12_swap 13 = .ok (.aload_n 0, 1) := by decide +kernel
theorem dX12_swap_14 : decode cX12_swap 14 = .ok (.iload_n 2, 1) := by decide +kernel
theorem dX12_swap_15 : decode cX12_swap 15 = .ok (.invokevirtual 217, 3) := by decide +kernel
theorem dX12_swap_18 : decode cX12_swap 18 = .ok (.ifCond .eq 26, 3) := by decide +kernel
theorem dX12_swap_21 : decode cX12_swap 21 = .ok (.iload_n 1, 1) := by decide +kernel
theorem dX12_swap_22 : decode cX12_swap 22 = .ok (.iload_n 2, 1) := by decide +kernel
theorem dX12_swap_23 : decode cX12_swap 23 = .ok (.if_icmp .eq 21, 3) := by decide +kernel
theorem dX12_swap_26 : decode cX12_swap 26 = .ok (.aload_n 0, 1) := by decide +kernel
theorem dX12_swap_27 : decode cX12_swap 27 = .ok (.iload_n 3, 1) := by decide +kernel
theorem dX12_swap_28 : decode cX12_swap 28 = .ok (.invokevirtual 194, 3) := by decide +kernel
theorem dX12_swap_31 : decode cX12_swap 31 = .ok (.ifCond .eq 13, 3) := by decide +kernel
theorem dX12_swap_34 : decode cX12_swap 34 = .ok (.iload 4, 2) := by decide +kernel
theorem dX12_swap_36 : decode cX12_swap 36 = .ok (.iload 5, 2) := by decide +kernel
theorem dX12_swap_38 : decode cX12_swap 38 = .ok (.invokestatic 197, 3) := by decide +kernel
theorem dX12_swap_41 : decode cX12_swap 41 = .ok (.ifCond .ne 5, 3) := by decide +kernel
theorem dX12_swap_44 : decode cX12_swap 44 = .ok (.iconst (-1), 1) := by decide +kernel
theorem dX12_swap_45 : decode cX12_swap 45 = .ok (.ireturn, 1) := by decide +kernel
theorem dX12_swap_46 : decode cX12_swap 46 = .ok (.aload_n 0, 1) := by decide +kernel
theorem dX12_swap_47 : decode cX12_swap 47 = .ok (.iload_n 1, 1) := by decide +kernel
theorem dX12_swap_48 : decode cX12_swap 48 = .ok (.iload_n 3, 1) := by decide +kernel
theorem dX12_swap_49 : decode cX12_swap 49 = .ok (.iload 4, 2) := by decide +kernel
theorem dX12_swap_51 : decode cX12_swap 51 = .ok (.iload 5, 2) := by decide +kernel
theorem dX12_swap_53 : decode cX12_swap 53 = .ok (.invokevirtual 377, 3) := by decide +kernel
theorem dX12_swap_56 : decode cX12_swap 56 = .ok (.ifCond .eq 16, 3) := by decide +kernel
theorem dX12_swap_59 : decode cX12_swap 59 = .ok (.aload_n 0, 1) := by decide +kernel
theorem dX12_swap_60 : decode cX12_swap 60 = .ok (.iload_n 2, 1) := by decide +kernel
theorem dX12_swap_61 : decode cX12_swap 61 = .ok (.iload_n 3, 1) := by decide +kernel
theorem dX12_swap_62 : decode cX12_swap 62 = .ok (.iload 4, 2) := by decide +kernel
theorem dX12_swap_64 : decode cX12_swap 64 = .ok (.iload 5, 2) := by decide +kernel
theorem dX12_swap_66 : decode cX12_swap 66 = .ok (.invokevirtual 377, 3) := by decide +kernel
theorem dX12_swap_69 : decode cX12_swap 69 = .ok (.ifCond .ne 5, 3) := by decide +kernel
theorem dX12_swap_72 : decode cX12_swap 72 = .ok (.iconst (-1), 1) := by decide +kernel
theorem dX12_swap_73 : decode cX12_swap 73 = .ok (.ireturn, 1) := by decide +kernel
theorem dX12_swap_74 : decode cX12_swap 74 = .ok (.iconst 0, 1) := by decide +kernel
theorem dX12_swap_75 : decode cX12_swap 75 = .ok (.istore 6, 2) := by decide +kernel
theorem dX12_swap_77 : decode cX12_swap 77 = .ok (.iconst 0, 1) := by decide +kernel
theorem dX12_swap_78 : decode cX12_swap 78 = .ok (.istore 7, 2) := by decide +kernel
theorem dX12_swap_80 : decode cX12_swap 80 = .ok (.iload 7, 2) := by decide +kernel
theorem dX12_swap_82 : decode cX12_swap 82 = .ok (.aload_n 0, 1) := by decide +kernel
theorem dX12_swap_83 : decode cX12_swap 83 = .ok (.getfield 75, 3) := by decide +kernel
theorem dX12_swap_86 : decode cX12_swap 86 = .ok (.if_icmp .ge 73, 3) := by decide +kernel
theorem dX12_swap_89 : decode cX12_swap 89 = .ok (.aload_n 0, 1) := by decide +kernel
theorem dX12_swap_90 : decode cX12_swap 90 = .ok (.iconst 0, 1) := by decide +kernel
theorem dX12_swap_91 : decode cX12_swap 91 = .ok (.iload 7, 2) := by decide +kernel
theorem dX12_swap_93 : decode cX12_swap 93 = .ok (.iload_n 3, 1) := by decide +kernel
theorem dX12_swap_94 : decode cX12_swap 94 = .ok (.iload 4, 2) := by decide +kernel
theorem dX12_swap_96 : decode cX12_swap 96 = .ok (.iload 5, 2) := by decide +kernel
theorem dX12_swap_98 : decode cX12_swap 98 = .ok (.invokevirtual 200, 3) := by decide +kernel
theorem dX12_swap_101 : decode cX12_swap 101 = .ok (.aload_n 0, 1) := by decide +kernel
theorem dX12_swap_102 : decode cX12_swap 102 = .ok (.iload_n 1, 1) := by decide +kernel
theorem dX12_swap_103 : decode cX12_swap 103 = .ok (.putfield 146, 3) := by decide +kernel
theorem dX12_swap_106 : decode cX12_swap 106 = .ok (.aload_n 0, 1) := by decide +kernel
theorem dX12_swap_107 : decode cX12_swap 107 = .ok (.iload_n 2, 1) := by decide +kernel
theorem dX12_swap_108 : decode cX12_swap 108 = .ok (.putfield 149, 3) := by decide +kernel
theorem dX12_swap_111 : decode cX12_swap 111 = .ok (.aload_n 0, 1) := by decide +kernel
theorem dX12_swap_112 : decode cX12_swap 112 = .ok (.iconst 1, 1) := by decide +kernel
theorem dX12_swap_113 : decode cX12_swap 113 = .ok (.iload 7, 2) := by decide +kernel
theorem dX12_swap_115 : decode cX12_swap 115 = .ok (.iload_n 3, 1) := by decide +kernel
theorem dX12_swap_116 : decode cX12_swap 116 = .ok (.iload 4, 2) := by decide +kernel
theorem dX12_swap_118 : decode cX12_swap 118 = .ok (.iload 5, 2) := by decide +kernel
theorem dX12_swap_120 : decode cX12_swap 120 = .ok (.invokevirtual 200, 3) := by decide +kernel
theorem dX12_swap_123 : decode cX12_swap 123 = .ok (.aload_n 0, 1) := by decide +kernel
theorem dX12_swap_124 : decode cX12_swap 124 = .ok (.iconst (-1), 1) := by decide +kernel
theorem dX12_swap_125 : decode cX12_swap 125 = .ok (.putfield 146, 3) := by decide +kernel
theorem dX12_swap_128 : decode cX12_swap 128 = .ok (.aload_n 0, 1) := by decide +kernel
theorem dX12_swap_129 : decode cX12_swap 129 = .ok (.iconst (-1), 1) := by decide +kernel
theorem dX12_swap_130 : decode cX12_swap 130 = .ok (.putfield 149, 3) := by decide +kernel
theorem dX12_swap_133 : decode cX12_swap 133 = .ok (.iload 6, 2) := by decide +kernel
theorem dX12_swap_135 : decode cX12_swap 135 = .ok (.aload_n 0, 1) := by decide +kernel
theorem dX12_swap_136 : decode cX12_swap 136 = .ok (.invokevirtual 204, 3) := by decide +kernel
theorem dX12_swap_139 : decode cX12_swap 139 = .ok (.ifCond .eq 7, 3) := by decide +kernel
theorem dX12_swap_142 : decode cX12_swap 142 = .ok (.iconst 0, 1) := by decide +kernel
theorem dX12_swap_143 : decode cX12_swap 143 = .ok (.goto 7, 3) := by decide +kernel
theorem dX12_swap_146 : decode cX12_swap 146 = .ok (.iconst 1, 1) := by decide +kernel
theorem dX12_swap_147 : decode cX12_swap 147 = .ok (.iload 7, 2) := by decide +kernel
theorem dX12_swap_149 : decode cX12_swap 149 = .ok (.ishl, 1) := by decide +kernel
theorem dX12_swap_150 : decode cX12_swap 150 = .ok (.ior, 1) := by decide +kernel
theorem dX12_swap_151 : decode cX12_swap 151 = .ok (.istore 6, 2) := by decide +kernel
theorem dX12_swap_153 : decode cX12_swap 153 = .ok (.iinc 7 1, 3) := by decide +kernel
theorem dX12_swap_156 : decode cX12_swap 156 = .ok (.goto (-76), 3) := by decide +kernel
theorem dX12_swap_159 : decode cX12_swap 159 = .ok (.iload 6, 2) := by decide +kernel
theorem dX12_swap_161 : decode cX12_swap 161 = .ok (.ireturn, 1) := by decide +kernel
theorem dX12_keep_0 : decode cX12_keep 0 = .ok (.aload_n 0, 1) := by decide +kernel
theorem dX12_keep_1 : decode cX12_keep 1 = .ok (.iconst 0, 1) := by decide +kernel
theorem dX12_keep_2 : decode cX12_keep 2 = .ok (.putfield 1, 3) := by decide +kernel
theorem dX12_keep_5 : decode cX12_keep 5 = .ok (.iload_n 1, 1) := by decide +kernel
theorem dX12_keep_6 : decode cX12_keep 6 = .ok (.i2l, 1) := by decide +kernel
theorem dX12_keep_7 : decode cX12_keep 7 = .ok (.lconst 0, 1) := by decide +kernel
theorem dX12_keep_8 : decode cX12_keep 8 = .ok (.ldc2_w 381, 3) := by decide +kernel
theorem dX12_keep_11 : decode cX12_keep 11 = .ok (.invokestatic 29, 3) := by decide +kernel
theorem dX12_keep_14 : decode cX12_keep 14 = .ok (.ifCond .ne 5, 3) := by decide +kernel
theorem dX12_keep_17 : decode cX12_keep 17 = .ok (.iconst 0, 1) := by decide +kernel
theorem dX12_keep_18 : decode cX12_keep 18 = .ok (.ireturn, 1) := by decide +kernel
theorem dX12_keep_19 : decode cX12_keep 19 = .ok (.aload_n 0, 1) := by decide +kernel
theorem dX12_keep_20 : decode cX12_keep 20 = .ok (.getfield 383, 3) := by decide +kernel
theorem dX12_keep_23 : decode cX12_keep 23 = .ok (.iload_n 1, 1) := by decide +kernel
theorem dX12_keep_24 : decode cX12_keep 24 = .ok (.iconst 1, 1) := by decide +kernel
theorem dX12_keep_25 : decode cX12_keep 25 = .ok (.bastore, 1) := by decide +kernel
theorem dX12_keep_26 : decode cX12_keep 26 = .ok (.aload_n 0, 1) := by decide +kernel
theorem dX12_keep_27 : decode cX12_keep 27 = .ok (.getfield 386, 3) := by decide +kernel
theorem dX12_keep_30 : decode cX12_keep 30 = .ok (.iload_n 1, 1) := by decide +kernel
theorem dX12_keep_31 : decode cX12_keep 31 = .ok (.aload_n 0, 1) := by decide +kernel
theorem dX12_keep_32 : decode cX12_keep 32 = .ok (.getfield 258, 3) := by decide +kernel
theorem dX12_keep_35 : decode cX12_keep 35 = .ok (.iastore, 1) := by decide +kernel
theorem dX12_keep_36 : decode cX12_keep 36 = .ok (.iconst 0, 1) := by decide +kernel
theorem dX12_keep_37 : decode cX12_keep 37 = .ok (.istore_n 2, 1) := by decide +kernel
theorem dX12_keep_38 : decode cX12_keep 38 = .ok (.iload_n 2, 1) := by decide +kernel
theorem dX12_keep_39 : decode cX12_keep 39 = .ok (.bipush 16, 2) := by decide +kernel
theorem dX12_keep_41 : decode cX12_keep 41 = .ok (.if_icmp .ge 60, 3) := by decide +kernel
theorem dX12_keep_44 : decode cX12_keep 44 = .ok (.aload_n 0, 1) := by decide +kernel
theorem dX12_keep_45 : decode cX12_keep 45 = .ok (.getfield 389, 3) := by decide +kernel
theorem dX12_keep_48 : decode cX12_keep 48 = .ok (.bipush 16, 2) := by decide +kernel
theorem dX12_keep_50 : decode cX12_keep 50 = .ok (.iload_n 1, 1) := by decide +kernel
theorem dX12_keep_51 : decode cX12_keep 51 = .ok (.imul, 1) := by decide +kernel
theorem dX12_keep_52 : decode cX12_keep 52 = .ok (.iload_n 2, 1) := by decide +kernel
theorem dX12_keep_53 : decode cX12_keep 53 = .ok (.iadd, 1) := by decide +kernel
theorem dX12_keep_54 : decode cX12_keep 54 = .ok (.aload_n 0, 1) := by decide +kernel
theorem dX12_keep_55 : decode cX12_keep 55 = .ok (.getfield 250, 3) := by decide +kernel
theorem dX12_keep_58 : decode cX12_keep 58 = .ok (.iload_n 2, 1) := by decide +kernel
theorem dX12_keep_59 : decode cX12_keep 59 = .ok (.baload, 1) := by decide +kernel
theorem dX12_keep_60 : decode cX12_keep 60 = .ok (.bastore, 1) := by decide +kernel
theorem dX12_keep_61 : decode cX12_keep 61 = .ok (.aload_n 0, 1) := by decide +kernel
theorem dX12_keep_62 : decode cX12_keep 62 = .ok (.getfield 392, 3) := by decide +kernel
theorem dX12_keep_65 : decode cX12_keep 65 = .ok (.bipush 16, 2) := by decide +kernel
theorem dX12_keep_67 : decode cX12_keep 67 = .ok (.iload_n 1, 1) := by decide +kernel
theorem dX12_keep_68 : decode cX12_keep 68 = .ok (.imul, 1) := by decide +kernel
theorem dX12_keep_69 : decode cX12_keep 69 = .ok (.iload_n 2, 1) := by decide +kernel
theorem dX12_keep_70 : decode cX12_keep 70 = .ok (.iadd, 1) := by decide +kernel
theorem dX12_keep_71 : decode cX12_keep 71 = .ok (.aload_n 0, 1) := by decide +kernel
theorem dX12_keep_72 : decode cX12_keep 72 = .ok (.getfield 244, 3) := by decide +kernel
theorem dX12_keep_75 : decode cX12_keep 75 = .ok (.iload_n 2, 1) := by decide +kernel
theorem dX12_keep_76 : decode cX12_keep 76 = .ok (.iaload, 1) := by decide +kernel
theorem dX12_keep_77 : decode cX12_keep 77 = .ok (.iastore, 1) := by decide +kernel
theorem dX12_keep_78 : decode cX12_keep 78 = .ok (.aload_n 0, 1) := by decide +kernel
theorem dX12_keep_79 : decode cX12_keep 79 = .ok (.getfield 395, 3) := by decide +kernel
theorem dX12_keep_82 : decode cX12_keep 82 = .ok (.bipush 16, 2) := by decide +kernel
theorem dX12_keep_84 : decode cX12_keep 84 = .ok (.iload_n 1, 1) := by decide +kernel
theorem dX12_keep_85 : decode cX12_keep 85 = .ok (.imul, 1) := by decide +kernel
theorem dX12_keep_86 : decode cX12_keep 86 = .ok (.iload_n 2, 1) := by decide +kernel
theorem dX12_keep_87 : decode cX12_keep 87 = .ok (.iadd, 1) := by decide +kernel
theorem dX12_keep_88 : decode cX12_keep 88 = .ok (.aload_n 0, 1) := by decide +kernel
theorem dX12_keep_89 : decode cX12_keep 89 = .ok (.getfield 247, 3) := by decide +kernel
theorem dX12_keep_92 : decode cX12_keep 92 = .ok (.iload_n 2, 1) := by decide +kernel
theorem dX12_keep_93 : decode cX12_keep 93 = .ok (.iaload, 1) := by decide +kernel
theorem dX12_keep_94 : decode cX12_keep 94 = .ok (.iastore, 1) := by decide +kernel
theorem dX12_keep_95 : decode cX12_keep 95 = .ok (.iinc 2 1, 3) := by decide +kernel
theorem dX12_keep_98 : decode cX12_keep 98 = .ok (.goto (-60), 3) := by decide +kernel
theorem dX12_keep_101 : decode cX12_keep 101 = .ok (.iconst 0, 1) := by decide +kernel
theorem dX12_keep_102 : decode cX12_keep 102 = .ok (.istore_n 2, 1) := by decide +kernel
theorem dX12_keep_103 : decode cX12_keep 103 = .ok (.iload_n 2, 1) := by decide +kernel
theorem dX12_keep_104 : decode cX12_keep 104 = .ok (.bipush 6, 2) := by decide +kernel
theorem dX12_keep_106 : decode cX12_keep 106 = .ok (.if_icmp .ge 43, 3) := by decide +kernel
theorem dX12_keep_109 : decode cX12_keep 109 = .ok (.aload_n 0, 1) := by decide +kernel
theorem dX12_keep_110 : decode cX12_keep 110 = .ok (.getfield 398, 3) := by decide +kernel
theorem dX12_keep_113 : decode cX12_keep 113 = .ok (.bipush 6, 2) := by decide +kernel
theorem dX12_keep_115 : decode cX12_keep 115 = .ok (.iload_n 1, 1) := by decide +kernel
theorem dX12_keep_116 : decode cX12_keep 116 = .ok (.imul, 1) := by decide +kernel
theorem dX12_keep_117 : decode cX12_keep 117 = .ok (.iload_n 2, 1) := by decide +kernel
theorem dX12_keep_118 : decode cX12_keep 118 = .ok (.iadd, 1) := by decide +kernel
theorem dX12_keep_119 : decode cX12_keep 119 = .ok (.aload_n 0, 1) := by decide +kernel
theorem dX12_keep_120 : decode cX12_keep 120 = .ok (.getfield 122, 3) := by decide +kernel
theorem dX12_keep_123 : decode cX12_keep 123 = .ok (.iload_n 2, 1) := by decide +kernel
theorem dX12_keep_124 : decode cX12_keep 124 = .ok (.iaload, 1) := by decide +kernel
theorem dX12_keep_125 : decode cX12_keep 125 = .ok (.iastore, 1) := by decide +kernel
theorem dX12_keep_126 : decode cX12_keep 126 = .ok (.aload_n 0, 1) := by decide +kernel
theorem dX12_keep_127 : decode cX12_keep 127 = .ok (.getfield 401, 3) := by decide +kernel
theorem dX12_keep_130 : decode cX12_keep 130 = .ok (.bipush 6, 2) := by decide +kernel
theorem dX12_keep_132 : decode cX12_keep 132 = .ok (.iload_n 1, 1) := by decide +kernel
theorem dX12_keep_133 : decode cX12_keep 133 = .ok (.imul, 1) := by decide +kernel
theorem dX12_keep_134 : decode cX12_keep 134 = .ok (.iload_n 2, 1) := by decide +kernel
theorem dX12_keep_135 : decode cX12_keep 135 = .ok (.iadd, 1) := by decide +kernel
theorem dX12_keep_136 : decode cX12_keep 136 = .ok (.aload_n 0, 1) := by decide +kernel
theorem dX12_keep_137 : decode cX12_keep 137 = .ok (.getfield 66, 3) := by decide +kernel
theorem dX12_keep_140 : decode cX12_keep 140 = .ok (.iload_n 2, 1) := by decide +kernel
theorem dX12_keep_141 : decode cX12_keep 141 = .ok (.iaload, 1) := by decide +kernel
theorem dX12_keep_142 : decode cX12_keep 142 = .ok (.iastore, 1) := by decide +kernel
theorem dX12_keep_143 : decode cX12_keep 143 = .ok (.iinc 2 1, 3) := by decide +kernel
theorem dX12_keep_146 : decode cX12_keep 146 = .ok (.goto (-43), 3) := by decide +kernel
theorem dX12_keep_149 : decode cX12_keep 149 = .ok (.iconst 1, 1) := by decide +kernel
theorem dX12_keep_150 : decode cX12_keep 150 = .ok (.ireturn, 1) := by decide +kernel
theorem dX12_again_0 : decode cX12_again 0 = .ok (.aload_n 0, 1) := by decide +kernel
theorem dX12_again_1 : decode cX12_again 1 = .ok (.iconst 0, 1) := by decide +kernel
theorem dX12_again_2 : decode cX12_again 2 = .ok (.putfield 1, 3) := by decide +kernel
theorem dX12_again_5 : decode cX12_again 5 = .ok (.iload_n 1, 1) := by decide +kernel
theorem dX12_again_6 : decode cX12_again 6 = .ok (.i2l, 1) := by decide +kernel
theorem dX12_again_7 : decode cX12_again 7 = .ok (.lconst 0, 1) := by decide +kernel
theorem dX12_again_8 : decode cX12_again 8 = .ok (.ldc2_w 381, 3) := by decide +kernel
theorem dX12_again_11 : decode cX12_again 11 = .ok (.invokestatic 29, 3) := by decide +kernel
theorem dX12_again_14 : decode cX12_again 14 = .ok (.ifCond .eq 12, 3) := by decide +kernel
theorem dX12_again_17 : decode cX12_again 17 = .ok (.aload_n 0, 1) := by decide +kernel
theorem dX12_again_18 : decode cX12_again 18 = .ok (.getfield 383, 3) := by decide +kernel
theorem dX12_again_21 : decode cX12_again 21 = .ok (.iload_n 1, 1) := by decide +kernel
theorem dX12_again_22 : decode cX12_again 22 = .ok (.baload, 1) := by decide +kernel
theorem dX12_again_23 : decode cX12_again 23 = .ok (.ifCond .ne 5, 3) := by decide +kernel
theorem dX12_again_26 : decode cX12_again 26 = .ok (.iconst 0, 1) := by decide +kernel
theorem dX12_again_27 : decode cX12_again 27 = .ok (.ireturn, 1) := by decide +kernel
theorem dX12_again_28 : decode cX12_again 28 = .ok (.iconst 0, 1) := by decide +kernel
theorem dX12_again_29 : decode cX12_again 29 = .ok (.istore_n 2, 1) := by decide +kernel
theorem dX12_again_30 : decode cX12_again 30 = .ok (.iload_n 2, 1) := by decide +kernel
theorem dX12_again_31 : decode cX12_again 31 = .ok (.aload_n 0, 1) := by decide +kernel
theorem dX12_again_32 : decode cX12_again 32 = .ok (.getfield 386, 3) := by decide +kernel
theorem dX12_again_35 : decode cX12_again 35 = .ok (.iload_n 1, 1) := by decide +kernel
theorem dX12_again_36 : decode cX12_again 36 = .ok (.iaload, 1) := by decide +kernel
theorem dX12_again_37 : decode cX12_again 37 = .ok (.if_icmp .ge 60, 3) := by decide +kernel
theorem dX12_again_40 : decode cX12_again 40 = .ok (.aload_n 0, 1) := by decide +kernel
theorem dX12_again_41 : decode cX12_again 41 = .ok (.getfield 250, 3) := by decide +kernel
theorem dX12_again_44 : decode cX12_again 44 = .ok (.iload_n 2, 1) := by decide +kernel
theorem dX12_again_45 : decode cX12_again 45 = .ok (.aload_n 0, 1) := by decide +kernel
theorem dX12_again_46 : decode cX12_again 46 = .ok (.getfield 389, 3) := by decide +kernel
theorem dX12_again_49 : decode cX12_again 49 = .ok (.bipush 16, 2) := by decide +kernel
theorem dX12_again_51 : decode cX12_again 51 = .ok (.iload_n 1, 1) := by decide +kernel
theorem dX12_again_52 : decode cX12_again 52 = .ok (.imul, 1) := by decide +kernel
theorem dX12_again_53 : decode cX12_again 53 = .ok (.iload_n 2, 1) := by decide +kernel
theorem dX12_again_54 : decode cX12_again 54 = .ok (.iadd, 1) := by decide +kernel
theorem dX12_again_55 : decode cX12_again 55 = .ok (.baload, 1) := by decide +kernel
theorem dX12_again_56 : decode cX12_again 56 = .ok (.bastore, 1) := by decide +kernel
theorem dX12_again_57 : decode cX12_again 57 = .ok (.aload_n 0, 1) := by decide +kernel
theorem dX12_again_58 : decode cX12_again 58 = .ok (.getfield 244, 3) := by decide +kernel
theorem dX12_again_61 : decode cX12_again 61 = .ok (.iload_n 2, 1) := by decide +kernel
theorem dX12_again_62 : decode cX12_again 62 = .ok (.aload_n 0, 1) := by decide +kernel
theorem dX12_again_63 : decode cX12_again 63 = .ok (.getfield 392, 3) := by decide +kernel
theorem dX12_again_66 : decode cX12_again 66 = .ok (.bipush 16, 2) := by decide +kernel
theorem dX12_again_68 : decode cX12_again 68 = .ok (.iload_n 1, 1) := by decide +kernel
theorem dX12_again_69 : decode cX12_again 69 = .ok (.imul, 1) := by decide +kernel
theorem dX12_again_70 : decode cX12_again 70 = .ok (.iload_n 2, 1) := by decide +kernel
theorem dX12_again_71 : decode cX12_again 71 = .ok (.iadd, 1) := by decide +kernel
theorem dX12_again_72 : decode cX12_again 72 = .ok (.iaload, 1) := by decide +kernel
theorem dX12_again_73 : decode cX12_again 73 = .ok (.iastore, 1) := by decide +kernel
theorem dX12_again_74 : decode cX12_again 74 = .ok (.aload_n 0, 1) := by decide +kernel
theorem dX12_again_75 : decode cX12_again 75 = .ok (.getfield 247, 3) := by decide +kernel
theorem dX12_again_78 : decode cX12_again 78 = .ok (.iload_n 2, 1) := by decide +kernel
theorem dX12_again_79 : decode cX12_again 79 = .ok (.aload_n 0, 1) := by decide +kernel
theorem dX12_again_80 : decode cX12_again 80 = .ok (.getfield 395, 3) := by decide +kernel
theorem dX12_again_83 : decode cX12_again 83 = .ok (.bipush 16, 2) := by decide +kernel
theorem dX12_again_85 : decode cX12_again 85 = .ok (.iload_n 1, 1) := by decide +kernel
theorem dX12_again_86 : decode cX12_again 86 = .ok (.imul, 1) := by decide +kernel
theorem dX12_again_87 : decode cX12_again 87 = .ok (.iload_n 2, 1) := by decide +kernel
theorem dX12_again_88 : decode cX12_again 88 = .ok (.iadd, 1) := by decide +kernel
theorem dX12_again_89 : decode cX12_again 89 = .ok (.iaload, 1) := by decide +kernel
theorem dX12_again_90 : decode cX12_again 90 = .ok (.iastore, 1) := by decide +kernel
theorem dX12_again_91 : decode cX12_again 91 = .ok (.iinc 2 1, 3) := by decide +kernel
theorem dX12_again_94 : decode cX12_again 94 = .ok (.goto (-64), 3) := by decide +kernel
theorem dX12_again_97 : decode cX12_again 97 = .ok (.iconst 0, 1) := by decide +kernel
theorem dX12_again_98 : decode cX12_again 98 = .ok (.istore_n 2, 1) := by decide +kernel
theorem dX12_again_99 : decode cX12_again 99 = .ok (.iload_n 2, 1) := by decide +kernel
theorem dX12_again_100 : decode cX12_again 100 = .ok (.bipush 6, 2) := by decide +kernel
theorem dX12_again_102 : decode cX12_again 102 = .ok (.if_icmp .ge 43, 3) := by decide +kernel
theorem dX12_again_105 : decode cX12_again 105 = .ok (.aload_n 0, 1) := by decide +kernel
theorem dX12_again_106 : decode cX12_again 106 = .ok (.getfield 122, 3) := by decide +kernel
theorem dX12_again_109 : decode cX12_again 109 = .ok (.iload_n 2, 1) := by decide +kernel
theorem dX12_again_110 : decode cX12_again 110 = .ok (.aload_n 0, 1) := by decide +kernel
theorem dX12_again_111 : decode cX12_again 111 = .ok (.getfield 398, 3) := by decide +kernel
theorem dX12_again_114 : decode cX12_again 114 = .ok (.bipush 6, 2) := by decide +kernel
theorem dX12_again_116 : decode cX12_again 116 = .ok (.iload_n 1, 1) := by decide +kernel
theorem dX12_again_117 : decode cX12_again 117 = .ok (.imul, 1) := by decide +kernel
theorem dX12_again_118 : decode cX12_again 118 = .ok (.iload_n 2, 1) := by decide +kernel
theorem dX12_again_119 : decode cX12_again 119 = .ok (.iadd, 1) := by decide +kernel
theorem dX12_again_120 : decode cX12_again 120 = .ok (.iaload, 1) := by decide +kernel
theorem dX12_again_121 : decode cX12_again 121 = .ok (.iastore, 1) := by decide +kernel
theorem dX12_again_122 : decode cX12_again 122 = .ok (.aload_n 0, 1) := by decide +kernel
theorem dX12_again_123 : decode cX12_again 123 = .ok (.getfield 66, 3) := by decide +kernel
theorem dX12_again_126 : decode cX12_again 126 = .ok (.iload_n 2, 1) := by decide +kernel
theorem dX12_again_127 : decode cX12_again 127 = .ok (.aload_n 0, 1) := by decide +kernel
theorem dX12_again_128 : decode cX12_again 128 = .ok (.getfield 401, 3) := by decide +kernel
theorem dX12_again_131 : decode cX12_again 131 = .ok (.bipush 6, 2) := by decide +kernel
theorem dX12_again_133 : decode cX12_again 133 = .ok (.iload_n 1, 1) := by decide +kernel
theorem dX12_again_134 : decode cX12_again 134 = .ok (.imul, 1) := by decide +kernel
theorem dX12_again_135 : decode cX12_again 135 = .ok (.iload_n 2, 1) := by decide +kernel
theorem dX12_again_136 : decode cX12_again 136 = .ok (.iadd, 1) := by decide +kernel
theorem dX12_again_137 : decode cX12_again 137 = .ok (.iaload, 1) := by decide +kernel
theorem dX12_again_138 : decode cX12_again 138 = .ok (.iastore, 1) := by decide +kernel
theorem dX12_again_139 : decode cX12_again 139 = .ok (.iinc 2 1, 3) := by decide +kernel
theorem dX12_again_142 : decode cX12_again 142 = .ok (.goto (-43), 3) := by decide +kernel
theorem dX12_again_145 : decode cX12_again 145 = .ok (.iconst 1, 1) := by decide +kernel
theorem dX12_again_146 : decode cX12_again 146 = .ok (.ireturn, 1) := by decide +kernel
theorem dX12_onBits_0 : decode cX12_onBits 0 = .ok (.iconst 0, 1) := by decide +kernel
theorem dX12_onBits_1 : decode cX12_onBits 1 = .ok (.istore_n 1, 1) := by decide +kernel
theorem dX12_onBits_2 : decode cX12_onBits 2 = .ok (.iconst 0, 1) := by decide +kernel
theorem dX12_onBits_3 : decode cX12_onBits 3 = .ok (.istore_n 2, 1) := by decide +kernel
theorem dX12_onBits_4 : decode cX12_onBits 4 = .ok (.iload_n 2, 1) := by decide +kernel
theorem dX12_onBits_5 : decode cX12_onBits 5 = .ok (.aload_n 0, 1) := by decide +kernel
theorem dX12_onBits_6 : decode cX12_onBits 6 = .ok (.getfield 258, 3) := by decide +kernel
theorem dX12_onBits_9 : decode cX12_onBits 9 = .ok (.if_icmp .ge 28, 3) := by decide +kernel
theorem dX12_onBits_12 : decode cX12_onBits 12 = .ok (.iload_n 1, 1) := by decide +kernel
theorem dX12_onBits_13 : decode cX12_onBits 13 = .ok (.aload_n 0, 1) := by decide +kernel
theorem dX12_onBits_14 : decode cX12_onBits 14 = .ok (.getfield 250, 3) := by decide +kernel
theorem dX12_onBits_17 : decode cX12_onBits 17 = .ok (.iload_n 2, 1) := by decide +kernel
theorem dX12_onBits_18 : decode cX12_onBits 18 = .ok (.baload, 1) := by decide +kernel
theorem dX12_onBits_19 : decode cX12_onBits 19 = .ok (.ifCond .eq 9, 3) := by decide +kernel
theorem dX12_onBits_22 : decode cX12_onBits 22 = .ok (.iconst 1, 1) := by decide +kernel
theorem dX12_onBits_23 : decode cX12_onBits 23 = .ok (.iload_n 2, 1) := by decide +kernel
theorem dX12_onBits_24 : decode cX12_onBits 24 = .ok (.ishl, 1) := by decide +kernel
theorem dX12_onBits_25 : decode cX12_onBits 25 = .ok (.goto 4, 3) := by decide +kernel
theorem dX12_onBits_28 : decode cX12_onBits 28 = .ok (.iconst 0, 1) := by decide +kernel
theorem dX12_onBits_29 : decode cX12_onBits 29 = .ok (.ior, 1) := by decide +kernel
theorem dX12_onBits_30 : decode cX12_onBits 30 = .ok (.istore_n 1, 1) := by decide +kernel
theorem dX12_onBits_31 : decode cX12_onBits 31 = .ok (.iinc 2 1, 3) := by decide +kernel
theorem dX12_onBits_34 : decode cX12_onBits 34 = .ok (.goto (-30), 3) := by decide +kernel
theorem dX12_onBits_37 : decode cX12_onBits 37 = .ok (.iload_n 1, 1) := by decide +kernel
theorem dX12_onBits_38 : decode cX12_onBits 38 = .ok (.ireturn, 1) := by decide +kernel
theorem dX12_count_0 : decode cX12_count 0 = .ok (.aload_n 0, 1) := by decide +kernel
theorem dX12_count_1 : decode cX12_count 1 = .ok (.iconst 0, 1) := by decide +kernel
theorem dX12_count_2 : decode cX12_count 2 = .ok (.putfield 1, 3) := by decide +kernel
theorem dX12_count_5 : decode cX12_count 5 = .ok (.iload_n 1, 1) := by decide +kernel
theorem dX12_count_6 : decode cX12_count 6 = .ok (.tableswitch 77 0 6 #[42, 47, 52, 57, 62, 67, 72], 42) := by decide +kernel
theorem dX12_count_48 : decode cX12_count 48 = .ok (.aload_n 0, 1) := by decide +kernel
theorem dX12_count_49 : decode cX12_count 49 = .ok (.getfield 75, 3) := by decide +kernel
theorem dX12_count_52 : decode cX12_count 52 = .ok (.ireturn, 1) := by decide +kernel
theorem dX12_count_53 : decode cX12_count 53 = .ok (.aload_n 0, 1) := by decide +kernel
theorem dX12_count_54 : decode cX12_count 54 = .ok (.getfield 99, 3) := by decide +kernel
theorem dX12_count_57 : decode cX12_count 57 = .ok (.ireturn, 1) := by decide +kernel
theorem dX12_count_58 : decode cX12_count 58 = .ok (.aload_n 0, 1) := by decide +kernel
theorem dX12_count_59 : decode cX12_count 59 = .ok (.invokevirtual 107, 3) := by decide +kernel
theorem dX12_count_62 : decode cX12_count 62 = .ok (.ireturn, 1) := by decide +kernel
theorem dX12_count_63 : decode cX12_count 63 = .ok (.aload_n 0, 1) := by decide +kernel
theorem dX12_count_64 : decode cX12_count 64 = .ok (.getfield 258, 3) := by decide +kernel
theorem dX12_count_67 : decode cX12_count 67 = .ok (.ireturn, 1) := by decide +kernel
theorem dX12_count_68 : decode cX12_count 68 = .ok (.aload_n 0, 1) := by decide +kernel
theorem dX12_count_69 : decode cX12_count 69 = .ok (.invokevirtual 404, 3) := by decide +kernel
theorem dX12_count_72 : decode cX12_count 72 = .ok (.ireturn, 1) := by decide +kernel
theorem dX12_count_73 : decode cX12_count 73 = .ok (.aload_n 0, 1) := by decide +kernel
theorem dX12_count_74 : decode cX12_count 74 = .ok (.getfield 11, 3) := by decide +kernel
theorem dX12_count_77 : decode cX12_count 77 = .ok (.ireturn, 1) := by decide +kernel
theorem dX12_count_78 : decode cX12_count 78 = .ok (.aload_n 0, 1) := by decide +kernel
theorem dX12_count_79 : decode cX12_count 79 = .ok (.getfield 22, 3) := by decide +kernel
theorem dX12_count_82 : decode cX12_count 82 = .ok (.ireturn, 1) := by decide +kernel
theorem dX12_count_83 : decode cX12_count 83 = .ok (.iconst (-1), 1) := by decide +kernel
theorem dX12_count_84 : decode cX12_count 84 = .ok (.ireturn, 1) := by decide +kernel
theorem dX12_year_0 : decode cX12_year 0 = .ok (.aload_n 0, 1) := by decide +kernel
theorem dX12_year_1 : decode cX12_year 1 = .ok (.iconst 0, 1) := by decide +kernel
theorem dX12_year_2 : decode cX12_year 2 = .ok (.putfield 1, 3) := by decide +kernel
theorem dX12_year_5 : decode cX12_year 5 = .ok (.aload_n 0, 1) := by decide +kernel
theorem dX12_year_6 : decode cX12_year 6 = .ok (.iload_n 1, 1) := by decide +kernel
theorem dX12_year_7 : decode cX12_year 7 = .ok (.invokevirtual 217, 3) := by decide +kernel
theorem dX12_year_10 : decode cX12_year 10 = .ok (.ifCond .eq 20, 3) := by decide +kernel
theorem dX12_year_13 : decode cX12_year 13 = .ok (.aload_n 0, 1) := by decide +kernel
theorem dX12_year_14 : decode cX12_year 14 = .ok (.iload_n 2, 1) := by decide +kernel
theorem dX12_year_15 : decode cX12_year 15 = .ok (.invokevirtual 194, 3) := by decide +kernel
theorem dX12_year_18 : decode cX12_year 18 = .ok (.ifCond .eq 12, 3) := by decide +kernel
theorem dX12_year_21 : decode cX12_year 21 = .ok (.aload_n 0, 1) := by decide +kernel
theorem dX12_year_22 : decode cX12_year 22 = .ok (.iload_n 1, 1) := by decide +kernel
theorem dX12_year_23 : decode cX12_year 23 = .ok (.iload_n 2, 1) := by decide +kernel
theorem dX12_year_24 : decode cX12_year 24 = .ok (.invokevirtual 140, 3) := by decide +kernel
theorem dX12_year_27 : decode cX12_year 27 = .ok (.goto 4, 3) := by decide +kernel
theorem dX12_year_30 : decode cX12_year 30 = .ok (.iconst (-1), 1) := by decide +kernel
theorem dX12_year_31 : decode cX12_year 31 = .ok (.ireturn, 1) := by decide +kernel
theorem dX12_init_0 : decode cX12_init 0 = .ok (.aload_n 0, 1) := by decide +kernel
theorem dX12_init_1 : decode cX12_init 1 = .ok (.invokespecial 407, 3) := by decide +kernel
theorem dX12_init_4 : decode cX12_init 4 = .ok (.aload_n 0, 1) := by decide +kernel
theorem dX12_init_5 : decode cX12_init 5 = .ok (.bipush 64, 2) := by decide +kernel
theorem dX12_init_7 : decode cX12_init 7 = .ok (.newarray .long, 2) := by decide +kernel
theorem dX12_init_9 : decode cX12_init 9 = .ok (.putfield 7, 3) := by decide +kernel
theorem dX12_init_12 : decode cX12_init 12 = .ok (.aload_n 0, 1) := by decide +kernel
theorem dX12_init_13 : decode cX12_init 13 = .ok (.bipush 40, 2) := by decide +kernel
theorem dX12_init_15 : decode cX12_init 15 = .ok (.newarray .int, 2) := by decide +kernel
theorem dX12_init_17 : decode cX12_init 17 = .ok (.putfield 25, 3) := by decide +kernel
theorem dX12_init_20 : decode cX12_init 20 = .ok (.aload_n 0, 1) := by decide +kernel
theorem dX12_init_21 : decode cX12_init 21 = .ok (.bipush 6, 2) := by decide +kernel
theorem dX12_init_23 : decode cX12_init 23 = .ok (.newarray .int, 2) := by decide +kernel
theorem dX12_init_25 : decode cX12_init 25 = .ok (.putfield 66, 3) := by decide +kernel
theorem dX12_init_28 : decode cX12_init 28 = .ok (.aload_n 0, 1) := by decide +kernel
theorem dX12_init_29 : decode cX12_init 29 = .ok (.sipush 160, 3) := by decide +kernel
theorem dX12_init_32 : decode cX12_init 32 = .ok (.newarray .int, 2) := by decide +kernel
theorem dX12_init_34 : decode cX12_init 34 = .ok (.putfield 78, 3) := by decide +kernel
theorem dX12_init_37 : decode cX12_init 37 = .ok (.aload_n 0, 1) := by decide +kernel
theorem dX12_init_38 : decode cX12_init 38 = .ok (.bipush 20, 2) := by decide +kernel
theorem dX12_init_40 : decode cX12_init 40 = .ok (.newarray .int, 2) := by decide +kernel
theorem dX12_init_42 : decode cX12_init 42 = .ok (.putfield 81, 3) := by decide +kernel
theorem dX12_init_45 : decode cX12_init 45 = .ok (.aload_n 0, 1) := by decide +kernel
theorem dX12_init_46 : decode cX12_init 46 = .ok (.bipush 6, 2) := by decide +kernel
theorem dX12_init_48 : decode cX12_init 48 = .ok (.newarray .int, 2) := by decide +kernel
theorem dX12_init_50 : decode cX12_init 50 = .ok (.putfield 84, 3) := by decide +kernel
theorem dX12_init_53 : decode cX12_init 53 = .ok (.aload_n 0, 1) := by decide +kernel
theorem dX12_init_54 : decode cX12_init 54 = .ok (.bipush 6, 2) := by decide +kernel
theorem dX12_init_56 : decode cX12_init 56 = .ok (.newarray .int, 2) := by decide +kernel
theorem dX12_init_58 : decode cX12_init 58 = .ok (.putfield 87, 3) := by decide +kernel
theorem dX12_init_61 : decode cX12_init 61 = .ok (.aload_n 0, 1) := by decide +kernel
theorem dX12_init_62 : decode cX12_init 62 = .ok (.bipush 6, 2) := by decide +kernel
theorem dX12_init_64 : decode cX12_init 64 = .ok (.newarray .int, 2) := by decide +kernel
theorem dX12_init_66 : decode cX12_init 66 = .ok (.putfield 90, 3) := by decide +kernel
theorem dX12_init_69 : decode cX12_init 69 = .ok (.aload_n 0, 1) := by decide +kernel
theorem dX12_init_70 : decode cX12_init 70 = .ok (.bipush 6, 2) := by decide +kernel
theorem dX12_init_72 : decode cX12_init 72 = .ok (.newarray .int, 2) := by decide +kernel
theorem dX12_init_74 : decode cX12_init 74 = .ok (.putfield 93, 3) := by decide +kernel
theorem dX12_init_77 : decode cX12_init 77 = .ok (.aload_n 0, 1) := by decide +kernel
theorem dX12_init_78 : decode cX12_init 78 = .ok (.bipush 6, 2) := by decide +kernel
theorem dX12_init_80 : decode cX12_init 80 = .ok (.newarray .int, 2) := by decide +kernel
theorem dX12_init_82 : decode cX12_init 82 = .ok (.putfield 114, 3) := by decide +kernel
theorem dX12_init_85 : decode cX12_init 85 = .ok (.aload_n 0, 1) := by decide +kernel
theorem dX12_init_86 : decode cX12_init 86 = .ok (.bipush 6, 2) := by decide +kernel
theorem dX12_init_88 : decode cX12_init 88 = .ok (.newarray .int, 2) := by decide +kernel
theorem dX12_init_90 : decode cX12_init 90 = .ok (.putfield 117, 3) := by decide +kernel
theorem dX12_init_93 : decode cX12_init 93 = .ok (.aload_n 0, 1) := by decide +kernel
theorem dX12_init_94 : decode cX12_init 94 = .ok (.bipush 6, 2) := by decide +kernel
theorem dX12_init_96 : decode cX12_init 96 = .ok (.newarray .int, 2) := by decide +kernel
theorem dX12_init_98 : decode cX12_init 98 = .ok (.putfield 102, 3) := by decide +kernel
theorem dX12_init_101 : decode cX12_init 101 = .ok (.aload_n 0, 1) := by decide +kernel
theorem dX12_init_102 : decode cX12_init 102 = .ok (.bipush 6, 2) := by decide +kernel
theorem dX12_init_104 : decode cX12_init 104 = .ok (.newarray .int, 2) := by decide +kernel
theorem dX12_init_106 : decode cX12_init 106 = .ok (.putfield 122, 3) := by decide +kernel
theorem dX12_init_109 : decode cX12_init 109 = .ok (.aload_n 0, 1) := by decide +kernel
theorem dX12_init_110 : decode cX12_init 110 = .ok (.bipush 16, 2) := by decide +kernel
theorem dX12_init_112 : decode cX12_init 112 = .ok (.newarray .int, 2) := by decide +kernel
theorem dX12_init_114 : decode cX12_init 114 = .ok (.putfield 158, 3) := by decide +kernel
theorem dX12_init_117 : decode cX12_init 117 = .ok (.aload_n 0, 1) := by decide +kernel
theorem dX12_init_118 : decode cX12_init 118 = .ok (.iconst 2, 1) := by decide +kernel
theorem dX12_init_119 : decode cX12_init 119 = .ok (.newarray .int, 2) := by decide +kernel
theorem dX12_init_121 : decode cX12_init 121 = .ok (.putfield 155, 3) := by decide +kernel
theorem dX12_init_124 : decode cX12_init 124 = .ok (.aload_n 0, 1) := by decide +kernel
theorem dX12_init_125 : decode cX12_init 125 = .ok (.bipush 8, 2) := by decide +kernel
theorem dX12_init_127 : decode cX12_init 127 = .ok (.newarray .int, 2) := by decide +kernel
theorem dX12_init_129 : decode cX12_init 129 = .ok (.putfield 164, 3) := by decide +kernel
theorem dX12_init_132 : decode cX12_init 132 = .ok (.aload_n 0, 1) := by decide +kernel
theorem dX12_init_133 : decode cX12_init 133 = .ok (.bipush 6, 2) := by decide +kernel
theorem dX12_init_135 : decode cX12_init 135 = .ok (.newarray .int, 2) := by decide +kernel
theorem dX12_init_137 : decode cX12_init 137 = .ok (.putfield 143, 3) := by decide +kernel
theorem dX12_init_140 : decode cX12_init 140 = .ok (.aload_n 0, 1) := by decide +kernel
theorem dX12_init_141 : decode cX12_init 141 = .ok (.iconst (-1), 1) := by decide +kernel
theorem dX12_init_142 : decode cX12_init 142 = .ok (.putfield 146, 3) := by decide +kernel
theorem dX12_init_145 : decode cX12_init 145 = .ok (.aload_n 0, 1) := by decide +kernel
theorem dX12_init_146 : decode cX12_init 146 = .ok (.iconst (-1), 1) := by decide +kernel
theorem dX12_init_147 : decode cX12_init 147 = .ok (.putfield 149, 3) := by decide +kernel
theorem dX12_init_150 : decode cX12_init 150 = .ok (.aload_n 0, 1) := by decide +kernel
theorem dX12_init_151 : decode cX12_init 151 = .ok (.bipush 17, 2) := by decide +kernel
theorem dX12_init_153 : decode cX12_init 153 = .ok (.newarray .int, 2) := by decide +kernel
theorem dX12_init_155 : decode cX12_init 155 = .ok (.putfield 226, 3) := by decide +kernel
theorem dX12_init_158 : decode cX12_init 158 = .ok (.aload_n 0, 1) := by decide +kernel
theorem dX12_init_159 : decode cX12_init 159 = .ok (.bipush 17, 2) := by decide +kernel
theorem dX12_init_161 : decode cX12_init 161 = .ok (.newarray .int, 2) := by decide +kernel
theorem dX12_init_163 : decode cX12_init 163 = .ok (.putfield 229, 3) := by decide +kernel
theorem dX12_init_166 : decode cX12_init 166 = .ok (.aload_n 0, 1) := by decide +kernel
theorem dX12_init_167 : decode cX12_init 167 = .ok (.bipush 17, 2) := by decide +kernel
theorem dX12_init_169 : decode cX12_init 169 = .ok (.newarray .int, 2) := by decide +kernel
theorem dX12_init_171 : decode cX12_init 171 = .ok (.putfield 232, 3) := by decide +kernel
theorem dX12_init_174 : decode cX12_init 174 = .ok (.aload_n 0, 1) := by decide +kernel
theorem dX12_init_175 : decode cX12_init 175 = .ok (.bipush 17, 2) := by decide +kernel
theorem dX12_init_177 : decode cX12_init 177 = .ok (.newarray .int, 2) := by decide +kernel
theorem dX12_init_179 : decode cX12_init 179 = .ok (.putfield 235, 3) := by decide +kernel
theorem dX12_init_182 : decode cX12_init 182 = .ok (.aload_n 0, 1) := by decide +kernel
theorem dX12_init_183 : decode cX12_init 183 = .ok (.bipush 17, 2) := by decide +kernel
theorem dX12_init_185 : decode cX12_init 185 = .ok (.newarray .int, 2) := by decide +kernel
theorem dX12_init_187 : decode cX12_init 187 = .ok (.putfield 238, 3) := by decide +kernel
theorem dX12_init_190 : decode cX12_init 190 = .ok (.aload_n 0, 1) := by decide +kernel
theorem dX12_init_191 : decode cX12_init 191 = .ok (.bipush 17, 2) := by decide +kernel
theorem dX12_init_193 : decode cX12_init 193 = .ok (.newarray .int, 2) := by decide +kernel
theorem dX12_init_195 : decode cX12_init 195 = .ok (.putfield 241, 3) := by decide +kernel
theorem dX12_init_198 : decode cX12_init 198 = .ok (.aload_n 0, 1) := by decide +kernel
theorem dX12_init_199 : decode cX12_init 199 = .ok (.bipush 17, 2) := by decide +kernel
theorem dX12_init_201 : decode cX12_init 201 = .ok (.newarray .int, 2) := by decide +kernel
theorem dX12_init_203 : decode cX12_init 203 = .ok (.putfield 244, 3) := by decide +kernel
theorem dX12_init_206 : decode cX12_init 206 = .ok (.aload_n 0, 1) := by decide +kernel
theorem dX12_init_207 : decode cX12_init 207 = .ok (.bipush 17, 2) := by decide +kernel
theorem dX12_init_209 : decode cX12_init 209 = .ok (.newarray .int, 2) := by decide +kernel
theorem dX12_init_211 : decode cX12_init 211 = .ok (.putfield 247, 3) := by decide +kernel
theorem dX12_init_214 : decode cX12_init 214 = .ok (.aload_n 0, 1) := by decide +kernel
theorem dX12_init_215 : decode cX12_init 215 = .ok (.bipush 17, 2) := by decide +kernel
theorem dX12_init_217 : decode cX12_init 217 = .ok (.newarray .boolean, 2) := by decide +kernel
theorem dX12_init_219 : decode cX12_init 219 = .ok (.putfield 250, 3) := by decide +kernel
theorem dX12_init_222 : decode cX12_init 222 = .ok (.aload_n 0, 1) := by decide +kernel
theorem dX12_init_223 : decode cX12_init 223 = .ok (.sipush 600, 3) := by decide +kernel
theorem dX12_init_226 : decode cX12_init 226 = .ok (.newarray .int, 2) := by decide +kernel
theorem dX12_init_228 : decode cX12_init 228 = .ok (.putfield 279, 3) := by decide +kernel
theorem dX12_init_231 : decode cX12_init 231 = .ok (.aload_n 0, 1) := by decide +kernel
theorem dX12_init_232 : decode cX12_init 232 = .ok (.sipush 600, 3) := by decide +kernel
theorem dX12_init_235 : decode cX12_init 235 = .ok (.newarray .long, 2) := by decide +kernel
theorem dX12_init_237 : decode cX12_init 237 = .ok (.putfield 297, 3) := by decide +kernel
theorem dX12_init_240 : decode cX12_init 240 = .ok (.aload_n 0, 1) := by decide +kernel
theorem dX12_init_241 : decode cX12_init 241 = .ok (.sipush 600, 3) := by decide +kernel
theorem dX12_init_244 : decode cX12_init 244 = .ok (.newarray .long, 2) := by decide +kernel
theorem dX12_init_246 : decode cX12_init 246 = .ok (.putfield 300, 3) := by decide +kernel
theorem dX12_init_249 : decode cX12_init 249 = .ok (.aload_n 0, 1) := by decide +kernel
theorem dX12_init_250 : decode cX12_init 250 = .ok (.sipush 600, 3) := by decide +kernel
theorem dX12_init_253 : decode cX12_init 253 = .ok (.newarray .long, 2) := by decide +kernel
theorem dX12_init_255 : decode cX12_init 255 = .ok (.putfield 317, 3) := by decide +kernel
theorem dX12_init_258 : decode cX12_init 258 = .ok (.aload_n 0, 1) := by decide +kernel
theorem dX12_init_259 : decode cX12_init 259 = .ok (.iconst 4, 1) := by decide +kernel
theorem dX12_init_260 : decode cX12_init 260 = .ok (.newarray .int, 2) := by decide +kernel
theorem dX12_init_262 : decode cX12_init 262 = .ok (.putfield 340, 3) := by decide +kernel
theorem dX12_init_265 : decode cX12_init 265 = .ok (.aload_n 0, 1) := by decide +kernel
theorem dX12_init_266 : decode cX12_init 266 = .ok (.bipush 7, 2) := by decide +kernel
theorem dX12_init_268 : decode cX12_init 268 = .ok (.newarray .int, 2) := by decide +kernel
theorem dX12_init_270 : decode cX12_init 270 = .ok (.putfield 349, 3) := by decide +kernel
theorem dX12_init_273 : decode cX12_init 273 = .ok (.aload_n 0, 1) := by decide +kernel
theorem dX12_init_274 : decode cX12_init 274 = .ok (.bipush 7, 2) := by decide +kernel
theorem dX12_init_276 : decode cX12_init 276 = .ok (.newarray .int, 2) := by decide +kernel
theorem dX12_init_278 : decode cX12_init 278 = .ok (.putfield 352, 3) := by decide +kernel
theorem dX12_init_281 : decode cX12_init 281 = .ok (.aload_n 0, 1) := by decide +kernel
theorem dX12_init_282 : decode cX12_init 282 = .ok (.bipush 7, 2) := by decide +kernel
theorem dX12_init_284 : decode cX12_init 284 = .ok (.newarray .int, 2) := by decide +kernel
theorem dX12_init_286 : decode cX12_init 286 = .ok (.putfield 370, 3) := by decide +kernel
theorem dX12_init_289 : decode cX12_init 289 = .ok (.aload_n 0, 1) := by decide +kernel
theorem dX12_init_290 : decode cX12_init 290 = .ok (.iconst 3, 1) := by decide +kernel
theorem dX12_init_291 : decode cX12_init 291 = .ok (.newarray .int, 2) := by decide +kernel
theorem dX12_init_293 : decode cX12_init 293 = .ok (.putfield 364, 3) := by decide +kernel
theorem dX12_init_296 : decode cX12_init 296 = .ok (.aload_n 0, 1) := by decide +kernel
theorem dX12_init_297 : decode cX12_init 297 = .ok (.iconst 3, 1) := by decide +kernel
theorem dX12_init_298 : decode cX12_init 298 = .ok (.newarray .boolean, 2) := by decide +kernel
theorem dX12_init_300 : decode cX12_init 300 = .ok (.putfield 383, 3) := by decide +kernel
theorem dX12_init_303 : decode cX12_init 303 = .ok (.aload_n 0, 1) := by decide +kernel
theorem dX12_init_304 : decode cX12_init 304 = .ok (.iconst 3, 1) := by decide +kernel
theorem dX12_init_305 : decode cX12_init 305 = .ok (.newarray .int, 2) := by decide +kernel
theorem dX12_init_307 : decode cX12_init 307 = .ok (.putfield 386, 3) := by decide +kernel
theorem dX12_init_310 : decode cX12_init 310 = .ok (.aload_n 0, 1) := by decide +kernel
theorem dX12_init_311 : decode cX12_init 311 = .ok (.bipush 48, 2) := by decide +kernel
theorem dX12_init_313 : decode cX12_init 313 = .ok (.newarray .boolean, 2) := by decide +kernel
theorem dX12_init_315 : decode cX12_init 315 = .ok (.putfield 389, 3) := by decide +kernel
theorem dX12_init_318 : decode cX12_init 318 = .ok (.aload_n 0, 1) := by decide +kernel
theorem dX12_init_319 : decode cX12_init 319 = .ok (.bipush 48, 2) := by decide +kernel
theorem dX12_init_321 : decode cX12_init 321 = .ok (.newarray .int, 2) := by decide +kernel
theorem dX12_init_323 : decode cX12_init 323 = .ok (.putfield 392, 3) := by decide +kernel
theorem dX12_init_326 : decode cX12_init 326 = .ok (.aload_n 0, 1) := by decide +kernel
theorem dX12_init_327 : decode cX12_init 327 = .ok (.bipush 48, 2) := by decide +kernel
theorem dX12_init_329 : decode cX12_init 329 = .ok (.newarray .int, 2) := by decide +kernel
theorem dX12_init_331 : decode cX12_init 331 = .ok (.putfield 395, 3) := by decide +kernel
theorem dX12_init_334 : decode cX12_init 334 = .ok (.aload_n 0, 1) := by decide +kernel
theorem dX12_init_335 : decode cX12_init 335 = .ok (.bipush 18, 2) := by decide +kernel
theorem dX12_init_337 : decode cX12_init 337 = .ok (.newarray .int, 2) := by decide +kernel
theorem dX12_init_339 : decode cX12_init 339 = .ok (.putfield 398, 3) := by decide +kernel
theorem dX12_init_342 : decode cX12_init 342 = .ok (.aload_n 0, 1) := by decide +kernel
theorem dX12_init_343 : decode cX12_init 343 = .ok (.bipush 18, 2) := by decide +kernel
theorem dX12_init_345 : decode cX12_init 345 = .ok (.newarray .int, 2) := by decide +kernel
theorem dX12_init_347 : decode cX12_init 347 = .ok (.putfield 401, 3) := by decide +kernel
theorem dX12_init_350 : decode cX12_init 350 = .ok (.return_, 1) := by decide +kernel
theorem dX12_row_0 : decode cX12_row 0 = .ok (.aload_n 0, 1) := by decide +kernel
theorem dX12_row_1 : decode cX12_row 1 = .ok (.iconst 0, 1) := by decide +kernel
theorem dX12_row_2 : decode cX12_row 2 = .ok (.putfield 1, 3) := by decide +kernel
theorem dX12_row_5 : decode cX12_row 5 = .ok (.iload_n 1, 1) := by decide +kernel
theorem dX12_row_6 : decode cX12_row 6 = .ok (.i2l, 1) := by decide +kernel
theorem dX12_row_7 : decode cX12_row 7 = .ok (.lconst 0, 1) := by decide +kernel
theorem dX12_row_8 : decode cX12_row 8 = .ok (.aload_n 0, 1) := by decide +kernel
theorem dX12_row_9 : decode cX12_row 9 = .ok (.getfield 11, 3) := by decide +kernel
theorem dX12_row_12 : decode cX12_row 12 = .ok (.iconst 1, 1) := by decide +kernel
theorem dX12_row_13 : decode cX12_row 13 = .ok (.isub, 1) := by decide +kernel
theorem dX12_row_14 : decode cX12_row 14 = .ok (.i2l, 1) := by decide +kernel
theorem dX12_row_15 : decode cX12_row 15 = .ok (.invokestatic 29, 3) := by decide +kernel
theorem dX12_row_18 : decode cX12_row 18 = .ok (.ifCond .ne 10, 3) := by decide +kernel
theorem dX12_row_21 : decode cX12_row 21 = .ok (.aload_n 0, 1) := by decide +kernel
theorem dX12_row_22 : decode cX12_row 22 = .ok (.iconst 1, 1) := by decide +kernel
theorem dX12_row_23 : decode cX12_row 23 = .ok (.putfield 1, 3) := by decide +kernel
theorem dX12_row_26 : decode cX12_row 26 = .ok (.lconst 0, 1) := by decide +kernel
theorem dX12_row_27 : decode cX12_row 27 = .ok (.lreturn, 1) := by decide +kernel
theorem dX12_row_28 : decode cX12_row 28 = .ok (.aload_n 0, 1) := by decide +kernel
theorem dX12_row_29 : decode cX12_row 29 = .ok (.getfield 7, 3) := by decide +kernel
theorem dX12_row_32 : decode cX12_row 32 = .ok (.iload_n 1, 1) := by decide +kernel
theorem dX12_row_33 : decode cX12_row 33 = .ok (.laload, 1) := by decide +kernel
theorem dX12_row_34 : decode cX12_row 34 = .ok (.lreturn, 1) := by decide +kernel
theorem dJ6_bitCount_0f7a4_0 : decode cJ6_bitCount_0f7a4 0 = .ok (.iload_n 0, 1) := by decide +kernel
theorem dJ6_bitCount_0f7a4_1 : decode cJ6_bitCount_0f7a4 1 = .ok (.iload_n 0, 1) := by decide +kernel
theorem dJ6_bitCount_0f7a4_2 : decode cJ6_bitCount_0f7a4 2 = .ok (.iconst 1, 1) := by decide +kernel
theorem dJ6_bitCount_0f7a4_3 : decode cJ6_bitCount_0f7a4 3 = .ok (.iushr, 1) := by decide +kernel
theorem dJ6_bitCount_0f7a4_4 : decode cJ6_bitCount_0f7a4 4 = .ok (.ldc_w 265, 3) := by decide +kernel
theorem dJ6_bitCount_0f7a4_7 : decode cJ6_bitCount_0f7a4 7 = .ok (.iand, 1) := by decide +kernel
theorem dJ6_bitCount_0f7a4_8 : decode cJ6_bitCount_0f7a4 8 = .ok (.isub, 1) := by decide +kernel
theorem dJ6_bitCount_0f7a4_9 : decode cJ6_bitCount_0f7a4 9 = .ok (.istore_n 0, 1) := by decide +kernel
theorem dJ6_bitCount_0f7a4_10 : decode cJ6_bitCount_0f7a4 10 = .ok (.iload_n 0, 1) := by decide +kernel
theorem dJ6_bitCount_0f7a4_11 : decode cJ6_bitCount_0f7a4 11 = .ok (.ldc_w 266, 3) := by decide +kernel
theorem dJ6_bitCount_0f7a4_14 : decode cJ6_bitCount_0f7a4 14 = .ok (.iand, 1) := by decide +kernel
theorem dJ6_bitCount_0f7a4_15 : decode cJ6_bitCount_0f7a4 15 = .ok (.iload_n 0, 1) := by decide +kernel
theorem dJ6_bitCount_0f7a4_16 : decode cJ6_bitCount_0f7a4 16 = .ok (.iconst 2, 1) := by decide +kernel
theorem dJ6_bitCount_0f7a4_17 : decode cJ6_bitCount_0f7a4 17 = .ok (.iushr, 1) := by decide +kernel
theorem dJ6_bitCount_0f7a4_18 : decode cJ6_bitCount_0f7a4 18 = .ok (.ldc_w 266, 3) := by decide +kernel
theorem dJ6_bitCount_0f7a4_21 : decode cJ6_bitCount_0f7a4 21 = .ok (.iand, 1) := by decide +kernel
theorem dJ6_bitCount_0f7a4_22 : decode cJ6_bitCount_0f7a4 22 = .ok (.iadd, 1) := by decide +kernel
theorem dJ6_bitCount_0f7a4_23 : decode cJ6_bitCount_0f7a4 23 = .ok (.istore_n 0, 1) := by decide +kernel
theorem dJ6_bitCount_0f7a4_24 : decode cJ6_bitCount_0f7a4 24 = .ok (.iload_n 0, 1) := by decide +kernel
theorem dJ6_bitCount_0f7a4_25 : decode cJ6_bitCount_0f7a4 25 = .ok (.iload_n 0, 1) := by decide +kernel
theorem dJ6_bitCount_0f7a4_26 : decode cJ6_bitCount_0f7a4 26 = .ok (.iconst 4, 1) := by decide +kernel
theorem dJ6_bitCount_0f7a4_27 : decode cJ6_bitCount_0f7a4 27 = .ok (.iushr, 1) := by decide +kernel
theorem dJ6_bitCount_0f7a4_28 : decode cJ6_bitCount_0f7a4 28 = .ok (.iadd, 1) := by decide +kernel
theorem dJ6_bitCount_0f7a4_29 : decode cJ6_bitCount_0f7a4 29 = .ok (.ldc_w 267, 3) := by decide +kernel
theorem dJ6_bitCount_0f7a4_32 : decode cJ6_bitCount_0f7a4 32 = .ok (.iand, 1) := by decide +kernel
theorem dJ6_bitCount_0f7a4_33 : decode cJ6_bitCount_0f7a4 33 = .ok (.istore_n 0, 1) := by decide +kernel
theorem dJ6_bitCount_0f7a4_34 : decode cJ6_bitCount_0f7a4 34 = .ok (.iload_n 0, 1) := by decide +kernel
theorem dJ6_bitCount_0f7a4_35 : decode cJ6_bitCount_0f7a4 35 = .ok (.iload_n 0, 1) := by decide +kernel
theorem dJ6_bitCount_0f7a4_36 : decode cJ6_bitCount_0f7a4 36 = .ok (.bipush 8, 2) := by decide +kernel
theorem dJ6_bitCount_0f7a4_38 : decode cJ6_bitCount_0f7a4 38 = .ok (.iushr, 1) := by decide +kernel
theorem dJ6_bitCount_0f7a4_39 : decode cJ6_bitCount_0f7a4 39 = .ok (.iadd, 1) := by decide +kernel
theorem dJ6_bitCount_0f7a4_40 : decode cJ6_bitCount_0f7a4 40 = .ok (.istore_n 0, 1) := by decide +kernel
theorem dJ6_bitCount_0f7a4_41 : decode cJ6_bitCount_0f7a4 41 = .ok (.iload_n 0, 1) := by decide +kernel
theorem dJ6_bitCount_0f7a4_42 : decode cJ6_bitCount_0f7a4 42 = .ok (.iload_n 0, 1) := by decide +kernel
theorem dJ6_bitCount_0f7a4_43 : decode cJ6_bitCount_0f7a4 43 = .ok (.bipush 16, 2) := by decide +kernel
theorem dJ6_bitCount_0f7a4_45 : decode cJ6_bitCount_0f7a4 45 = .ok (.iushr, 1) := by decide +kernel
theorem dJ6_bitCount_0f7a4_46 : decode cJ6_bitCount_0f7a4 46 = .ok (.iadd, 1) := by decide +kernel
theorem dJ6_bitCount_0f7a4_47 : decode cJ6_bitCount_0f7a4 47 = .ok (.istore_n 0, 1) := by decide +kernel
theorem dJ6_bitCount_0f7a4_48 : decode cJ6_bitCount_0f7a4 48 = .ok (.iload_n 0, 1) := by decide +kernel
theorem dJ6_bitCount_0f7a4_49 : decode cJ6_bitCount_0f7a4 49 = .ok (.bipush 63, 2) := by decide +kernel
theorem dJ6_bitCount_0f7a4_51 : decode cJ6_bitCount_0f7a4 51 = .ok (.iand, 1) := by decide +kernel
theorem dJ6_bitCount_0f7a4_52 : decode cJ6_bitCount_0f7a4 52 = .ok (.ireturn, 1) := by decide +kernel
theorem dJ9_abs_0f7a4_0 : decode cJ9_abs_0f7a4 0 = .ok (.iload_n 0, 1) := by decide +kernel
theorem dJ9_abs_0f7a4_1 : decode cJ9_abs_0f7a4 1 = .ok (.ifCond .ge 8, 3) := by decide +kernel
theorem dJ9_abs_0f7a4_4 : decode cJ9_abs_0f7a4 4 = .ok (.iload_n 0, 1) := by decide +kernel
theorem dJ9_abs_0f7a4_5 : decode cJ9_abs_0f7a4 5 = .ok (.ineg, 1) := by decide +kernel
theorem dJ9_abs_0f7a4_6 : decode cJ9_abs_0f7a4 6 = .ok (.goto 4, 3) := by decide +kernel
theorem dJ9_abs_0f7a4_9 : decode cJ9_abs_0f7a4 9 = .ok (.iload_n 0, 1) := by decide +kernel
theorem dJ9_abs_0f7a4_10 : decode cJ9_abs_0f7a4 10 = .ok (.ireturn, 1) := by decide +kernel
theorem dJ9_max_7cf53_0 : decode cJ9_max_7cf53 0 = .ok (.iload_n 0, 1) := by decide +kernel
theorem dJ9_max_7cf53_1 : decode cJ9_max_7cf53 1 = .ok (.iload_n 1, 1) := by decide +kernel
theorem dJ9_max_7cf53_2 : decode cJ9_max_7cf53 2 = .ok (.if_icmp .lt 7, 3) := by decide +kernel
theorem dJ9_max_7cf53_5 : decode cJ9_max_7cf53 5 = .ok (.iload_n 0, 1) := by decide +kernel
theorem dJ9_max_7cf53_6 : decode cJ9_max_7cf53 6 = .ok (.goto 4, 3) := by decide +kernel
theorem dJ9_max_7cf53_9 : decode cJ9_max_7cf53 9 = .ok (.iload_n 1, 1) := by decide +kernel
theorem dJ9_max_7cf53_10 : decode cJ9_max_7cf53 10 = .ok (.ireturn, 1) := by decide +kernel
theorem dJ9_min_7cf53_0 : decode cJ9_min_7cf53 0 = .ok (.iload_n 0, 1) := by decide +kernel
theorem dJ9_min_7cf53_1 : decode cJ9_min_7cf53 1 = .ok (.iload_n 1, 1) := by decide +kernel
theorem dJ9_min_7cf53_2 : decode cJ9_min_7cf53 2 = .ok (.if_icmp .gt 7, 3) := by decide +kernel
theorem dJ9_min_7cf53_5 : decode cJ9_min_7cf53 5 = .ok (.iload_n 0, 1) := by decide +kernel
theorem dJ9_min_7cf53_6 : decode cJ9_min_7cf53 6 = .ok (.goto 4, 3) := by decide +kernel
theorem dJ9_min_7cf53_9 : decode cJ9_min_7cf53 9 = .ok (.iload_n 1, 1) := by decide +kernel
theorem dJ9_min_7cf53_10 : decode cJ9_min_7cf53 10 = .ok (.ireturn, 1) := by decide +kernel
theorem dJ7_fill_53178_0 : decode cJ7_fill_53178 0 = .ok (.iconst 0, 1) := by decide +kernel
theorem dJ7_fill_53178_1 : decode cJ7_fill_53178 1 = .ok (.istore_n 2, 1) := by decide +kernel
theorem dJ7_fill_53178_2 : decode cJ7_fill_53178 2 = .ok (.aload_n 0, 1) := by decide +kernel
theorem dJ7_fill_53178_3 : decode cJ7_fill_53178 3 = .ok (.arraylength, 1) := by decide +kernel
theorem dJ7_fill_53178_4 : decode cJ7_fill_53178 4 = .ok (.istore_n 3, 1) := by decide +kernel
theorem dJ7_fill_53178_5 : decode cJ7_fill_53178 5 = .ok (.iload_n 2, 1) := by decide +kernel
theorem dJ7_fill_53178_6 : decode cJ7_fill_53178 6 = .ok (.iload_n 3, 1) := by decide +kernel
theorem dJ7_fill_53178_7 : decode cJ7_fill_53178 7 = .ok (.if_icmp .ge 13, 3) := by decide +kernel
theorem dJ7_fill_53178_10 : decode cJ7_fill_53178 10 = .ok (.aload_n 0, 1) := by decide +kernel
theorem dJ7_fill_53178_11 : decode cJ7_fill_53178 11 = .ok (.iload_n 2, 1) := by decide +kernel
theorem dJ7_fill_53178_12 : decode cJ7_fill_53178 12 = .ok (.iload_n 1, 1) := by decide +kernel
theorem dJ7_fill_53178_13 : decode cJ7_fill_53178 13 = .ok (.iastore, 1) := by decide +kernel
theorem dJ7_fill_53178_14 : decode cJ7_fill_53178 14 = .ok (.iinc 2 1, 3) := by decide +kernel
theorem dJ7_fill_53178_17 : decode cJ7_fill_53178 17 = .ok (.goto (-12), 3) := by decide +kernel
theorem dJ7_fill_53178_20 : decode cJ7_fill_53178 20 = .ok (.return_, 1) := by decide +kernel
theorem dJ7_copyOf_59c91_0 : decode cJ7_copyOf_59c91 0 = .ok (.iload_n 1, 1) := by decide +kernel
theorem dJ7_copyOf_59c91_1 : decode cJ7_copyOf_59c91 1 = .ok (.aload_n 0, 1) := by decide +kernel
theorem dJ7_copyOf_59c91_2 : decode cJ7_copyOf_59c91 2 = .ok (.arraylength, 1) := by decide +kernel
theorem dJ7_copyOf_59c91_3 : decode cJ7_copyOf_59c91 3 = .ok (.if_icmp .ne 11, 3) := by decide +kernel
theorem dJ7_copyOf_59c91_6 : decode cJ7_copyOf_59c91 6 = .ok (.aload_n 0, 1) := by decide +kernel
theorem dJ7_copyOf_59c91_7 : decode cJ7_copyOf_59c91 7 = .ok (.invokevirtual 316, 3) := by decide +kernel
theorem dJ7_copyOf_59c91_10 : decode cJ7_copyOf_59c91 10 = .ok (.checkcast 317, 3) := by decide +kernel
theorem dJ7_copyOf_59c91_13 : decode cJ7_copyOf_59c91 13 = .ok (.areturn, 1) := by decide +kernel
theorem dJ7_copyOf_59c91_14 : decode cJ7_copyOf_59c91 14 = .ok (.iload_n 1, 1) := by decide +kernel
theorem dJ7_copyOf_59c91_15 : decode cJ7_copyOf_59c91 15 = .ok (.newarray .int, 2) := by decide +kernel
theorem dJ7_copyOf_59c91_17 : decode cJ7_copyOf_59c91 17 = .ok (.astore_n 2, 1) := by decide +kernel
theorem dJ7_copyOf_59c91_18 : decode cJ7_copyOf_59c91 18 = .ok (.aload_n 0, 1) := by decide +kernel
theorem dJ7_copyOf_59c91_19 : decode cJ7_copyOf_59c91 19 = .ok (.iconst 0, 1) := by decide +kernel
theorem dJ7_copyOf_59c91_20 : decode cJ7_copyOf_59c91 20 = .ok (.aload_n 2, 1) := by decide +kernel
theorem dJ7_copyOf_59c91_21 : decode cJ7_copyOf_59c91 21 = .ok (.iconst 0, 1) := by decide +kernel
theorem dJ7_copyOf_59c91_22 : decode cJ7_copyOf_59c91 22 = .ok (.aload_n 0, 1) := by decide +kernel
theorem dJ7_copyOf_59c91_23 : decode cJ7_copyOf_59c91 23 = .ok (.arraylength, 1) := by decide +kernel
theorem dJ7_copyOf_59c91_24 : decode cJ7_copyOf_59c91 24 = .ok (.iload_n 1, 1) := by decide +kernel
theorem dJ7_copyOf_59c91_25 : decode cJ7_copyOf_59c91 25 = .ok (.invokestatic 304, 3) := by decide +kernel
theorem dJ7_copyOf_59c91_28 : decode cJ7_copyOf_59c91 28 = .ok (.invokestatic 150, 3) := by decide +kernel
theorem dJ7_copyOf_59c91_31 : decode cJ7_copyOf_59c91 31 = .ok (.aload_n 2, 1) := by decide +kernel
theorem dJ7_copyOf_59c91_32 : decode cJ7_copyOf_59c91 32 = .ok (.areturn, 1) := by decide +kernel
theorem dJ7_copyOf_c38d5_0 : decode cJ7_copyOf_c38d5 0 = .ok (.iload_n 1, 1) := by decide +kernel
theorem dJ7_copyOf_c38d5_1 : decode cJ7_copyOf_c38d5 1 = .ok (.aload_n 0, 1) := by decide +kernel
theorem dJ7_copyOf_c38d5_2 : decode cJ7_copyOf_c38d5 2 = .ok (.arraylength, 1) := by decide +kernel
theorem dJ7_copyOf_c38d5_3 : decode cJ7_copyOf_c38d5 3 = .ok (.if_icmp .ne 11, 3) := by decide +kernel
theorem dJ7_copyOf_c38d5_6 : decode cJ7_copyOf_c38d5 6 = .ok (.aload_n 0, 1) := by decide +kernel
theorem dJ7_copyOf_c38d5_7 : decode cJ7_copyOf_c38d5 7 = .ok (.invokevirtual 319, 3) := by decide +kernel
theorem dJ7_copyOf_c38d5_10 : decode cJ7_copyOf_c38d5 10 = .ok (.checkcast 320, 3) := by decide +kernel
theorem dJ7_copyOf_c38d5_13 : decode cJ7_copyOf_c38d5 13 = .ok (.areturn, 1) := by decide +kernel
theorem dJ7_copyOf_c38d5_14 : decode cJ7_copyOf_c38d5 14 = .ok (.iload_n 1, 1) := by decide +kernel
theorem dJ7_copyOf_c38d5_15 : decode cJ7_copyOf_c38d5 15 = .ok (.newarray .long, 2) := by decide +kernel
theorem dJ7_copyOf_c38d5_17 : decode cJ7_copyOf_c38d5 17 = .ok (.astore_n 2, 1) := by decide +kernel
theorem dJ7_copyOf_c38d5_18 : decode cJ7_copyOf_c38d5 18 = .ok (.aload_n 0, 1) := by decide +kernel
theorem dJ7_copyOf_c38d5_19 : decode cJ7_copyOf_c38d5 19 = .ok (.iconst 0, 1) := by decide +kernel
theorem dJ7_copyOf_c38d5_20 : decode cJ7_copyOf_c38d5 20 = .ok (.aload_n 2, 1) := by decide +kernel
theorem dJ7_copyOf_c38d5_21 : decode cJ7_copyOf_c38d5 21 = .ok (.iconst 0, 1) := by decide +kernel
theorem dJ7_copyOf_c38d5_22 : decode cJ7_copyOf_c38d5 22 = .ok (.aload_n 0, 1) := by decide +kernel
theorem dJ7_copyOf_c38d5_23 : decode cJ7_copyOf_c38d5 23 = .ok (.arraylength, 1) := by decide +kernel
theorem dJ7_copyOf_c38d5_24 : decode cJ7_copyOf_c38d5 24 = .ok (.iload_n 1, 1) := by decide +kernel
theorem dJ7_copyOf_c38d5_25 : decode cJ7_copyOf_c38d5 25 = .ok (.invokestatic 304, 3) := by decide +kernel
theorem dJ7_copyOf_c38d5_28 : decode cJ7_copyOf_c38d5 28 = .ok (.invokestatic 150, 3) := by decide +kernel
theorem dJ7_copyOf_c38d5_31 : decode cJ7_copyOf_c38d5 31 = .ok (.aload_n 2, 1) := by decide +kernel
theorem dJ7_copyOf_c38d5_32 : decode cJ7_copyOf_c38d5 32 = .ok (.areturn, 1) := by decide +kernel
theorem dL_row_0 : decode cL_row 0 = .ok (.aload_n 2, 1) := by decide +kernel
theorem dL_row_1 : decode cL_row 1 = .ok (.iconst 0, 1) := by decide +kernel
theorem dL_row_2 : decode cL_row 2 = .ok (.aload_n 0, 1) := by decide +kernel
theorem dL_row_3 : decode cL_row 3 = .ok (.iload_n 1, 1) := by decide +kernel
theorem dL_row_4 : decode cL_row 4 = .ok (.invokevirtual 7, 3) := by decide +kernel
theorem dL_row_7 : decode cL_row 7 = .ok (.lastore, 1) := by decide +kernel
theorem dL_row_8 : decode cL_row 8 = .ok (.goto 6, 3) := by decide +kernel
theorem dL_row_11 : decode cL_row 11 = .ok (.astore_n 3, 1) := by decide +kernel
theorem dL_row_12 : decode cL_row 12 = .ok (.iconst 1, 1) := by decide +kernel
theorem dL_row_13 : decode cL_row 13 = .ok (.ireturn, 1) := by decide +kernel
theorem dL_row_14 : decode cL_row 14 = .ok (.iconst 0, 1) := by decide +kernel
theorem dL_row_15 : decode cL_row 15 = .ok (.ireturn, 1) := by decide +kernel
theorem dL_law_0 : decode cL_law 0 = .ok (.new 8, 3) := by decide +kernel
theorem dL_law_3 : decode cL_law 3 = .ok (.dup, 1) := by decide +kernel
theorem dL_law_4 : decode cL_law 4 = .ok (.invokespecial 15, 3) := by decide +kernel
theorem dL_law_7 : decode cL_law 7 = .ok (.astore_n 1, 1) := by decide +kernel
theorem dL_law_8 : decode cL_law 8 = .ok (.new 16, 3) := by decide +kernel
theorem dL_law_11 : decode cL_law 11 = .ok (.dup, 1) := by decide +kernel
theorem dL_law_12 : decode cL_law 12 = .ok (.invokespecial 18, 3) := by decide +kernel
theorem dL_law_15 : decode cL_law 15 = .ok (.astore_n 2, 1) := by decide +kernel
theorem dL_law_16 : decode cL_law 16 = .ok (.iconst 1, 1) := by decide +kernel
theorem dL_law_17 : decode cL_law 17 = .ok (.newarray .long, 2) := by decide +kernel
theorem dL_law_19 : decode cL_law 19 = .ok (.astore_n 3, 1) := by decide +kernel
theorem dL_law_20 : decode cL_law 20 = .ok (.iconst 0, 1) := by decide +kernel
theorem dL_law_21 : decode cL_law 21 = .ok (.istore 4, 2) := by decide +kernel
theorem dL_law_23 : decode cL_law 23 = .ok (.iload 4, 2) := by decide +kernel
theorem dL_law_25 : decode cL_law 25 = .ok (.aload_n 0, 1) := by decide +kernel
theorem dL_law_26 : decode cL_law 26 = .ok (.arraylength, 1) := by decide +kernel
theorem dL_law_27 : decode cL_law 27 = .ok (.bipush 7, 2) := by decide +kernel
theorem dL_law_29 : decode cL_law 29 = .ok (.isub, 1) := by decide +kernel
theorem dL_law_30 : decode cL_law 30 = .ok (.if_icmp .gt 2160, 3) := by decide +kernel
theorem dL_law_33 : decode cL_law 33 = .ok (.aload_n 0, 1) := by decide +kernel
theorem dL_law_34 : decode cL_law 34 = .ok (.iload 4, 2) := by decide +kernel
theorem dL_law_36 : decode cL_law 36 = .ok (.iaload, 1) := by decide +kernel
theorem dL_law_37 : decode cL_law 37 = .ok (.bipush 63, 2) := by decide +kernel
theorem dL_law_39 : decode cL_law 39 = .ok (.iand, 1) := by decide +kernel
theorem dL_law_40 : decode cL_law 40 = .ok (.tableswitch 2144 0 45 #[200, 225, 250, 287, 300, 349, 386, 447, 508, 557, 630, 691, 752, 801, 862, 949, 998, 1051, 1088, 1101, 1138, 1175, 1188, 1201, 1250, 1287, 1300, 1325, 1374, 1423, 1436, 1449, 1486, 1523, 1560, 1633, 1720, 1757, 1794, 1843, 1904, 1977, 2002, 2027, 2052, 2089], 200) := by decide +kernel
theorem dL_law_240 : decode cL_law 240 = .ok (.aload_n 1, 1) := by decide +kernel
theorem dL_law_241 : decode cL_law 241 = .ok (.aload_n 0, 1) := by decide +kernel
theorem dL_law_242 : decode cL_law 242 = .ok (.iload 4, 2) := by decide +kernel
theorem dL_law_244 : decode cL_law 244 = .ok (.iconst 1, 1) := by decide +kernel
theorem dL_law_245 : decode cL_law 245 = .ok (.iadd, 1) := by decide +kernel
theorem dL_law_246 : decode cL_law 246 = .ok (.iaload, 1) := by decide +kernel
theorem dL_law_247 : decode cL_law 247 = .ok (.invokevirtual 19, 3) := by decide +kernel
theorem dL_law_250 : decode cL_law 250 = .ok (.aload_n 2, 1) := by decide +kernel
theorem dL_law_251 : decode cL_law 251 = .ok (.aload_n 0, 1) := by decide +kernel
theorem dL_law_252 : decode cL_law 252 = .ok (.iload 4, 2) := by decide +kernel
theorem dL_law_254 : decode cL_law 254 = .ok (.iconst 1, 1) := by decide +kernel
theorem dL_law_255 : decode cL_law 255 = .ok (.iadd, 1) := by decide +kernel
theorem dL_law_256 : decode cL_law 256 = .ok (.iaload, 1) := by decide +kernel
theorem dL_law_257 : decode cL_law 257 = .ok (.invokevirtual 23, 3) := by decide +kernel
theorem dL_law_260 : decode cL_law 260 = .ok (.if_icmp .eq 1924, 3) := by decide +kernel
theorem dL_law_263 : decode cL_law 263 = .ok (.iconst 0, 1) := by decide +kernel
theorem dL_law_264 : decode cL_law 264 = .ok (.ireturn, 1) := by decide +kernel
theorem dL_law_265 : decode cL_law 265 = .ok (.aload_n 1, 1) := by decide +kernel
theorem dL_law_266 : decode cL_law 266 = .ok (.aload_n 0, 1) := by decide +kernel
theorem dL_law_267 : decode cL_law 267 = .ok (.iload 4, 2) := by decide +kernel
theorem dL_law_269 : decode cL_law 269 = .ok (.iconst 1, 1) := by decide +kernel
theorem dL_law_270 : decode cL_law 270 = .ok (.iadd, 1) := by decide +kernel
theorem dL_law_271 : decode cL_law 271 = .ok (.iaload, 1) := by decide +kernel
theorem dL_law_272 : decode cL_law 272 = .ok (.invokevirtual 24, 3) := by decide +kernel
theorem dL_law_275 : decode cL_law 275 = .ok (.aload_n 2, 1) := by decide +kernel
theorem dL_law_276 : decode cL_law 276 = .ok (.aload_n 0, 1) := by decide +kernel
theorem dL_law_277 : decode cL_law 277 = .ok (.iload 4, 2) := by decide +kernel
theorem dL_law_279 : decode cL_law 279 = .ok (.iconst 1, 1) := by decide +kernel
theorem dL_law_280 : decode cL_law 280 = .ok (.iadd, 1) := by decide +kernel
theorem dL_law_281 : decode cL_law 281 = .ok (.iaload, 1) := by decide +kernel
theorem dL_law_282 : decode cL_law 282 = .ok (.invokevirtual 28, 3) := by decide +kernel
theorem dL_law_285 : decode cL_law 285 = .ok (.if_icmp .eq 1899, 3) := by decide +kernel
theorem dL_law_288 : decode cL_law 288 = .ok (.iconst 0, 1) := by decide +kernel
theorem dL_law_289 : decode cL_law 289 = .ok (.ireturn, 1) := by decide +kernel
theorem dL_law_290 : decode cL_law 290 = .ok (.aload_n 1, 1) := by decide +kernel
theorem dL_law_291 : decode cL_law 291 = .ok (.aload_n 0, 1) := by decide +kernel
theorem dL_law_292 : decode cL_law 292 = .ok (.iload 4, 2) := by decide +kernel
theorem dL_law_294 : decode cL_law 294 = .ok (.iconst 1, 1) := by decide +kernel
theorem dL_law_295 : decode cL_law 295 = .ok (.iadd, 1) := by decide +kernel
theorem dL_law_296 : decode cL_law 296 = .ok (.iaload, 1) := by decide +kernel
theorem dL_law_297 : decode cL_law 297 = .ok (.aload_n 0, 1) := by decide +kernel
theorem dL_law_298 : decode cL_law 298 = .ok (.iload 4, 2) := by decide +kernel
theorem dL_law_300 : decode cL_law 300 = .ok (.iconst 2, 1) := by decide +kernel
theorem dL_law_301 : decode cL_law 301 = .ok (.iadd, 1) := by decide +kernel
theorem dL_law_302 : decode cL_law 302 = .ok (.iaload, 1) := by decide +kernel
theorem dL_law_303 : decode cL_law 303 = .ok (.invokevirtual 29, 3) := by decide +kernel
theorem dL_law_306 : decode cL_law 306 = .ok (.aload_n 2, 1) := by decide +kernel
theorem dL_law_307 : decode cL_law 307 = .ok (.aload_n 0, 1) := by decide +kernel
theorem dL_law_308 : decode cL_law 308 = .ok (.iload 4, 2) := by decide +kernel
theorem dL_law_310 : decode cL_law 310 = .ok (.iconst 1, 1) := by decide +kernel
theorem dL_law_311 : decode cL_law 311 = .ok (.iadd, 1) := by decide +kernel
theorem dL_law_312 : decode cL_law 312 = .ok (.iaload, 1) := by decide +kernel
theorem dL_law_313 : decode cL_law 313 = .ok (.aload_n 0, 1) := by decide +kernel
theorem dL_law_314 : decode cL_law 314 = .ok (.iload 4, 2) := by decide +kernel
theorem dL_law_316 : decode cL_law 316 = .ok (.iconst 2, 1) := by decide +kernel
theorem dL_law_317 : decode cL_law 317 = .ok (.iadd, 1) := by decide +kernel
theorem dL_law_318 : decode cL_law 318 = .ok (.iaload, 1) := by decide +kernel
theorem dL_law_319 : decode cL_law 319 = .ok (.invokevirtual 33, 3) := by decide +kernel
theorem dL_law_322 : decode cL_law 322 = .ok (.if_icmp .eq 1862, 3) := by decide +kernel
theorem dL_law_325 : decode cL_law 325 = .ok (.iconst 0, 1) := by decide +kernel
theorem dL_law_326 : decode cL_law 326 = .ok (.ireturn, 1) := by decide +kernel
theorem dL_law_327 : decode cL_law 327 = .ok (.aload_n 1, 1) := by decide +kernel
theorem dL_law_328 : decode cL_law 328 = .ok (.invokevirtual 34, 3) := by decide +kernel
theorem dL_law_331 : decode cL_law 331 = .ok (.aload_n 2, 1) := by decide +kernel
theorem dL_law_332 : decode cL_law 332 = .ok (.invokevirtual 38, 3) := by decide +kernel
theorem dL_law_335 : decode cL_law 335 = .ok (.if_icmp .eq 1849, 3) := by decide +kernel
theorem dL_law_338 : decode cL_law 338 = .ok (.iconst 0, 1) := by decide +kernel
theorem dL_law_339 : decode cL_law 339 = .ok (.ireturn, 1) := by decide +kernel
theorem dL_law_340 : decode cL_law 340 = .ok (.aload_n 1, 1) := by decide +kernel
theorem dL_law_341 : decode cL_law 341 = .ok (.aload_n 0, 1) := by decide +kernel
theorem dL_law_342 : decode cL_law 342 = .ok (.iload 4, 2) := by decide +kernel
theorem dL_law_344 : decode cL_law 344 = .ok (.iconst 1, 1) := by decide +kernel
theorem dL_law_345 : decode cL_law 345 = .ok (.iadd, 1) := by decide +kernel
theorem dL_law_346 : decode cL_law 346 = .ok (.iaload, 1) := by decide +kernel
theorem dL_law_347 : decode cL_law 347 = .ok (.aload_n 0, 1) := by decide +kernel
theorem dL_law_348 : decode cL_law 348 = .ok (.iload 4, 2) := by decide +kernel
theorem dL_law_350 : decode cL_law 350 = .ok (.iconst 2, 1) := by decide +kernel
theorem dL_law_351 : decode cL_law 351 = .ok (.iadd, 1) := by decide +kernel
theorem dL_law_352 : decode cL_law 352 = .ok (.iaload, 1) := by decide +kernel
theorem dL_law_353 : decode cL_law 353 = .ok (.aload_n 0, 1) := by decide +kernel
theorem dL_law_354 : decode cL_law 354 = .ok (.iload 4, 2) := by decide +kernel
theorem dL_law_356 : decode cL_law 356 = .ok (.iconst 3, 1) := by decide +kernel
theorem dL_law_357 : decode cL_law 357 = .ok (.iadd, 1) := by decide +kernel
theorem dL_law_358 : decode cL_law 358 = .ok (.iaload, 1) := by decide +kernel
theorem dL_law_359 : decode cL_law 359 = .ok (.invokevirtual 39, 3) := by decide +kernel
theorem dL_law_362 : decode cL_law 362 = .ok (.aload_n 2, 1) := by decide +kernel
theorem dL_law_363 : decode cL_law 363 = .ok (.aload_n 0, 1) := by decide +kernel
theorem dL_law_364 : decode cL_law 364 = .ok (.iload 4, 2) := by decide +kernel
theorem dL_law_366 : decode cL_law 366 = .ok (.iconst 1, 1) := by decide +kernel
theorem dL_law_367 : decode cL_law 367 = .ok (.iadd, 1) := by decide +kernel
theorem dL_law_368 : decode cL_law 368 = .ok (.iaload, 1) := by decide +kernel
theorem dL_law_369 : decode cL_law 369 = .ok (.aload_n 0, 1) := by decide +kernel
theorem dL_law_370 : decode cL_law 370 = .ok (.iload 4, 2) := by decide +kernel
theorem dL_law_372 : decode cL_law 372 = .ok (.iconst 2, 1) := by decide +kernel
theorem dL_law_373 : decode cL_law 373 = .ok (.iadd, 1) := by decide +kernel
theorem dL_law_374 : decode cL_law 374 = .ok (.iaload, 1) := by decide +kernel
theorem dL_law_375 : decode cL_law 375 = .ok (.aload_n 0, 1) := by decide +kernel
theorem dL_law_376 : decode cL_law 376 = .ok (.iload 4, 2) := by decide +kernel
theorem dL_law_378 : decode cL_law 378 = .ok (.iconst 3, 1) := by decide +kernel
theorem dL_law_379 : decode cL_law 379 = .ok (.iadd, 1) := by decide +kernel
theorem dL_law_380 : decode cL_law 380 = .ok (.iaload, 1) := by decide +kernel
theorem dL_law_381 : decode cL_law 381 = .ok (.invokevirtual 43, 3) := by decide +kernel
theorem dL_law_384 : decode cL_law 384 = .ok (.if_icmp .eq 1800, 3) := by decide +kernel
theorem dL_law_387 : decode cL_law 387 = .ok (.iconst 0, 1) := by decide +kernel
theorem dL_law_388 : decode cL_law 388 = .ok (.ireturn, 1) := by decide +kernel
theorem dL_law_389 : decode cL_law 389 = .ok (.aload_n 1, 1) := by decide +kernel
theorem dL_law_390 : decode cL_law 390 = .ok (.aload_n 0, 1) := by decide +kernel
theorem dL_law_391 : decode cL_law 391 = .ok (.iload 4, 2) := by decide +kernel
theorem dL_law_393 : decode cL_law 393 = .ok (.iconst 1, 1) := by decide +kernel
theorem dL_law_394 : decode cL_law 394 = .ok (.iadd, 1) := by decide +kernel
theorem dL_law_395 : decode cL_law 395 = .ok (.iaload, 1) := by decide +kernel
theorem dL_law_396 : decode cL_law 396 = .ok (.aload_n 0, 1) := by decide +kernel
theorem dL_law_397 : decode cL_law 397 = .ok (.iload 4, 2) := by decide +kernel
theorem dL_law_399 : decode cL_law 399 = .ok (.iconst 2, 1) := by decide +kernel
theorem dL_law_400 : decode cL_law 400 = .ok (.iadd, 1) := by decide +kernel
theorem dL_law_401 : decode cL_law 401 = .ok (.iaload, 1) := by decide +kernel
theorem dL_law_402 : decode cL_law 402 = .ok (.invokevirtual 44, 3) := by decide +kernel
theorem dL_law_405 : decode cL_law 405 = .ok (.aload_n 2, 1) := by decide +kernel
theorem dL_law_406 : decode cL_law 406 = .ok (.aload_n 0, 1) := by decide +kernel
theorem dL_law_407 : decode cL_law 407 = .ok (.iload 4, 2) := by decide +kernel
theorem dL_law_409 : decode cL_law 409 = .ok (.iconst 1, 1) := by decide +kernel
theorem dL_law_410 : decode cL_law 410 = .ok (.iadd, 1) := by decide +kernel
theorem dL_law_411 : decode cL_law 411 = .ok (.iaload, 1) := by decide +kernel
theorem dL_law_412 : decode cL_law 412 = .ok (.aload_n 0, 1) := by decide +kernel
theorem dL_law_413 : decode cL_law 413 = .ok (.iload 4, 2) := by decide +kernel
theorem dL_law_415 : decode cL_law 415 = .ok (.iconst 2, 1) := by decide +kernel
theorem dL_law_416 : decode cL_law 416 = .ok (.iadd, 1) := by decide +kernel
theorem dL_law_417 : decode cL_law 417 = .ok (.iaload, 1) := by decide +kernel
theorem dL_law_418 : decode cL_law 418 = .ok (.invokevirtual 47, 3) := by decide +kernel
theorem dL_law_421 : decode cL_law 421 = .ok (.if_icmp .eq 1763, 3) := by decide +kernel
theorem dL_law_424 : decode cL_law 424 = .ok (.iconst 0, 1) := by decide +kernel
theorem dL_law_425 : decode cL_law 425 = .ok (.ireturn, 1) := by decide +kernel
theorem dL_law_426 : decode cL_law 426 = .ok (.aload_n 1, 1) := by decide +kernel
theorem dL_law_427 : decode cL_law 427 = .ok (.aload_n 0, 1) := by decide +kernel
theorem dL_law_428 : decode cL_law 428 = .ok (.iload 4, 2) := by decide +kernel
theorem dL_law_430 : decode cL_law 430 = .ok (.iconst 1, 1) := by decide +kernel
theorem dL_law_431 : decode cL_law 431 = .ok (.iadd, 1) := by decide +kernel
theorem dL_law_432 : decode cL_law 432 = .ok (.iaload, 1) := by decide +kernel
theorem dL_law_433 : decode cL_law 433 = .ok (.aload_n 0, 1) := by decide +kernel
theorem dL_law_434 : decode cL_law 434 = .ok (.iload 4, 2) := by decide +kernel
theorem dL_law_436 : decode cL_law 436 = .ok (.iconst 2, 1) := by decide +kernel
theorem dL_law_437 : decode cL_law 437 = .ok (.iadd, 1) := by decide +kernel
theorem dL_law_438 : decode cL_law 438 = .ok (.iaload, 1) := by decide +kernel
theorem dL_law_439 : decode cL_law 439 = .ok (.aload_n 0, 1) := by decide +kernel
theorem dL_law_440 : decode cL_law 440 = .ok (.iload 4, 2) := by decide +kernel
theorem dL_law_442 : decode cL_law 442 = .ok (.iconst 3, 1) := by decide +kernel
theorem dL_law_443 : decode cL_law 443 = .ok (.iadd, 1) := by decide +kernel
theorem dL_law_444 : decode cL_law 444 = .ok (.iaload, 1) := by decide +kernel
theorem dL_law_445 : decode cL_law 445 = .ok (.aload_n 0, 1) := by decide +kernel
theorem dL_law_446 : decode cL_law 446 = .ok (.iload 4, 2) := by decide +kernel
theorem dL_law_448 : decode cL_law 448 = .ok (.iconst 4, 1) := by decide +kernel
theorem dL_law_449 : decode cL_law 449 = .ok (.iadd, 1) := by decide +kernel
theorem dL_law_450 : decode cL_law 450 = .ok (.iaload, 1) := by decide +kernel
theorem dL_law_451 : decode cL_law 451 = .ok (.invokevirtual 48, 3) := by decide +kernel
theorem dL_law_454 : decode cL_law 454 = .ok (.aload_n 2, 1) := by decide +kernel
theorem dL_law_455 : decode cL_law 455 = .ok (.aload_n 0, 1) := by decide +kernel
theorem dL_law_456 : decode cL_law 456 = .ok (.iload 4, 2) := by decide +kernel
theorem dL_law_458 : decode cL_law 458 = .ok (.iconst 1, 1) := by decide +kernel
theorem dL_law_459 : decode cL_law 459 = .ok (.iadd, 1) := by decide +kernel
theorem dL_law_460 : decode cL_law 460 = .ok (.iaload, 1) := by decide +kernel
theorem dL_law_461 : decode cL_law 461 = .ok (.aload_n 0, 1) := by decide +kernel
theorem dL_law_462 : decode cL_law 462 = .ok (.iload 4, 2) := by decide +kernel
theorem dL_law_464 : decode cL_law 464 = .ok (.iconst 2, 1) := by decide +kernel
theorem dL_law_465 : decode cL_law 465 = .ok (.iadd, 1) := by decide +kernel
theorem dL_law_466 : decode cL_law 466 = .ok (.iaload, 1) := by decide +kernel
theorem dL_law_467 : decode cL_law 467 = .ok (.aload_n 0, 1) := by decide +kernel
theorem dL_law_468 : decode cL_law 468 = .ok (.iload 4, 2) := by decide +kernel
theorem dL_law_470 : decode cL_law 470 = .ok (.iconst 3, 1) := by decide +kernel
theorem dL_law_471 : decode cL_law 471 = .ok (.iadd, 1) := by decide +kernel
theorem dL_law_472 : decode cL_law 472 = .ok (.iaload, 1) := by decide +kernel
theorem dL_law_473 : decode cL_law 473 = .ok (.aload_n 0, 1) := by decide +kernel
theorem dL_law_474 : decode cL_law 474 = .ok (.iload 4, 2) := by decide +kernel
theorem dL_law_476 : decode cL_law 476 = .ok (.iconst 4, 1) := by decide +kernel
theorem dL_law_477 : decode cL_law 477 = .ok (.iadd, 1) := by decide +kernel
theorem dL_law_478 : decode cL_law 478 = .ok (.iaload, 1) := by decide +kernel
theorem dL_law_479 : decode cL_law 479 = .ok (.invokevirtual 52, 3) := by decide +kernel
theorem dL_law_482 : decode cL_law 482 = .ok (.if_icmp .eq 1702, 3) := by decide +kernel
theorem dL_law_485 : decode cL_law 485 = .ok (.iconst 0, 1) := by decide +kernel
theorem dL_law_486 : decode cL_law 486 = .ok (.ireturn, 1) := by decide +kernel
theorem dL_law_487 : decode cL_law 487 = .ok (.aload_n 1, 1) := by decide +kernel
theorem dL_law_488 : decode cL_law 488 = .ok (.aload_n 0, 1) := by decide +kernel
theorem dL_law_489 : decode cL_law 489 = .ok (.iload 4, 2) := by decide +kernel
theorem dL_law_491 : decode cL_law 491 = .ok (.iconst 1, 1) := by decide +kernel
theorem dL_law_492 : decode cL_law 492 = .ok (.iadd, 1) := by decide +kernel
theorem dL_law_493 : decode cL_law 493 = .ok (.iaload, 1) := by decide +kernel
theorem dL_law_494 : decode cL_law 494 = .ok (.aload_n 0, 1) := by decide +kernel
theorem dL_law_495 : decode cL_law 495 = .ok (.iload 4, 2) := by decide +kernel
theorem dL_law_497 : decode cL_law 497 = .ok (.iconst 2, 1) := by decide +kernel
theorem dL_law_498 : decode cL_law 498 = .ok (.iadd, 1) := by decide +kernel
theorem dL_law_499 : decode cL_law 499 = .ok (.iaload, 1) := by decide +kernel
theorem dL_law_500 : decode cL_law 500 = .ok (.aload_n 0, 1) := by decide +kernel
theorem dL_law_501 : decode cL_law 501 = .ok (.iload 4, 2) := by decide +kernel
theorem dL_law_503 : decode cL_law 503 = .ok (.iconst 3, 1) := by decide +kernel
theorem dL_law_504 : decode cL_law 504 = .ok (.iadd, 1) := by decide +kernel
theorem dL_law_505 : decode cL_law 505 = .ok (.iaload, 1) := by decide +kernel
theorem dL_law_506 : decode cL_law 506 = .ok (.aload_n 0, 1) := by decide +kernel
theorem dL_law_507 : decode cL_law 507 = .ok (.iload 4, 2) := by decide +kernel
theorem dL_law_509 : decode cL_law 509 = .ok (.iconst 4, 1) := by decide +kernel
theorem dL_law_510 : decode cL_law 510 = .ok (.iadd, 1) := by decide +kernel
theorem dL_law_511 : decode cL_law 511 = .ok (.iaload, 1) := by decide +kernel
theorem dL_law_512 : decode cL_law 512 = .ok (.invokevirtual 53, 3) := by decide +kernel
theorem dL_law_515 : decode cL_law 515 = .ok (.aload_n 2, 1) := by decide +kernel
theorem dL_law_516 : decode cL_law 516 = .ok (.aload_n 0, 1) := by decide +kernel
theorem dL_law_517 : decode cL_law 517 = .ok (.iload 4, 2) := by decide +kernel
theorem dL_law_519 : decode cL_law 519 = .ok (.iconst 1, 1) := by decide +kernel
theorem dL_law_520 : decode cL_law 520 = .ok (.iadd, 1) := by decide +kernel
theorem dL_law_521 : decode cL_law 521 = .ok (.iaload, 1) := by decide +kernel
theorem dL_law_522 : decode cL_law 522 = .ok (.aload_n 0, 1) := by decide +kernel
theorem dL_law_523 : decode cL_law 523 = .ok (.iload 4, 2) := by decide +kernel
theorem dL_law_525 : decode cL_law 525 = .ok (.iconst 2, 1) := by decide +kernel
theorem dL_law_526 : decode cL_law 526 = .ok (.iadd, 1) := by decide +kernel
theorem dL_law_527 : decode cL_law 527 = .ok (.iaload, 1) := by decide +kernel
theorem dL_law_528 : decode cL_law 528 = .ok (.aload_n 0, 1) := by decide +kernel
theorem dL_law_529 : decode cL_law 529 = .ok (.iload 4, 2) := by decide +kernel
theorem dL_law_531 : decode cL_law 531 = .ok (.iconst 3, 1) := by decide +kernel
theorem dL_law_532 : decode cL_law 532 = .ok (.iadd, 1) := by decide +kernel
theorem dL_law_533 : decode cL_law 533 = .ok (.iaload, 1) := by decide +kernel
theorem dL_law_534 : decode cL_law 534 = .ok (.aload_n 0, 1) := by decide +kernel
theorem dL_law_535 : decode cL_law 535 = .ok (.iload 4, 2) := by decide +kernel
theorem dL_law_537 : decode cL_law 537 = .ok (.iconst 4, 1) := by decide +kernel
theorem dL_law_538 : decode cL_law 538 = .ok (.iadd, 1) := by decide +kernel
theorem dL_law_539 : decode cL_law 539 = .ok (.iaload, 1) := by decide +kernel
theorem dL_law_540 : decode cL_law 540 = .ok (.invokevirtual 56, 3) := by decide +kernel
theorem dL_law_543 : decode cL_law 543 = .ok (.if_icmp .eq 1641, 3) := by decide +kernel
theorem dL_law_546 : decode cL_law 546 = .ok (.iconst 0, 1) := by decide +kernel
theorem dL_law_547 : decode cL_law 547 = .ok (.ireturn, 1) := by decide +kernel
theorem dL_law_548 : decode cL_law 548 = .ok (.aload_n 1, 1) := by decide +kernel
