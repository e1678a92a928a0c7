theorem dX11_alike_44 : decode cX11_alike 44 = .ok (.aload_n 0, 1) := by decide +kernel
theorem dX11_alike_45 : decode cX11_alike 45 = .ok (.getfield 26, 3) := by decide +kernel
theorem dX11_alike_48 : decode cX11_alike 48 = .ok (.iload 6, 2) := by decide +kernel
theorem dX11_alike_50 : decode cX11_alike 50 = .ok (.iload_n 1, 1) := by decide +kernel
theorem dX11_alike_51 : decode cX11_alike 51 = .ok (.invokevirtual 198, 3) := by decide +kernel
theorem dX11_alike_54 : decode cX11_alike 54 = .ok (.aload_n 0, 1) := by decide +kernel
theorem dX11_alike_55 : decode cX11_alike 55 = .ok (.getfield 26, 3) := by decide +kernel
theorem dX11_alike_58 : decode cX11_alike 58 = .ok (.iload 6, 2) := by decide +kernel
theorem dX11_alike_60 : decode cX11_alike 60 = .ok (.iload_n 2, 1) := by decide +kernel
theorem dX11_alike_61 : decode cX11_alike 61 = .ok (.invokevirtual 198, 3) := by decide +kernel
theorem dX11_alike_64 : decode cX11_alike 64 = .ok (.lcmp, 1) := by decide +kernel
theorem dX11_alike_65 : decode cX11_alike 65 = .ok (.ifCond .ne 5, 3) := by decide +kernel
theorem dX11_alike_68 : decode cX11_alike 68 = .ok (.iconst 2, 1) := by decide +kernel
theorem dX11_alike_69 : decode cX11_alike 69 = .ok (.ireturn, 1) := by decide +kernel
theorem dX11_alike_70 : decode cX11_alike 70 = .ok (.aload_n 0, 1) := by decide +kernel
theorem dX11_alike_71 : decode cX11_alike 71 = .ok (.getfield 26, 3) := by decide +kernel
theorem dX11_alike_74 : decode cX11_alike 74 = .ok (.iload 6, 2) := by decide +kernel
theorem dX11_alike_76 : decode cX11_alike 76 = .ok (.iload_n 1, 1) := by decide +kernel
theorem dX11_alike_77 : decode cX11_alike 77 = .ok (.iload_n 2, 1) := by decide +kernel
theorem dX11_alike_78 : decode cX11_alike 78 = .ok (.invokevirtual 225, 3) := by decide +kernel
theorem dX11_alike_81 : decode cX11_alike 81 = .ok (.ifCond .eq 7, 3) := by decide +kernel
theorem dX11_alike_84 : decode cX11_alike 84 = .ok (.iconst 1, 1) := by decide +kernel
theorem dX11_alike_85 : decode cX11_alike 85 = .ok (.goto 4, 3) := by decide +kernel
theorem dX11_alike_88 : decode cX11_alike 88 = .ok (.iconst 0, 1) := by decide +kernel
theorem dX11_alike_89 : decode cX11_alike 89 = .ok (.ireturn, 1) := by decide +kernel
theorem dX11_one_0 : decode cX11_one 0 = .ok (.aload_n 0, 1) := by decide +kernel
theorem dX11_one_1 : decode cX11_one 1 = .ok (.iload_n 1, 1) := by decide +kernel
theorem dX11_one_2 : decode cX11_one 2 = .ok (.invokevirtual 185, 3) := by decide +kernel
theorem dX11_one_5 : decode cX11_one 5 = .ok (.ifCond .eq 27, 3) := by decide +kernel
theorem dX11_one_8 : decode cX11_one 8 = .ok (.aload_n 0, 1) := by decide +kernel
theorem dX11_one_9 : decode cX11_one 9 = .ok (.iload_n 2, 1) := by decide +kernel
theorem dX11_one_10 : decode cX11_one 10 = .ok (.invokevirtual 185, 3) := by decide +kernel
theorem dX11_one_13 : decode cX11_one 13 = .ok (.ifCond .eq 19, 3) := by decide +kernel
theorem dX11_one_16 : decode cX11_one 16 = .ok (.aload_n 0, 1) := by decide +kernel
theorem dX11_one_17 : decode cX11_one 17 = .ok (.iload_n 3, 1) := by decide +kernel
theorem dX11_one_18 : decode cX11_one 18 = .ok (.invokevirtual 218, 3) := by decide +kernel
theorem dX11_one_21 : decode cX11_one 21 = .ok (.ifCond .eq 11, 3) := by decide +kernel
theorem dX11_one_24 : decode cX11_one 24 = .ok (.iload 4, 2) := by decide +kernel
theorem dX11_one_26 : decode cX11_one 26 = .ok (.invokestatic 163, 3) := by decide +kernel
theorem dX11_one_29 : decode cX11_one 29 = .ok (.ifCond .ne 5, 3) := by decide +kernel
theorem dX11_one_32 : decode cX11_one 32 = .ok (.iconst (-1), 1) := by decide +kernel
theorem dX11_one_33 : decode cX11_one 33 = .ok (.ireturn, 1) := by decide +kernel
theorem dX11_one_34 : decode cX11_one 34 = .ok (.aload_n 0, 1) := by decide +kernel
theorem dX11_one_35 : decode cX11_one 35 = .ok (.getfield 19, 3) := by decide +kernel
theorem dX11_one_38 : decode cX11_one 38 = .ok (.invokevirtual 192, 3) := by decide +kernel
theorem dX11_one_41 : decode cX11_one 41 = .ok (.iconst 0, 1) := by decide +kernel
theorem dX11_one_42 : decode cX11_one 42 = .ok (.istore 5, 2) := by decide +kernel
theorem dX11_one_44 : decode cX11_one 44 = .ok (.iconst (-1), 1) := by decide +kernel
theorem dX11_one_45 : decode cX11_one 45 = .ok (.istore 6, 2) := by decide +kernel
theorem dX11_one_47 : decode cX11_one 47 = .ok (.iconst 0, 1) := by decide +kernel
theorem dX11_one_48 : decode cX11_one 48 = .ok (.istore 7, 2) := by decide +kernel
theorem dX11_one_50 : decode cX11_one 50 = .ok (.iload 7, 2) := by decide +kernel
theorem dX11_one_52 : decode cX11_one 52 = .ok (.aload_n 0, 1) := by decide +kernel
theorem dX11_one_53 : decode cX11_one 53 = .ok (.getfield 26, 3) := by decide +kernel
theorem dX11_one_56 : decode cX11_one 56 = .ok (.getfield 138, 3) := by decide +kernel
theorem dX11_one_59 : decode cX11_one 59 = .ok (.if_icmp .gt 113, 3) := by decide +kernel
theorem dX11_one_62 : decode cX11_one 62 = .ok (.aload_n 0, 1) := by decide +kernel
theorem dX11_one_63 : decode cX11_one 63 = .ok (.getfield 35, 3) := by decide +kernel
theorem dX11_one_66 : decode cX11_one 66 = .ok (.iload_n 3, 1) := by decide +kernel
theorem dX11_one_67 : decode cX11_one 67 = .ok (.iload 7, 2) := by decide +kernel
theorem dX11_one_69 : decode cX11_one 69 = .ok (.iload 4, 2) := by decide +kernel
theorem dX11_one_71 : decode cX11_one 71 = .ok (.invokevirtual 221, 3) := by decide +kernel
theorem dX11_one_74 : decode cX11_one 74 = .ok (.istore 8, 2) := by decide +kernel
theorem dX11_one_76 : decode cX11_one 76 = .ok (.aload_n 0, 1) := by decide +kernel
theorem dX11_one_77 : decode cX11_one 77 = .ok (.getfield 35, 3) := by decide +kernel
theorem dX11_one_80 : decode cX11_one 80 = .ok (.iload_n 3, 1) := by decide +kernel
theorem dX11_one_81 : decode cX11_one 81 = .ok (.iload 8, 2) := by decide +kernel
theorem dX11_one_83 : decode cX11_one 83 = .ok (.iload 4, 2) := by decide +kernel
theorem dX11_one_85 : decode cX11_one 85 = .ok (.invokevirtual 195, 3) := by decide +kernel
theorem dX11_one_88 : decode cX11_one 88 = .ok (.istore 9, 2) := by decide +kernel
theorem dX11_one_90 : decode cX11_one 90 = .ok (.aload_n 0, 1) := by decide +kernel
theorem dX11_one_91 : decode cX11_one 91 = .ok (.getfield 26, 3) := by decide +kernel
theorem dX11_one_94 : decode cX11_one 94 = .ok (.iload 9, 2) := by decide +kernel
theorem dX11_one_96 : decode cX11_one 96 = .ok (.iload_n 1, 1) := by decide +kernel
theorem dX11_one_97 : decode cX11_one 97 = .ok (.invokevirtual 198, 3) := by decide +kernel
theorem dX11_one_100 : decode cX11_one 100 = .ok (.aload_n 0, 1) := by decide +kernel
theorem dX11_one_101 : decode cX11_one 101 = .ok (.getfield 26, 3) := by decide +kernel
theorem dX11_one_104 : decode cX11_one 104 = .ok (.iload 9, 2) := by decide +kernel
theorem dX11_one_106 : decode cX11_one 106 = .ok (.iload_n 2, 1) := by decide +kernel
theorem dX11_one_107 : decode cX11_one 107 = .ok (.invokevirtual 198, 3) := by decide +kernel
theorem dX11_one_110 : decode cX11_one 110 = .ok (.lcmp, 1) := by decide +kernel
theorem dX11_one_111 : decode cX11_one 111 = .ok (.ifCond .ne 7, 3) := by decide +kernel
theorem dX11_one_114 : decode cX11_one 114 = .ok (.iconst 1, 1) := by decide +kernel
theorem dX11_one_115 : decode cX11_one 115 = .ok (.goto 4, 3) := by decide +kernel
theorem dX11_one_118 : decode cX11_one 118 = .ok (.iconst 0, 1) := by decide +kernel
theorem dX11_one_119 : decode cX11_one 119 = .ok (.istore 10, 2) := by decide +kernel
theorem dX11_one_121 : decode cX11_one 121 = .ok (.iload 10, 2) := by decide +kernel
theorem dX11_one_123 : decode cX11_one 123 = .ok (.ifCond .eq 19, 3) := by decide +kernel
theorem dX11_one_126 : decode cX11_one 126 = .ok (.iload 6, 2) := by decide +kernel
theorem dX11_one_128 : decode cX11_one 128 = .ok (.iconst (-1), 1) := by decide +kernel
theorem dX11_one_129 : decode cX11_one 129 = .ok (.if_icmp .ne 13, 3) := by decide +kernel
theorem dX11_one_132 : decode cX11_one 132 = .ok (.iload 8, 2) := by decide +kernel
theorem dX11_one_134 : decode cX11_one 134 = .ok (.istore 6, 2) := by decide +kernel
theorem dX11_one_136 : decode cX11_one 136 = .ok (.iinc 5 1, 3) := by decide +kernel
theorem dX11_one_139 : decode cX11_one 139 = .ok (.goto 27, 3) := by decide +kernel
theorem dX11_one_142 : decode cX11_one 142 = .ok (.iload 10, 2) := by decide +kernel
theorem dX11_one_144 : decode cX11_one 144 = .ok (.ifCond .ne 22, 3) := by decide +kernel
theorem dX11_one_147 : decode cX11_one 147 = .ok (.iload 6, 2) := by decide +kernel
theorem dX11_one_149 : decode cX11_one 149 = .ok (.iconst (-1), 1) := by decide +kernel
theorem dX11_one_150 : decode cX11_one 150 = .ok (.if_icmp .eq 16, 3) := by decide +kernel
theorem dX11_one_153 : decode cX11_one 153 = .ok (.aload_n 0, 1) := by decide +kernel
theorem dX11_one_154 : decode cX11_one 154 = .ok (.iload 6, 2) := by decide +kernel
theorem dX11_one_156 : decode cX11_one 156 = .ok (.iload 8, 2) := by decide +kernel
theorem dX11_one_158 : decode cX11_one 158 = .ok (.iconst 1, 1) := by decide +kernel
theorem dX11_one_159 : decode cX11_one 159 = .ok (.isub, 1) := by decide +kernel
theorem dX11_one_160 : decode cX11_one 160 = .ok (.invokevirtual 228, 3) := by decide +kernel
theorem dX11_one_163 : decode cX11_one 163 = .ok (.iconst (-1), 1) := by decide +kernel
theorem dX11_one_164 : decode cX11_one 164 = .ok (.istore 6, 2) := by decide +kernel
theorem dX11_one_166 : decode cX11_one 166 = .ok (.iinc 7 1, 3) := by decide +kernel
theorem dX11_one_169 : decode cX11_one 169 = .ok (.goto (-119), 3) := by decide +kernel
theorem dX11_one_172 : decode cX11_one 172 = .ok (.iload 6, 2) := by decide +kernel
theorem dX11_one_174 : decode cX11_one 174 = .ok (.iconst (-1), 1) := by decide +kernel
theorem dX11_one_175 : decode cX11_one 175 = .ok (.if_icmp .eq 12, 3) := by decide +kernel
theorem dX11_one_178 : decode cX11_one 178 = .ok (.aload_n 0, 1) := by decide +kernel
theorem dX11_one_179 : decode cX11_one 179 = .ok (.iload 6, 2) := by decide +kernel
theorem dX11_one_181 : decode cX11_one 181 = .ok (.sipush 600, 3) := by decide +kernel
theorem dX11_one_184 : decode cX11_one 184 = .ok (.invokevirtual 228, 3) := by decide +kernel
theorem dX11_one_187 : decode cX11_one 187 = .ok (.iload 5, 2) := by decide +kernel
theorem dX11_one_189 : decode cX11_one 189 = .ok (.ireturn, 1) := by decide +kernel
theorem dX11_tellSpan_0 : decode cX11_tellSpan 0 = .ok (.aload_n 0, 1) := by decide +kernel
theorem dX11_tellSpan_1 : decode cX11_tellSpan 1 = .ok (.getfield 19, 3) := by decide +kernel
theorem dX11_tellSpan_4 : decode cX11_tellSpan 4 = .ok (.iload_n 1, 1) := by decide +kernel
theorem dX11_tellSpan_5 : decode cX11_tellSpan 5 = .ok (.i2l, 1) := by decide +kernel
theorem dX11_tellSpan_6 : decode cX11_tellSpan 6 = .ok (.invokevirtual 214, 3) := by decide +kernel
theorem dX11_tellSpan_9 : decode cX11_tellSpan 9 = .ok (.aload_n 0, 1) := by decide +kernel
theorem dX11_tellSpan_10 : decode cX11_tellSpan 10 = .ok (.getfield 19, 3) := by decide +kernel
theorem dX11_tellSpan_13 : decode cX11_tellSpan 13 = .ok (.iload_n 2, 1) := by decide +kernel
theorem dX11_tellSpan_14 : decode cX11_tellSpan 14 = .ok (.i2l, 1) := by decide +kernel
theorem dX11_tellSpan_15 : decode cX11_tellSpan 15 = .ok (.invokevirtual 214, 3) := by decide +kernel
theorem dX11_tellSpan_18 : decode cX11_tellSpan 18 = .ok (.return_, 1) := by decide +kernel
theorem dX11_rhymes_0 : decode cX11_rhymes 0 = .ok (.aload_n 0, 1) := by decide +kernel
theorem dX11_rhymes_1 : decode cX11_rhymes 1 = .ok (.iload_n 1, 1) := by decide +kernel
theorem dX11_rhymes_2 : decode cX11_rhymes 2 = .ok (.invokevirtual 185, 3) := by decide +kernel
theorem dX11_rhymes_5 : decode cX11_rhymes 5 = .ok (.ifCond .eq 14, 3) := by decide +kernel
theorem dX11_rhymes_8 : decode cX11_rhymes 8 = .ok (.aload_n 0, 1) := by decide +kernel
theorem dX11_rhymes_9 : decode cX11_rhymes 9 = .ok (.iload_n 2, 1) := by decide +kernel
theorem dX11_rhymes_10 : decode cX11_rhymes 10 = .ok (.iload_n 3, 1) := by decide +kernel
theorem dX11_rhymes_11 : decode cX11_rhymes 11 = .ok (.iload 4, 2) := by decide +kernel
theorem dX11_rhymes_13 : decode cX11_rhymes 13 = .ok (.invokevirtual 188, 3) := by decide +kernel
theorem dX11_rhymes_16 : decode cX11_rhymes 16 = .ok (.ifCond .ne 5, 3) := by decide +kernel
theorem dX11_rhymes_19 : decode cX11_rhymes 19 = .ok (.iconst (-1), 1) := by decide +kernel
theorem dX11_rhymes_20 : decode cX11_rhymes 20 = .ok (.ireturn, 1) := by decide +kernel
theorem dX11_rhymes_21 : decode cX11_rhymes 21 = .ok (.aload_n 0, 1) := by decide +kernel
theorem dX11_rhymes_22 : decode cX11_rhymes 22 = .ok (.getfield 35, 3) := by decide +kernel
theorem dX11_rhymes_25 : decode cX11_rhymes 25 = .ok (.iload_n 2, 1) := by decide +kernel
theorem dX11_rhymes_26 : decode cX11_rhymes 26 = .ok (.iload_n 3, 1) := by decide +kernel
theorem dX11_rhymes_27 : decode cX11_rhymes 27 = .ok (.iload 4, 2) := by decide +kernel
theorem dX11_rhymes_29 : decode cX11_rhymes 29 = .ok (.invokevirtual 195, 3) := by decide +kernel
theorem dX11_rhymes_32 : decode cX11_rhymes 32 = .ok (.istore 5, 2) := by decide +kernel
theorem dX11_rhymes_34 : decode cX11_rhymes 34 = .ok (.aload_n 0, 1) := by decide +kernel
theorem dX11_rhymes_35 : decode cX11_rhymes 35 = .ok (.getfield 19, 3) := by decide +kernel
theorem dX11_rhymes_38 : decode cX11_rhymes 38 = .ok (.invokevirtual 192, 3) := by decide +kernel
theorem dX11_rhymes_41 : decode cX11_rhymes 41 = .ok (.iconst 0, 1) := by decide +kernel
theorem dX11_rhymes_42 : decode cX11_rhymes 42 = .ok (.istore 6, 2) := by decide +kernel
theorem dX11_rhymes_44 : decode cX11_rhymes 44 = .ok (.iload 6, 2) := by decide +kernel
theorem dX11_rhymes_46 : decode cX11_rhymes 46 = .ok (.aload_n 0, 1) := by decide +kernel
theorem dX11_rhymes_47 : decode cX11_rhymes 47 = .ok (.getfield 26, 3) := by decide +kernel
theorem dX11_rhymes_50 : decode cX11_rhymes 50 = .ok (.getfield 116, 3) := by decide +kernel
theorem dX11_rhymes_53 : decode cX11_rhymes 53 = .ok (.if_icmp .ge 40, 3) := by decide +kernel
theorem dX11_rhymes_56 : decode cX11_rhymes 56 = .ok (.iload 6, 2) := by decide +kernel
theorem dX11_rhymes_58 : decode cX11_rhymes 58 = .ok (.iload_n 1, 1) := by decide +kernel
theorem dX11_rhymes_59 : decode cX11_rhymes 59 = .ok (.if_icmp .eq 28, 3) := by decide +kernel
theorem dX11_rhymes_62 : decode cX11_rhymes 62 = .ok (.aload_n 0, 1) := by decide +kernel
theorem dX11_rhymes_63 : decode cX11_rhymes 63 = .ok (.getfield 26, 3) := by decide +kernel
theorem dX11_rhymes_66 : decode cX11_rhymes 66 = .ok (.iload 5, 2) := by decide +kernel
theorem dX11_rhymes_68 : decode cX11_rhymes 68 = .ok (.iload_n 1, 1) := by decide +kernel
theorem dX11_rhymes_69 : decode cX11_rhymes 69 = .ok (.iload 6, 2) := by decide +kernel
theorem dX11_rhymes_71 : decode cX11_rhymes 71 = .ok (.invokevirtual 225, 3) := by decide +kernel
theorem dX11_rhymes_74 : decode cX11_rhymes 74 = .ok (.ifCond .eq 13, 3) := by decide +kernel
theorem dX11_rhymes_77 : decode cX11_rhymes 77 = .ok (.aload_n 0, 1) := by decide +kernel
theorem dX11_rhymes_78 : decode cX11_rhymes 78 = .ok (.getfield 19, 3) := by decide +kernel
theorem dX11_rhymes_81 : decode cX11_rhymes 81 = .ok (.iload 6, 2) := by decide +kernel
theorem dX11_rhymes_83 : decode cX11_rhymes 83 = .ok (.i2l, 1) := by decide +kernel
theorem dX11_rhymes_84 : decode cX11_rhymes 84 = .ok (.invokevirtual 214, 3) := by decide +kernel
theorem dX11_rhymes_87 : decode cX11_rhymes 87 = .ok (.iinc 6 1, 3) := by decide +kernel
theorem dX11_rhymes_90 : decode cX11_rhymes 90 = .ok (.goto (-46), 3) := by decide +kernel
theorem dX11_rhymes_93 : decode cX11_rhymes 93 = .ok (.aload_n 0, 1) := by decide +kernel
theorem dX11_rhymes_94 : decode cX11_rhymes 94 = .ok (.getfield 19, 3) := by decide +kernel
theorem dX11_rhymes_97 : decode cX11_rhymes 97 = .ok (.getfield 224, 3) := by decide +kernel
theorem dX11_rhymes_100 : decode cX11_rhymes 100 = .ok (.ireturn, 1) := by decide +kernel
theorem dX11_chance_0 : decode cX11_chance 0 = .ok (.aload_n 0, 1) := by decide +kernel
theorem dX11_chance_1 : decode cX11_chance 1 = .ok (.iload_n 1, 1) := by decide +kernel
theorem dX11_chance_2 : decode cX11_chance 2 = .ok (.iload_n 2, 1) := by decide +kernel
theorem dX11_chance_3 : decode cX11_chance 3 = .ok (.iload_n 3, 1) := by decide +kernel
theorem dX11_chance_4 : decode cX11_chance 4 = .ok (.invokevirtual 188, 3) := by decide +kernel
theorem dX11_chance_7 : decode cX11_chance 7 = .ok (.ifCond .ne 5, 3) := by decide +kernel
theorem dX11_chance_10 : decode cX11_chance 10 = .ok (.iconst (-1), 1) := by decide +kernel
theorem dX11_chance_11 : decode cX11_chance 11 = .ok (.ireturn, 1) := by decide +kernel
theorem dX11_chance_12 : decode cX11_chance 12 = .ok (.aload_n 0, 1) := by decide +kernel
theorem dX11_chance_13 : decode cX11_chance 13 = .ok (.getfield 26, 3) := by decide +kernel
theorem dX11_chance_16 : decode cX11_chance 16 = .ok (.getfield 116, 3) := by decide +kernel
theorem dX11_chance_19 : decode cX11_chance 19 = .ok (.istore 4, 2) := by decide +kernel
theorem dX11_chance_21 : decode cX11_chance 21 = .ok (.iload 4, 2) := by decide +kernel
theorem dX11_chance_23 : decode cX11_chance 23 = .ok (.iconst 2, 1) := by decide +kernel
theorem dX11_chance_24 : decode cX11_chance 24 = .ok (.if_icmp .ge 6, 3) := by decide +kernel
theorem dX11_chance_27 : decode cX11_chance 27 = .ok (.bipush (-2), 2) := by decide +kernel
theorem dX11_chance_29 : decode cX11_chance 29 = .ok (.ireturn, 1) := by decide +kernel
theorem dX11_chance_30 : decode cX11_chance 30 = .ok (.aload_n 0, 1) := by decide +kernel
theorem dX11_chance_31 : decode cX11_chance 31 = .ok (.getfield 35, 3) := by decide +kernel
theorem dX11_chance_34 : decode cX11_chance 34 = .ok (.iload_n 1, 1) := by decide +kernel
theorem dX11_chance_35 : decode cX11_chance 35 = .ok (.iload_n 2, 1) := by decide +kernel
theorem dX11_chance_36 : decode cX11_chance 36 = .ok (.iload_n 3, 1) := by decide +kernel
theorem dX11_chance_37 : decode cX11_chance 37 = .ok (.invokevirtual 195, 3) := by decide +kernel
theorem dX11_chance_40 : decode cX11_chance 40 = .ok (.istore 5, 2) := by decide +kernel
theorem dX11_chance_42 : decode cX11_chance 42 = .ok (.iconst 0, 1) := by decide +kernel
theorem dX11_chance_43 : decode cX11_chance 43 = .ok (.istore 6, 2) := by decide +kernel
theorem dX11_chance_45 : decode cX11_chance 45 = .ok (.iconst 0, 1) := by decide +kernel
theorem dX11_chance_46 : decode cX11_chance 46 = .ok (.istore 7, 2) := by decide +kernel
theorem dX11_chance_48 : decode cX11_chance 48 = .ok (.iload 7, 2) := by decide +kernel
theorem dX11_chance_50 : decode cX11_chance 50 = .ok (.iload 4, 2) := by decide +kernel
theorem dX11_chance_52 : decode cX11_chance 52 = .ok (.if_icmp .ge 54, 3) := by decide +kernel
theorem dX11_chance_55 : decode cX11_chance 55 = .ok (.iload 7, 2) := by decide +kernel
theorem dX11_chance_57 : decode cX11_chance 57 = .ok (.iconst 1, 1) := by decide +kernel
theorem dX11_chance_58 : decode cX11_chance 58 = .ok (.iadd, 1) := by decide +kernel
theorem dX11_chance_59 : decode cX11_chance 59 = .ok (.istore 8, 2) := by decide +kernel
theorem dX11_chance_61 : decode cX11_chance 61 = .ok (.iload 8, 2) := by decide +kernel
theorem dX11_chance_63 : decode cX11_chance 63 = .ok (.iload 4, 2) := by decide +kernel
theorem dX11_chance_65 : decode cX11_chance 65 = .ok (.if_icmp .ge 35, 3) := by decide +kernel
theorem dX11_chance_68 : decode cX11_chance 68 = .ok (.iload 6, 2) := by decide +kernel
theorem dX11_chance_70 : decode cX11_chance 70 = .ok (.aload_n 0, 1) := by decide +kernel
theorem dX11_chance_71 : decode cX11_chance 71 = .ok (.getfield 26, 3) := by decide +kernel
theorem dX11_chance_74 : decode cX11_chance 74 = .ok (.iload 5, 2) := by decide +kernel
theorem dX11_chance_76 : decode cX11_chance 76 = .ok (.iload 7, 2) := by decide +kernel
theorem dX11_chance_78 : decode cX11_chance 78 = .ok (.iload 8, 2) := by decide +kernel
theorem dX11_chance_80 : decode cX11_chance 80 = .ok (.invokevirtual 225, 3) := by decide +kernel
theorem dX11_chance_83 : decode cX11_chance 83 = .ok (.ifCond .eq 7, 3) := by decide +kernel
theorem dX11_chance_86 : decode cX11_chance 86 = .ok (.iconst 1, 1) := by decide +kernel
theorem dX11_chance_87 : decode cX11_chance 87 = .ok (.goto 4, 3) := by decide +kernel
theorem dX11_chance_90 : decode cX11_chance 90 = .ok (.iconst 0, 1) := by decide +kernel
theorem dX11_chance_91 : decode cX11_chance 91 = .ok (.iadd, 1) := by decide +kernel
theorem dX11_chance_92 : decode cX11_chance 92 = .ok (.istore 6, 2) := by decide +kernel
theorem dX11_chance_94 : decode cX11_chance 94 = .ok (.iinc 8 1, 3) := by decide +kernel
theorem dX11_chance_97 : decode cX11_chance 97 = .ok (.goto (-36), 3) := by decide +kernel
theorem dX11_chance_100 : decode cX11_chance 100 = .ok (.iinc 7 1, 3) := by decide +kernel
theorem dX11_chance_103 : decode cX11_chance 103 = .ok (.goto (-55), 3) := by decide +kernel
theorem dX11_chance_106 : decode cX11_chance 106 = .ok (.aload_n 0, 1) := by decide +kernel
theorem dX11_chance_107 : decode cX11_chance 107 = .ok (.getfield 19, 3) := by decide +kernel
theorem dX11_chance_110 : decode cX11_chance 110 = .ok (.invokevirtual 192, 3) := by decide +kernel
theorem dX11_chance_113 : decode cX11_chance 113 = .ok (.aload_n 0, 1) := by decide +kernel
theorem dX11_chance_114 : decode cX11_chance 114 = .ok (.getfield 19, 3) := by decide +kernel
theorem dX11_chance_117 : decode cX11_chance 117 = .ok (.iload 6, 2) := by decide +kernel
theorem dX11_chance_119 : decode cX11_chance 119 = .ok (.i2l, 1) := by decide +kernel
theorem dX11_chance_120 : decode cX11_chance 120 = .ok (.iload 4, 2) := by decide +kernel
theorem dX11_chance_122 : decode cX11_chance 122 = .ok (.iload 4, 2) := by decide +kernel
theorem dX11_chance_124 : decode cX11_chance 124 = .ok (.iconst 1, 1) := by decide +kernel
theorem dX11_chance_125 : decode cX11_chance 125 = .ok (.isub, 1) := by decide +kernel
theorem dX11_chance_126 : decode cX11_chance 126 = .ok (.imul, 1) := by decide +kernel
theorem dX11_chance_127 : decode cX11_chance 127 = .ok (.iconst 2, 1) := by decide +kernel
theorem dX11_chance_128 : decode cX11_chance 128 = .ok (.idiv, 1) := by decide +kernel
theorem dX11_chance_129 : decode cX11_chance 129 = .ok (.i2l, 1) := by decide +kernel
theorem dX11_chance_130 : decode cX11_chance 130 = .ok (.invokevirtual 231, 3) := by decide +kernel
theorem dX11_chance_133 : decode cX11_chance 133 = .ok (.iconst 0, 1) := by decide +kernel
theorem dX11_chance_134 : decode cX11_chance 134 = .ok (.ireturn, 1) := by decide +kernel
theorem dX11_works_0 : decode cX11_works 0 = .ok (.aload_n 0, 1) := by decide +kernel
theorem dX11_works_1 : decode cX11_works 1 = .ok (.iload_n 1, 1) := by decide +kernel
theorem dX11_works_2 : decode cX11_works 2 = .ok (.invokevirtual 235, 3) := by decide +kernel
theorem dX11_works_5 : decode cX11_works 5 = .ok (.ifCond .eq 14, 3) := by decide +kernel
theorem dX11_works_8 : decode cX11_works 8 = .ok (.aload_n 0, 1) := by decide +kernel
theorem dX11_works_9 : decode cX11_works 9 = .ok (.iload_n 2, 1) := by decide +kernel
theorem dX11_works_10 : decode cX11_works 10 = .ok (.iload_n 3, 1) := by decide +kernel
theorem dX11_works_11 : decode cX11_works 11 = .ok (.iload 4, 2) := by decide +kernel
theorem dX11_works_13 : decode cX11_works 13 = .ok (.invokevirtual 188, 3) := by decide +kernel
theorem dX11_works_16 : decode cX11_works 16 = .ok (.ifCond .ne 5, 3) := by decide +kernel
theorem dX11_works_19 : decode cX11_works 19 = .ok (.iconst (-1), 1) := by decide +kernel
theorem dX11_works_20 : decode cX11_works 20 = .ok (.ireturn, 1) := by decide +kernel
theorem dX11_works_21 : decode cX11_works 21 = .ok (.aload_n 0, 1) := by decide +kernel
theorem dX11_works_22 : decode cX11_works 22 = .ok (.getfield 35, 3) := by decide +kernel
theorem dX11_works_25 : decode cX11_works 25 = .ok (.iload_n 1, 1) := by decide +kernel
theorem dX11_works_26 : decode cX11_works 26 = .ok (.iload_n 2, 1) := by decide +kernel
theorem dX11_works_27 : decode cX11_works 27 = .ok (.iload_n 3, 1) := by decide +kernel
theorem dX11_works_28 : decode cX11_works 28 = .ok (.iload 4, 2) := by decide +kernel
theorem dX11_works_30 : decode cX11_works 30 = .ok (.invokevirtual 238, 3) := by decide +kernel
theorem dX11_works_33 : decode cX11_works 33 = .ok (.ifCond .ne 5, 3) := by decide +kernel
theorem dX11_works_36 : decode cX11_works 36 = .ok (.iconst 0, 1) := by decide +kernel
theorem dX11_works_37 : decode cX11_works 37 = .ok (.ireturn, 1) := by decide +kernel
theorem dX11_works_38 : decode cX11_works 38 = .ok (.aload_n 0, 1) := by decide +kernel
theorem dX11_works_39 : decode cX11_works 39 = .ok (.getfield 35, 3) := by decide +kernel
theorem dX11_works_42 : decode cX11_works 42 = .ok (.iload_n 2, 1) := by decide +kernel
theorem dX11_works_43 : decode cX11_works 43 = .ok (.iload_n 1, 1) := by decide +kernel
theorem dX11_works_44 : decode cX11_works 44 = .ok (.invokevirtual 242, 3) := by decide +kernel
theorem dX11_works_47 : decode cX11_works 47 = .ok (.istore 5, 2) := by decide +kernel
theorem dX11_works_49 : decode cX11_works 49 = .ok (.aload_n 0, 1) := by decide +kernel
theorem dX11_works_50 : decode cX11_works 50 = .ok (.getfield 26, 3) := by decide +kernel
theorem dX11_works_53 : decode cX11_works 53 = .ok (.iload 5, 2) := by decide +kernel
theorem dX11_works_55 : decode cX11_works 55 = .ok (.aload_n 0, 1) := by decide +kernel
theorem dX11_works_56 : decode cX11_works 56 = .ok (.getfield 26, 3) := by decide +kernel
theorem dX11_works_59 : decode cX11_works 59 = .ok (.iload 5, 2) := by decide +kernel
theorem dX11_works_61 : decode cX11_works 61 = .ok (.iload_n 1, 1) := by decide +kernel
theorem dX11_works_62 : decode cX11_works 62 = .ok (.invokevirtual 245, 3) := by decide +kernel
theorem dX11_works_65 : decode cX11_works 65 = .ok (.invokevirtual 248, 3) := by decide +kernel
theorem dX11_works_68 : decode cX11_works 68 = .ok (.ireturn, 1) := by decide +kernel
theorem dX11_mark_0 : decode cX11_mark 0 = .ok (.aload_n 0, 1) := by decide +kernel
theorem dX11_mark_1 : decode cX11_mark 1 = .ok (.getfield 44, 3) := by decide +kernel
theorem dX11_mark_4 : decode cX11_mark 4 = .ok (.getfield 251, 3) := by decide +kernel
theorem dX11_mark_7 : decode cX11_mark 7 = .ok (.bipush 16, 2) := by decide +kernel
theorem dX11_mark_9 : decode cX11_mark 9 = .ok (.if_icmp .ge 31, 3) := by decide +kernel
theorem dX11_mark_12 : decode cX11_mark 12 = .ok (.aload_n 0, 1) := by decide +kernel
theorem dX11_mark_13 : decode cX11_mark 13 = .ok (.iload_n 1, 1) := by decide +kernel
theorem dX11_mark_14 : decode cX11_mark 14 = .ok (.iload_n 2, 1) := by decide +kernel
theorem dX11_mark_15 : decode cX11_mark 15 = .ok (.iload_n 3, 1) := by decide +kernel
theorem dX11_mark_16 : decode cX11_mark 16 = .ok (.iload 6, 2) := by decide +kernel
theorem dX11_mark_18 : decode cX11_mark 18 = .ok (.invokevirtual 254, 3) := by decide +kernel
theorem dX11_mark_21 : decode cX11_mark 21 = .ok (.ifCond .eq 19, 3) := by decide +kernel
theorem dX11_mark_24 : decode cX11_mark 24 = .ok (.iload 4, 2) := by decide +kernel
theorem dX11_mark_26 : decode cX11_mark 26 = .ok (.invokestatic 257, 3) := by decide +kernel
theorem dX11_mark_29 : decode cX11_mark 29 = .ok (.ifCond .eq 11, 3) := by decide +kernel
theorem dX11_mark_32 : decode cX11_mark 32 = .ok (.iload 5, 2) := by decide +kernel
theorem dX11_mark_34 : decode cX11_mark 34 = .ok (.invokestatic 163, 3) := by decide +kernel
theorem dX11_mark_37 : decode cX11_mark 37 = .ok (.ifCond .ne 5, 3) := by decide +kernel
theorem dX11_mark_40 : decode cX11_mark 40 = .ok (.iconst (-1), 1) := by decide +kernel
theorem dX11_mark_41 : decode cX11_mark 41 = .ok (.ireturn, 1) := by decide +kernel
theorem dX11_mark_42 : decode cX11_mark 42 = .ok (.aload_n 0, 1) := by decide +kernel
theorem dX11_mark_43 : decode cX11_mark 43 = .ok (.getfield 44, 3) := by decide +kernel
theorem dX11_mark_46 : decode cX11_mark 46 = .ok (.getfield 260, 3) := by decide +kernel
theorem dX11_mark_49 : decode cX11_mark 49 = .ok (.aload_n 0, 1) := by decide +kernel
theorem dX11_mark_50 : decode cX11_mark 50 = .ok (.getfield 44, 3) := by decide +kernel
theorem dX11_mark_53 : decode cX11_mark 53 = .ok (.getfield 251, 3) := by decide +kernel
theorem dX11_mark_56 : decode cX11_mark 56 = .ok (.aaload, 1) := by decide +kernel
theorem dX11_mark_57 : decode cX11_mark 57 = .ok (.astore 7, 2) := by decide +kernel
theorem dX11_mark_59 : decode cX11_mark 59 = .ok (.aload 7, 2) := by decide +kernel
theorem dX11_mark_61 : decode cX11_mark 61 = .ok (.iload_n 1, 1) := by decide +kernel
theorem dX11_mark_62 : decode cX11_mark 62 = .ok (.iload_n 2, 1) := by decide +kernel
theorem dX11_mark_63 : decode cX11_mark 63 = .ok (.iload_n 3, 1) := by decide +kernel
theorem dX11_mark_64 : decode cX11_mark 64 = .ok (.iload 6, 2) := by decide +kernel
theorem dX11_mark_66 : decode cX11_mark 66 = .ok (.invokevirtual 264, 3) := by decide +kernel
theorem dX11_mark_69 : decode cX11_mark 69 = .ok (.aload 7, 2) := by decide +kernel
theorem dX11_mark_71 : decode cX11_mark 71 = .ok (.iload 4, 2) := by decide +kernel
theorem dX11_mark_73 : decode cX11_mark 73 = .ok (.iload 5, 2) := by decide +kernel
theorem dX11_mark_75 : decode cX11_mark 75 = .ok (.invokevirtual 268, 3) := by decide +kernel
theorem dX11_mark_78 : decode cX11_mark 78 = .ok (.aload_n 0, 1) := by decide +kernel
theorem dX11_mark_79 : decode cX11_mark 79 = .ok (.getfield 44, 3) := by decide +kernel
theorem dX11_mark_82 : decode cX11_mark 82 = .ok (.invokevirtual 271, 3) := by decide +kernel
theorem dX11_mark_85 : decode cX11_mark 85 = .ok (.ireturn, 1) := by decide +kernel
theorem dX11_mayBeSign_0 : decode cX11_mayBeSign 0 = .ok (.aload_n 0, 1) := by decide +kernel
theorem dX11_mayBeSign_1 : decode cX11_mayBeSign 1 = .ok (.iload_n 2, 1) := by decide +kernel
theorem dX11_mayBeSign_2 : decode cX11_mayBeSign 2 = .ok (.invokevirtual 185, 3) := by decide +kernel
theorem dX11_mayBeSign_5 : decode cX11_mayBeSign 5 = .ok (.ifCond .ne 5, 3) := by decide +kernel
theorem dX11_mayBeSign_8 : decode cX11_mayBeSign 8 = .ok (.iconst 0, 1) := by decide +kernel
theorem dX11_mayBeSign_9 : decode cX11_mayBeSign 9 = .ok (.ireturn, 1) := by decide +kernel
theorem dX11_mayBeSign_10 : decode cX11_mayBeSign 10 = .ok (.iload_n 1, 1) := by decide +kernel
theorem dX11_mayBeSign_11 : decode cX11_mayBeSign 11 = .ok (.tableswitch 79 0 4 #[33, 33, 52, 70, 33], 33) := by decide +kernel
theorem dX11_mayBeSign_44 : decode cX11_mayBeSign 44 = .ok (.aload_n 0, 1) := by decide +kernel
theorem dX11_mayBeSign_45 : decode cX11_mayBeSign 45 = .ok (.iload_n 3, 1) := by decide +kernel
theorem dX11_mayBeSign_46 : decode cX11_mayBeSign 46 = .ok (.invokevirtual 185, 3) := by decide +kernel
theorem dX11_mayBeSign_49 : decode cX11_mayBeSign 49 = .ok (.ifCond .eq 12, 3) := by decide +kernel
theorem dX11_mayBeSign_52 : decode cX11_mayBeSign 52 = .ok (.iload_n 2, 1) := by decide +kernel
theorem dX11_mayBeSign_53 : decode cX11_mayBeSign 53 = .ok (.iload_n 3, 1) := by decide +kernel
theorem dX11_mayBeSign_54 : decode cX11_mayBeSign 54 = .ok (.if_icmp .eq 7, 3) := by decide +kernel
theorem dX11_mayBeSign_57 : decode cX11_mayBeSign 57 = .ok (.iconst 1, 1) := by decide +kernel
theorem dX11_mayBeSign_58 : decode cX11_mayBeSign 58 = .ok (.goto 4, 3) := by decide +kernel
theorem dX11_mayBeSign_61 : decode cX11_mayBeSign 61 = .ok (.iconst 0, 1) := by decide +kernel
theorem dX11_mayBeSign_62 : decode cX11_mayBeSign 62 = .ok (.ireturn, 1) := by decide +kernel
theorem dX11_mayBeSign_63 : decode cX11_mayBeSign 63 = .ok (.iload 4, 2) := by decide +kernel
theorem dX11_mayBeSign_65 : decode cX11_mayBeSign 65 = .ok (.ifCond .lt 14, 3) := by decide +kernel
theorem dX11_mayBeSign_68 : decode cX11_mayBeSign 68 = .ok (.iload 4, 2) := by decide +kernel
theorem dX11_mayBeSign_70 : decode cX11_mayBeSign 70 = .ok (.bipush 8, 2) := by decide +kernel
theorem dX11_mayBeSign_72 : decode cX11_mayBeSign 72 = .ok (.if_icmp .gt 7, 3) := by decide +kernel
theorem dX11_mayBeSign_75 : decode cX11_mayBeSign 75 = .ok (.iconst 1, 1) := by decide +kernel
theorem dX11_mayBeSign_76 : decode cX11_mayBeSign 76 = .ok (.goto 4, 3) := by decide +kernel
theorem dX11_mayBeSign_79 : decode cX11_mayBeSign 79 = .ok (.iconst 0, 1) := by decide +kernel
theorem dX11_mayBeSign_80 : decode cX11_mayBeSign 80 = .ok (.ireturn, 1) := by decide +kernel
theorem dX11_mayBeSign_81 : decode cX11_mayBeSign 81 = .ok (.iload 4, 2) := by decide +kernel
theorem dX11_mayBeSign_83 : decode cX11_mayBeSign 83 = .ok (.sipush 128, 3) := by decide +kernel
theorem dX11_mayBeSign_86 : decode cX11_mayBeSign 86 = .ok (.invokestatic 101, 3) := by decide +kernel
theorem dX11_mayBeSign_89 : decode cX11_mayBeSign 89 = .ok (.ireturn, 1) := by decide +kernel
theorem dX11_mayBeSign_90 : decode cX11_mayBeSign 90 = .ok (.iconst 0, 1) := by decide +kernel
theorem dX11_mayBeSign_91 : decode cX11_mayBeSign 91 = .ok (.ireturn, 1) := by decide +kernel
theorem dX11_by_0 : decode cX11_by 0 = .ok (.aload_n 0, 1) := by decide +kernel
theorem dX11_by_1 : decode cX11_by 1 = .ok (.iload_n 1, 1) := by decide +kernel
theorem dX11_by_2 : decode cX11_by 2 = .ok (.invokevirtual 274, 3) := by decide +kernel
theorem dX11_by_5 : decode cX11_by 5 = .ok (.ifCond .eq 23, 3) := by decide +kernel
theorem dX11_by_8 : decode cX11_by 8 = .ok (.iload_n 2, 1) := by decide +kernel
theorem dX11_by_9 : decode cX11_by 9 = .ok (.bipush 6, 2) := by decide +kernel
theorem dX11_by_11 : decode cX11_by 11 = .ok (.invokestatic 101, 3) := by decide +kernel
theorem dX11_by_14 : decode cX11_by 14 = .ok (.ifCond .eq 14, 3) := by decide +kernel
theorem dX11_by_17 : decode cX11_by 17 = .ok (.iload_n 3, 1) := by decide +kernel
theorem dX11_by_18 : decode cX11_by 18 = .ok (.iconst 1, 1) := by decide +kernel
theorem dX11_by_19 : decode cX11_by 19 = .ok (.if_icmp .lt 9, 3) := by decide +kernel
theorem dX11_by_22 : decode cX11_by 22 = .ok (.iload_n 3, 1) := by decide +kernel
theorem dX11_by_23 : decode cX11_by 23 = .ok (.bipush 9, 2) := by decide +kernel
theorem dX11_by_25 : decode cX11_by 25 = .ok (.if_icmp .le 5, 3) := by decide +kernel
theorem dX11_by_28 : decode cX11_by 28 = .ok (.iconst 0, 1) := by decide +kernel
theorem dX11_by_29 : decode cX11_by 29 = .ok (.ireturn, 1) := by decide +kernel
theorem dX11_by_30 : decode cX11_by 30 = .ok (.aload_n 0, 1) := by decide +kernel
theorem dX11_by_31 : decode cX11_by 31 = .ok (.getfield 44, 3) := by decide +kernel
theorem dX11_by_34 : decode cX11_by 34 = .ok (.getfield 260, 3) := by decide +kernel
theorem dX11_by_37 : decode cX11_by 37 = .ok (.iload_n 1, 1) := by decide +kernel
theorem dX11_by_38 : decode cX11_by 38 = .ok (.aaload, 1) := by decide +kernel
theorem dX11_by_39 : decode cX11_by 39 = .ok (.iload_n 2, 1) := by decide +kernel
theorem dX11_by_40 : decode cX11_by 40 = .ok (.putfield 277, 3) := by decide +kernel
theorem dX11_by_43 : decode cX11_by 43 = .ok (.aload_n 0, 1) := by decide +kernel
theorem dX11_by_44 : decode cX11_by 44 = .ok (.getfield 44, 3) := by decide +kernel
theorem dX11_by_47 : decode cX11_by 47 = .ok (.getfield 260, 3) := by decide +kernel
theorem dX11_by_50 : decode cX11_by 50 = .ok (.iload_n 1, 1) := by decide +kernel
theorem dX11_by_51 : decode cX11_by 51 = .ok (.aaload, 1) := by decide +kernel
theorem dX11_by_52 : decode cX11_by 52 = .ok (.iload_n 3, 1) := by decide +kernel
theorem dX11_by_53 : decode cX11_by 53 = .ok (.putfield 280, 3) := by decide +kernel
theorem dX11_by_56 : decode cX11_by 56 = .ok (.iconst 1, 1) := by decide +kernel
theorem dX11_by_57 : decode cX11_by 57 = .ok (.ireturn, 1) := by decide +kernel
theorem dX11_turn_0 : decode cX11_turn 0 = .ok (.aload_n 0, 1) := by decide +kernel
theorem dX11_turn_1 : decode cX11_turn 1 = .ok (.iload_n 1, 1) := by decide +kernel
theorem dX11_turn_2 : decode cX11_turn 2 = .ok (.invokevirtual 274, 3) := by decide +kernel
theorem dX11_turn_5 : decode cX11_turn 5 = .ok (.ifCond .ne 5, 3) := by decide +kernel
theorem dX11_turn_8 : decode cX11_turn 8 = .ok (.iconst 0, 1) := by decide +kernel
theorem dX11_turn_9 : decode cX11_turn 9 = .ok (.ireturn, 1) := by decide +kernel
theorem dX11_turn_10 : decode cX11_turn 10 = .ok (.aload_n 0, 1) := by decide +kernel
theorem dX11_turn_11 : decode cX11_turn 11 = .ok (.getfield 44, 3) := by decide +kernel
theorem dX11_turn_14 : decode cX11_turn 14 = .ok (.iload_n 2, 1) := by decide +kernel
theorem dX11_turn_15 : decode cX11_turn 15 = .ok (.ifCond .eq 17, 3) := by decide +kernel
theorem dX11_turn_18 : decode cX11_turn 18 = .ok (.aload_n 0, 1) := by decide +kernel
theorem dX11_turn_19 : decode cX11_turn 19 = .ok (.getfield 44, 3) := by decide +kernel
theorem dX11_turn_22 : decode cX11_turn 22 = .ok (.getfield 283, 3) := by decide +kernel
theorem dX11_turn_25 : decode cX11_turn 25 = .ok (.iconst 1, 1) := by decide +kernel
theorem dX11_turn_26 : decode cX11_turn 26 = .ok (.iload_n 1, 1) := by decide +kernel
theorem dX11_turn_27 : decode cX11_turn 27 = .ok (.ishl, 1) := by decide +kernel
theorem dX11_turn_28 : decode cX11_turn 28 = .ok (.ior, 1) := by decide +kernel
theorem dX11_turn_29 : decode cX11_turn 29 = .ok (.goto 16, 3) := by decide +kernel
theorem dX11_turn_32 : decode cX11_turn 32 = .ok (.aload_n 0, 1) := by decide +kernel
theorem dX11_turn_33 : decode cX11_turn 33 = .ok (.getfield 44, 3) := by decide +kernel
theorem dX11_turn_36 : decode cX11_turn 36 = .ok (.getfield 283, 3) := by decide +kernel
theorem dX11_turn_39 : decode cX11_turn 39 = .ok (.iconst 1, 1) := by decide +kernel
theorem dX11_turn_40 : decode cX11_turn 40 = .ok (.iload_n 1, 1) := by decide +kernel
theorem dX11_turn_41 : decode cX11_turn 41 = .ok (.ishl, 1) := by decide +kernel
theorem dX11_turn_42 : decode cX11_turn 42 = .ok (.iconst (-1), 1) := by decide +kernel
theorem dX11_turn_43 : decode cX11_turn 43 = .ok (.ixor, 1) := by decide +kernel
theorem dX11_turn_44 : decode cX11_turn 44 = .ok (.iand, 1) := by decide +kernel
theorem dX11_turn_45 : decode cX11_turn 45 = .ok (.putfield 283, 3) := by decide +kernel
theorem dX11_turn_48 : decode cX11_turn 48 = .ok (.iconst 1, 1) := by decide +kernel
theorem dX11_turn_49 : decode cX11_turn 49 = .ok (.ireturn, 1) := by decide +kernel
theorem dX11_holds_0 : decode cX11_holds 0 = .ok (.aload_n 0, 1) := by decide +kernel
theorem dX11_holds_1 : decode cX11_holds 1 = .ok (.iload_n 1, 1) := by decide +kernel
theorem dX11_holds_2 : decode cX11_holds 2 = .ok (.invokevirtual 274, 3) := by decide +kernel
theorem dX11_holds_5 : decode cX11_holds 5 = .ok (.ifCond .eq 11, 3) := by decide +kernel
theorem dX11_holds_8 : decode cX11_holds 8 = .ok (.aload_n 0, 1) := by decide +kernel
theorem dX11_holds_9 : decode cX11_holds 9 = .ok (.iload_n 2, 1) := by decide +kernel
theorem dX11_holds_10 : decode cX11_holds 10 = .ok (.invokevirtual 218, 3) := by decide +kernel
theorem dX11_holds_13 : decode cX11_holds 13 = .ok (.ifCond .ne 5, 3) := by decide +kernel
theorem dX11_holds_16 : decode cX11_holds 16 = .ok (.iconst (-1), 1) := by decide +kernel
theorem dX11_holds_17 : decode cX11_holds 17 = .ok (.ireturn, 1) := by decide +kernel
theorem dX11_holds_18 : decode cX11_holds 18 = .ok (.aload_n 0, 1) := by decide +kernel
theorem dX11_holds_19 : decode cX11_holds 19 = .ok (.getfield 44, 3) := by decide +kernel
theorem dX11_holds_22 : decode cX11_holds 22 = .ok (.invokevirtual 286, 3) := by decide +kernel
theorem dX11_holds_25 : decode cX11_holds 25 = .ok (.aload_n 0, 1) := by decide +kernel
theorem dX11_holds_26 : decode cX11_holds 26 = .ok (.getfield 44, 3) := by decide +kernel
theorem dX11_holds_29 : decode cX11_holds 29 = .ok (.iload_n 2, 1) := by decide +kernel
theorem dX11_holds_30 : decode cX11_holds 30 = .ok (.invokevirtual 289, 3) := by decide +kernel
theorem dX11_holds_33 : decode cX11_holds 33 = .ok (.iload_n 1, 1) := by decide +kernel
theorem dX11_holds_34 : decode cX11_holds 34 = .ok (.ishr, 1) := by decide +kernel
theorem dX11_holds_35 : decode cX11_holds 35 = .ok (.iconst 1, 1) := by decide +kernel
theorem dX11_holds_36 : decode cX11_holds 36 = .ok (.iand, 1) := by decide +kernel
theorem dX11_holds_37 : decode cX11_holds 37 = .ok (.ireturn, 1) := by decide +kernel
theorem dX11_fits_0 : decode cX11_fits 0 = .ok (.aload_n 0, 1) := by decide +kernel
theorem dX11_fits_1 : decode cX11_fits 1 = .ok (.getfield 44, 3) := by decide +kernel
theorem dX11_fits_4 : decode cX11_fits 4 = .ok (.invokevirtual 286, 3) := by decide +kernel
theorem dX11_fits_7 : decode cX11_fits 7 = .ok (.iconst 0, 1) := by decide +kernel
theorem dX11_fits_8 : decode cX11_fits 8 = .ok (.istore_n 1, 1) := by decide +kernel
theorem dX11_fits_9 : decode cX11_fits 9 = .ok (.aload_n 0, 1) := by decide +kernel
theorem dX11_fits_10 : decode cX11_fits 10 = .ok (.getfield 19, 3) := by decide +kernel
theorem dX11_fits_13 : decode cX11_fits 13 = .ok (.invokevirtual 192, 3) := by decide +kernel
theorem dX11_fits_16 : decode cX11_fits 16 = .ok (.iconst 0, 1) := by decide +kernel
theorem dX11_fits_17 : decode cX11_fits 17 = .ok (.istore_n 2, 1) := by decide +kernel
theorem dX11_fits_18 : decode cX11_fits 18 = .ok (.iload_n 2, 1) := by decide +kernel
theorem dX11_fits_19 : decode cX11_fits 19 = .ok (.aload_n 0, 1) := by decide +kernel
theorem dX11_fits_20 : decode cX11_fits 20 = .ok (.getfield 35, 3) := by decide +kernel
theorem dX11_fits_23 : decode cX11_fits 23 = .ok (.getfield 144, 3) := by decide +kernel
theorem dX11_fits_26 : decode cX11_fits 26 = .ok (.if_icmp .ge 36, 3) := by decide +kernel
theorem dX11_fits_29 : decode cX11_fits 29 = .ok (.aload_n 0, 1) := by decide +kernel
theorem dX11_fits_30 : decode cX11_fits 30 = .ok (.getfield 44, 3) := by decide +kernel
theorem dX11_fits_33 : decode cX11_fits 33 = .ok (.iload_n 2, 1) := by decide +kernel
theorem dX11_fits_34 : decode cX11_fits 34 = .ok (.invokevirtual 293, 3) := by decide +kernel
theorem dX11_fits_37 : decode cX11_fits 37 = .ok (.ifCond .eq 19, 3) := by decide +kernel
theorem dX11_fits_40 : decode cX11_fits 40 = .ok (.iload_n 1, 1) := by decide +kernel
theorem dX11_fits_41 : decode cX11_fits 41 = .ok (.ifCond .ne 12, 3) := by decide +kernel
theorem dX11_fits_44 : decode cX11_fits 44 = .ok (.aload_n 0, 1) := by decide +kernel
theorem dX11_fits_45 : decode cX11_fits 45 = .ok (.getfield 19, 3) := by decide +kernel
theorem dX11_fits_48 : decode cX11_fits 48 = .ok (.iload_n 2, 1) := by decide +kernel
theorem dX11_fits_49 : decode cX11_fits 49 = .ok (.i2l, 1) := by decide +kernel
theorem dX11_fits_50 : decode cX11_fits 50 = .ok (.invokevirtual 214, 3) := by decide +kernel
theorem dX11_fits_53 : decode cX11_fits 53 = .ok (.iinc 1 1, 3) := by decide +kernel
theorem dX11_fits_56 : decode cX11_fits 56 = .ok (.iinc 2 1, 3) := by decide +kernel
theorem dX11_fits_59 : decode cX11_fits 59 = .ok (.goto (-41), 3) := by decide +kernel
theorem dX11_fits_62 : decode cX11_fits 62 = .ok (.iload_n 1, 1) := by decide +kernel
theorem dX11_fits_63 : decode cX11_fits 63 = .ok (.ireturn, 1) := by decide +kernel
theorem dX11_span_0 : decode cX11_span 0 = .ok (.aload_n 0, 1) := by decide +kernel
theorem dX11_span_1 : decode cX11_span 1 = .ok (.iload_n 1, 1) := by decide +kernel
theorem dX11_span_2 : decode cX11_span 2 = .ok (.invokevirtual 235, 3) := by decide +kernel
theorem dX11_span_5 : decode cX11_span 5 = .ok (.ifCond .eq 11, 3) := by decide +kernel
theorem dX11_span_8 : decode cX11_span 8 = .ok (.iload_n 2, 1) := by decide +kernel
theorem dX11_span_9 : decode cX11_span 9 = .ok (.iconst 2, 1) := by decide +kernel
theorem dX11_span_10 : decode cX11_span 10 = .ok (.invokestatic 101, 3) := by decide +kernel
theorem dX11_span_13 : decode cX11_span 13 = .ok (.ifCond .ne 5, 3) := by decide +kernel
theorem dX11_span_16 : decode cX11_span 16 = .ok (.iconst (-1), 1) := by decide +kernel
theorem dX11_span_17 : decode cX11_span 17 = .ok (.ireturn, 1) := by decide +kernel
theorem dX11_span_18 : decode cX11_span 18 = .ok (.aload_n 0, 1) := by decide +kernel
theorem dX11_span_19 : decode cX11_span 19 = .ok (.getfield 44, 3) := by decide +kernel
theorem dX11_span_22 : decode cX11_span 22 = .ok (.invokevirtual 286, 3) := by decide +kernel
theorem dX11_span_25 : decode cX11_span 25 = .ok (.bipush (-2), 2) := by decide +kernel
theorem dX11_span_27 : decode cX11_span 27 = .ok (.istore_n 3, 1) := by decide +kernel
theorem dX11_span_28 : decode cX11_span 28 = .ok (.iconst 0, 1) := by decide +kernel
theorem dX11_span_29 : decode cX11_span 29 = .ok (.istore 4, 2) := by decide +kernel
theorem dX11_span_31 : decode cX11_span 31 = .ok (.iload 4, 2) := by decide +kernel
theorem dX11_span_33 : decode cX11_span 33 = .ok (.aload_n 0, 1) := by decide +kernel
theorem dX11_span_34 : decode cX11_span 34 = .ok (.getfield 35, 3) := by decide +kernel
theorem dX11_span_37 : decode cX11_span 37 = .ok (.getfield 144, 3) := by decide +kernel
theorem dX11_span_40 : decode cX11_span 40 = .ok (.if_icmp .ge 37, 3) := by decide +kernel
theorem dX11_span_43 : decode cX11_span 43 = .ok (.aload_n 0, 1) := by decide +kernel
theorem dX11_span_44 : decode cX11_span 44 = .ok (.getfield 44, 3) := by decide +kernel
theorem dX11_span_47 : decode cX11_span 47 = .ok (.iload 4, 2) := by decide +kernel
theorem dX11_span_49 : decode cX11_span 49 = .ok (.invokevirtual 293, 3) := by decide +kernel
theorem dX11_span_52 : decode cX11_span 52 = .ok (.ifCond .eq 19, 3) := by decide +kernel
theorem dX11_span_55 : decode cX11_span 55 = .ok (.iload_n 3, 1) := by decide +kernel
theorem dX11_span_56 : decode cX11_span 56 = .ok (.aload_n 0, 1) := by decide +kernel
theorem dX11_span_57 : decode cX11_span 57 = .ok (.getfield 35, 3) := by decide +kernel
theorem dX11_span_60 : decode cX11_span 60 = .ok (.iload 4, 2) := by decide +kernel
theorem dX11_span_62 : decode cX11_span 62 = .ok (.iload_n 1, 1) := by decide +kernel
theorem dX11_span_63 : decode cX11_span 63 = .ok (.invokevirtual 296, 3) := by decide +kernel
theorem dX11_span_66 : decode cX11_span 66 = .ok (.iload_n 2, 1) := by decide +kernel
theorem dX11_span_67 : decode cX11_span 67 = .ok (.invokestatic 299, 3) := by decide +kernel
theorem dX11_span_70 : decode cX11_span 70 = .ok (.istore_n 3, 1) := by decide +kernel
theorem dX11_span_71 : decode cX11_span 71 = .ok (.iinc 4 1, 3) := by decide +kernel
theorem dX11_span_74 : decode cX11_span 74 = .ok (.goto (-43), 3) := by decide +kernel
theorem dX11_span_77 : decode cX11_span 77 = .ok (.iload_n 3, 1) := by decide +kernel
theorem dX11_span_78 : decode cX11_span 78 = .ok (.ireturn, 1) := by decide +kernel
theorem dX11_further_0 : decode cX11_further 0 = .ok (.iload_n 0, 1) := by decide +kernel
theorem dX11_further_1 : decode cX11_further 1 = .ok (.bipush (-2), 2) := by decide +kernel
theorem dX11_further_3 : decode cX11_further 3 = .ok (.if_icmp .ne 5, 3) := by decide +kernel
theorem dX11_further_6 : decode cX11_further 6 = .ok (.iload_n 1, 1) := by decide +kernel
theorem dX11_further_7 : decode cX11_further 7 = .ok (.ireturn, 1) := by decide +kernel
theorem dX11_further_8 : decode cX11_further 8 = .ok (.iload_n 2, 1) := by decide +kernel
theorem dX11_further_9 : decode cX11_further 9 = .ok (.ifCond .ne 11, 3) := by decide +kernel
theorem dX11_further_12 : decode cX11_further 12 = .ok (.iload_n 0, 1) := by decide +kernel
theorem dX11_further_13 : decode cX11_further 13 = .ok (.iload_n 1, 1) := by decide +kernel
theorem dX11_further_14 : decode cX11_further 14 = .ok (.invokestatic 177, 3) := by decide +kernel
theorem dX11_further_17 : decode cX11_further 17 = .ok (.goto 8, 3) := by decide +kernel
theorem dX11_further_20 : decode cX11_further 20 = .ok (.iload_n 0, 1) := by decide +kernel
theorem dX11_further_21 : decode cX11_further 21 = .ok (.iload_n 1, 1) := by decide +kernel
theorem dX11_further_22 : decode cX11_further 22 = .ok (.invokestatic 182, 3) := by decide +kernel
theorem dX11_further_25 : decode cX11_further 25 = .ok (.ireturn, 1) := by decide +kernel
theorem dX11_order_0 : decode cX11_order 0 = .ok (.aload_n 0, 1) := by decide +kernel
theorem dX11_order_1 : decode cX11_order 1 = .ok (.iload_n 1, 1) := by decide +kernel
theorem dX11_order_2 : decode cX11_order 2 = .ok (.invokevirtual 235, 3) := by decide +kernel
theorem dX11_order_5 : decode cX11_order 5 = .ok (.ifCond .eq 16, 3) := by decide +kernel
theorem dX11_order_8 : decode cX11_order 8 = .ok (.aload_n 0, 1) := by decide +kernel
theorem dX11_order_9 : decode cX11_order 9 = .ok (.iload_n 2, 1) := by decide +kernel
theorem dX11_order_10 : decode cX11_order 10 = .ok (.invokevirtual 235, 3) := by decide +kernel
theorem dX11_order_13 : decode cX11_order 13 = .ok (.ifCond .eq 8, 3) := by decide +kernel
theorem dX11_order_16 : decode cX11_order 16 = .ok (.iload_n 1, 1) := by decide +kernel
theorem dX11_order_17 : decode cX11_order 17 = .ok (.iload_n 2, 1) := by decide +kernel
theorem dX11_order_18 : decode cX11_order 18 = .ok (.if_icmp .ne 5, 3) := by decide +kernel
theorem dX11_order_21 : decode cX11_order 21 = .ok (.iconst (-1), 1) := by decide +kernel
theorem dX11_order_22 : decode cX11_order 22 = .ok (.ireturn, 1) := by decide +kernel
theorem dX11_order_23 : decode cX11_order 23 = .ok (.aload_n 0, 1) := by decide +kernel
theorem dX11_order_24 : decode cX11_order 24 = .ok (.getfield 44, 3) := by decide +kernel
theorem dX11_order_27 : decode cX11_order 27 = .ok (.invokevirtual 286, 3) := by decide +kernel
theorem dX11_order_30 : decode cX11_order 30 = .ok (.iconst 0, 1) := by decide +kernel
theorem dX11_order_31 : decode cX11_order 31 = .ok (.istore_n 3, 1) := by decide +kernel
theorem dX11_order_32 : decode cX11_order 32 = .ok (.iconst 0, 1) := by decide +kernel
theorem dX11_order_33 : decode cX11_order 33 = .ok (.istore 4, 2) := by decide +kernel
theorem dX11_order_35 : decode cX11_order 35 = .ok (.iconst 0, 1) := by decide +kernel
theorem dX11_order_36 : decode cX11_order 36 = .ok (.istore 5, 2) := by decide +kernel
theorem dX11_order_38 : decode cX11_order 38 = .ok (.iload 5, 2) := by decide +kernel
theorem dX11_order_40 : decode cX11_order 40 = .ok (.aload_n 0, 1) := by decide +kernel
theorem dX11_order_41 : decode cX11_order 41 = .ok (.getfield 35, 3) := by decide +kernel
theorem dX11_order_44 : decode cX11_order 44 = .ok (.getfield 144, 3) := by decide +kernel
theorem dX11_order_47 : decode cX11_order 47 = .ok (.if_icmp .ge 57, 3) := by decide +kernel
theorem dX11_order_50 : decode cX11_order 50 = .ok (.aload_n 0, 1) := by decide +kernel
theorem dX11_order_51 : decode cX11_order 51 = .ok (.getfield 44, 3) := by decide +kernel
theorem dX11_order_54 : decode cX11_order 54 = .ok (.iload 5, 2) := by decide +kernel
theorem dX11_order_56 : decode cX11_order 56 = .ok (.invokevirtual 293, 3) := by decide +kernel
theorem dX11_order_59 : decode cX11_order 59 = .ok (.ifCond .eq 39, 3) := by decide +kernel
theorem dX11_order_62 : decode cX11_order 62 = .ok (.iinc 3 1, 3) := by decide +kernel
theorem dX11_order_65 : decode cX11_order 65 = .ok (.iload 4, 2) := by decide +kernel
theorem dX11_order_67 : decode cX11_order 67 = .ok (.aload_n 0, 1) := by decide +kernel
theorem dX11_order_68 : decode cX11_order 68 = .ok (.getfield 35, 3) := by decide +kernel
theorem dX11_order_71 : decode cX11_order 71 = .ok (.iload 5, 2) := by decide +kernel
theorem dX11_order_73 : decode cX11_order 73 = .ok (.iload_n 1, 1) := by decide +kernel
theorem dX11_order_74 : decode cX11_order 74 = .ok (.invokevirtual 302, 3) := by decide +kernel
theorem dX11_order_77 : decode cX11_order 77 = .ok (.aload_n 0, 1) := by decide +kernel
theorem dX11_order_78 : decode cX11_order 78 = .ok (.getfield 35, 3) := by decide +kernel
theorem dX11_order_81 : decode cX11_order 81 = .ok (.iload 5, 2) := by decide +kernel
theorem dX11_order_83 : decode cX11_order 83 = .ok (.iload_n 2, 1) := by decide +kernel
theorem dX11_order_84 : decode cX11_order 84 = .ok (.invokevirtual 302, 3) := by decide +kernel
theorem dX11_order_87 : decode cX11_order 87 = .ok (.if_icmp .ge 7, 3) := by decide +kernel
theorem dX11_order_90 : decode cX11_order 90 = .ok (.iconst 1, 1) := by decide +kernel
theorem dX11_order_91 : decode cX11_order 91 = .ok (.goto 4, 3) := by decide +kernel
theorem dX11_order_94 : decode cX11_order 94 = .ok (.iconst 0, 1) := by decide +kernel
theorem dX11_order_95 : decode cX11_order 95 = .ok (.iadd, 1) := by decide +kernel
theorem dX11_order_96 : decode cX11_order 96 = .ok (.istore 4, 2) := by decide +kernel
theorem dX11_order_98 : decode cX11_order 98 = .ok (.iinc 5 1, 3) := by decide +kernel
theorem dX11_order_101 : decode cX11_order 101 = .ok (.goto (-63), 3) := by decide +kernel
theorem dX11_order_104 : decode cX11_order 104 = .ok (.iload_n 3, 1) := by decide +kernel
theorem dX11_order_105 : decode cX11_order 105 = .ok (.ifCond .ne 6, 3) := by decide +kernel
theorem dX11_order_108 : decode cX11_order 108 = .ok (.bipush (-2), 2) := by decide +kernel
theorem dX11_order_110 : decode cX11_order 110 = .ok (.ireturn, 1) := by decide +kernel
theorem dX11_order_111 : decode cX11_order 111 = .ok (.iload 4, 2) := by decide +kernel
theorem dX11_order_113 : decode cX11_order 113 = .ok (.iload_n 3, 1) := by decide +kernel
theorem dX11_order_114 : decode cX11_order 114 = .ok (.if_icmp .ne 7, 3) := by decide +kernel
theorem dX11_order_117 : decode cX11_order 117 = .ok (.iconst 1, 1) := by decide +kernel
theorem dX11_order_118 : decode cX11_order 118 = .ok (.goto 13, 3) := by decide +kernel
theorem dX11_order_121 : decode cX11_order 121 = .ok (.iload 4, 2) := by decide +kernel
theorem dX11_order_123 : decode cX11_order 123 = .ok (.ifCond .ne 7, 3) := by decide +kernel
theorem dX11_order_126 : decode cX11_order 126 = .ok (.iconst 2, 1) := by decide +kernel
theorem dX11_order_127 : decode cX11_order 127 = .ok (.goto 4, 3) := by decide +kernel
theorem dX11_order_130 : decode cX11_order 130 = .ok (.iconst 0, 1) := by decide +kernel
theorem dX11_order_131 : decode cX11_order 131 = .ok (.ireturn, 1) := by decide +kernel
theorem dX11_wrong_0 : decode cX11_wrong 0 = .ok (.aload_n 0, 1) := by decide +kernel
theorem dX11_wrong_1 : decode cX11_wrong 1 = .ok (.getfield 44, 3) := by decide +kernel
theorem dX11_wrong_4 : decode cX11_wrong 4 = .ok (.invokevirtual 286, 3) := by decide +kernel
theorem dX11_wrong_7 : decode cX11_wrong 7 = .ok (.iconst 0, 1) := by decide +kernel
theorem dX11_wrong_8 : decode cX11_wrong 8 = .ok (.istore_n 1, 1) := by decide +kernel
theorem dX11_wrong_9 : decode cX11_wrong 9 = .ok (.iconst 1, 1) := by decide +kernel
theorem dX11_wrong_10 : decode cX11_wrong 10 = .ok (.istore_n 2, 1) := by decide +kernel
theorem dX11_wrong_11 : decode cX11_wrong 11 = .ok (.iload_n 2, 1) := by decide +kernel
theorem dX11_wrong_12 : decode cX11_wrong 12 = .ok (.aload_n 0, 1) := by decide +kernel
theorem dX11_wrong_13 : decode cX11_wrong 13 = .ok (.getfield 35, 3) := by decide +kernel
theorem dX11_wrong_16 : decode cX11_wrong 16 = .ok (.getfield 144, 3) := by decide +kernel
theorem dX11_wrong_19 : decode cX11_wrong 19 = .ok (.if_icmp .ge 36, 3) := by decide +kernel
theorem dX11_wrong_22 : decode cX11_wrong 22 = .ok (.aload_n 0, 1) := by decide +kernel
theorem dX11_wrong_23 : decode cX11_wrong 23 = .ok (.getfield 44, 3) := by decide +kernel
theorem dX11_wrong_26 : decode cX11_wrong 26 = .ok (.iload_n 2, 1) := by decide +kernel
theorem dX11_wrong_27 : decode cX11_wrong 27 = .ok (.invokevirtual 305, 3) := by decide +kernel
theorem dX11_wrong_30 : decode cX11_wrong 30 = .ok (.invokestatic 308, 3) := by decide +kernel
theorem dX11_wrong_33 : decode cX11_wrong 33 = .ok (.aload_n 0, 1) := by decide +kernel
theorem dX11_wrong_34 : decode cX11_wrong 34 = .ok (.getfield 44, 3) := by decide +kernel
theorem dX11_wrong_37 : decode cX11_wrong 37 = .ok (.iload_n 1, 1) := by decide +kernel
theorem dX11_wrong_38 : decode cX11_wrong 38 = .ok (.invokevirtual 305, 3) := by decide +kernel
theorem dX11_wrong_41 : decode cX11_wrong 41 = .ok (.invokestatic 308, 3) := by decide +kernel
theorem dX11_wrong_44 : decode cX11_wrong 44 = .ok (.if_icmp .ge 5, 3) := by decide +kernel
theorem dX11_wrong_47 : decode cX11_wrong 47 = .ok (.iload_n 2, 1) := by decide +kernel
theorem dX11_wrong_48 : decode cX11_wrong 48 = .ok (.istore_n 1, 1) := by decide +kernel
theorem dX11_wrong_49 : decode cX11_wrong 49 = .ok (.iinc 2 1, 3) := by decide +kernel
theorem dX11_wrong_52 : decode cX11_wrong 52 = .ok (.goto (-41), 3) := by decide +kernel
theorem dX11_wrong_55 : decode cX11_wrong 55 = .ok (.aload_n 0, 1) := by decide +kernel
theorem dX11_wrong_56 : decode cX11_wrong 56 = .ok (.getfield 44, 3) := by decide +kernel
theorem dX11_wrong_59 : decode cX11_wrong 59 = .ok (.iload_n 1, 1) := by decide +kernel
theorem dX11_wrong_60 : decode cX11_wrong 60 = .ok (.invokevirtual 305, 3) := by decide +kernel
theorem dX11_wrong_63 : decode cX11_wrong 63 = .ok (.istore_n 2, 1) := by decide +kernel
theorem dX11_wrong_64 : decode cX11_wrong 64 = .ok (.aload_n 0, 1) := by decide +kernel
theorem dX11_wrong_65 : decode cX11_wrong 65 = .ok (.getfield 19, 3) := by decide +kernel
theorem dX11_wrong_68 : decode cX11_wrong 68 = .ok (.invokevirtual 192, 3) := by decide +kernel
theorem dX11_wrong_71 : decode cX11_wrong 71 = .ok (.aload_n 0, 1) := by decide +kernel
theorem dX11_wrong_72 : decode cX11_wrong 72 = .ok (.getfield 19, 3) := by decide +kernel
theorem dX11_wrong_75 : decode cX11_wrong 75 = .ok (.iload_n 1, 1) := by decide +kernel
theorem dX11_wrong_76 : decode cX11_wrong 76 = .ok (.i2l, 1) := by decide +kernel
theorem dX11_wrong_77 : decode cX11_wrong 77 = .ok (.invokevirtual 214, 3) := by decide +kernel
theorem dX11_wrong_80 : decode cX11_wrong 80 = .ok (.aload_n 0, 1) := by decide +kernel
theorem dX11_wrong_81 : decode cX11_wrong 81 = .ok (.getfield 19, 3) := by decide +kernel
theorem dX11_wrong_84 : decode cX11_wrong 84 = .ok (.iload_n 2, 1) := by decide +kernel
theorem dX11_wrong_85 : decode cX11_wrong 85 = .ok (.i2l, 1) := by decide +kernel
theorem dX11_wrong_86 : decode cX11_wrong 86 = .ok (.invokevirtual 214, 3) := by decide +kernel
theorem dX11_wrong_89 : decode cX11_wrong 89 = .ok (.iload_n 2, 1) := by decide +kernel
theorem dX11_wrong_90 : decode cX11_wrong 90 = .ok (.invokestatic 308, 3) := by decide +kernel
theorem dX11_wrong_93 : decode cX11_wrong 93 = .ok (.ireturn, 1) := by decide +kernel
theorem dX11_blunder_0 : decode cX11_blunder 0 = .ok (.aload_n 0, 1) := by decide +kernel
theorem dX11_blunder_1 : decode cX11_blunder 1 = .ok (.getfield 44, 3) := by decide +kernel
theorem dX11_blunder_4 : decode cX11_blunder 4 = .ok (.invokevirtual 286, 3) := by decide +kernel
theorem dX11_blunder_7 : decode cX11_blunder 7 = .ok (.iconst 0, 1) := by decide +kernel
theorem dX11_blunder_8 : decode cX11_blunder 8 = .ok (.istore_n 1, 1) := by decide +kernel
theorem dX11_blunder_9 : decode cX11_blunder 9 = .ok (.iconst 0, 1) := by decide +kernel
theorem dX11_blunder_10 : decode cX11_blunder 10 = .ok (.istore_n 2, 1) := by decide +kernel
theorem dX11_blunder_11 : decode cX11_blunder 11 = .ok (.iload_n 2, 1) := by decide +kernel
theorem dX11_blunder_12 : decode cX11_blunder 12 = .ok (.aload_n 0, 1) := by decide +kernel
theorem dX11_blunder_13 : decode cX11_blunder 13 = .ok (.getfield 35, 3) := by decide +kernel
theorem dX11_blunder_16 : decode cX11_blunder 16 = .ok (.getfield 144, 3) := by decide +kernel
theorem dX11_blunder_19 : decode cX11_blunder 19 = .ok (.if_icmp .ge 36, 3) := by decide +kernel
theorem dX11_blunder_22 : decode cX11_blunder 22 = .ok (.aload_n 0, 1) := by decide +kernel
theorem dX11_blunder_23 : decode cX11_blunder 23 = .ok (.getfield 44, 3) := by decide +kernel
theorem dX11_blunder_26 : decode cX11_blunder 26 = .ok (.iload_n 2, 1) := by decide +kernel
theorem dX11_blunder_27 : decode cX11_blunder 27 = .ok (.invokevirtual 305, 3) := by decide +kernel
theorem dX11_blunder_30 : decode cX11_blunder 30 = .ok (.istore_n 3, 1) := by decide +kernel
theorem dX11_blunder_31 : decode cX11_blunder 31 = .ok (.iload_n 3, 1) := by decide +kernel
theorem dX11_blunder_32 : decode cX11_blunder 32 = .ok (.ifCond .ne 5, 3) := by decide +kernel
theorem dX11_blunder_35 : decode cX11_blunder 35 = .ok (.iconst 0, 1) := by decide +kernel
theorem dX11_blunder_36 : decode cX11_blunder 36 = .ok (.ireturn, 1) := by decide +kernel
theorem dX11_blunder_37 : decode cX11_blunder 37 = .ok (.iload_n 3, 1) := by decide +kernel
theorem dX11_blunder_38 : decode cX11_blunder 38 = .ok (.invokestatic 308, 3) := by decide +kernel
theorem dX11_blunder_41 : decode cX11_blunder 41 = .ok (.iconst 1, 1) := by decide +kernel
theorem dX11_blunder_42 : decode cX11_blunder 42 = .ok (.if_icmp .ne 7, 3) := by decide +kernel
theorem dX11_blunder_45 : decode cX11_blunder 45 = .ok (.iload_n 1, 1) := by decide +kernel
theorem dX11_blunder_46 : decode cX11_blunder 46 = .ok (.iload_n 3, 1) := by decide +kernel
theorem dX11_blunder_47 : decode cX11_blunder 47 = .ok (.ior, 1) := by decide +kernel
theorem dX11_blunder_48 : decode cX11_blunder 48 = .ok (.istore_n 1, 1) := by decide +kernel
theorem dX11_blunder_49 : decode cX11_blunder 49 = .ok (.iinc 2 1, 3) := by decide +kernel
theorem dX11_blunder_52 : decode cX11_blunder 52 = .ok (.goto (-41), 3) := by decide +kernel
theorem dX11_blunder_55 : decode cX11_blunder 55 = .ok (.iload_n 1, 1) := by decide +kernel
theorem dX11_blunder_56 : decode cX11_blunder 56 = .ok (.ireturn, 1) := by decide +kernel
theorem dX11_sure_0 : decode cX11_sure 0 = .ok (.aload_n 0, 1) := by decide +kernel
theorem dX11_sure_1 : decode cX11_sure 1 = .ok (.iload_n 1, 1) := by decide +kernel
theorem dX11_sure_2 : decode cX11_sure 2 = .ok (.invokevirtual 185, 3) := by decide +kernel
theorem dX11_sure_5 : decode cX11_sure 5 = .ok (.ifCond .eq 17, 3) := by decide +kernel
theorem dX11_sure_8 : decode cX11_sure 8 = .ok (.iload_n 2, 1) := by decide +kernel
theorem dX11_sure_9 : decode cX11_sure 9 = .ok (.invokestatic 257, 3) := by decide +kernel
theorem dX11_sure_12 : decode cX11_sure 12 = .ok (.ifCond .eq 10, 3) := by decide +kernel
theorem dX11_sure_15 : decode cX11_sure 15 = .ok (.iload_n 3, 1) := by decide +kernel
theorem dX11_sure_16 : decode cX11_sure 16 = .ok (.invokestatic 163, 3) := by decide +kernel
theorem dX11_sure_19 : decode cX11_sure 19 = .ok (.ifCond .ne 5, 3) := by decide +kernel
theorem dX11_sure_22 : decode cX11_sure 22 = .ok (.iconst (-1), 1) := by decide +kernel
theorem dX11_sure_23 : decode cX11_sure 23 = .ok (.ireturn, 1) := by decide +kernel
theorem dX11_sure_24 : decode cX11_sure 24 = .ok (.aload_n 0, 1) := by decide +kernel
theorem dX11_sure_25 : decode cX11_sure 25 = .ok (.getfield 44, 3) := by decide +kernel
theorem dX11_sure_28 : decode cX11_sure 28 = .ok (.invokevirtual 286, 3) := by decide +kernel
theorem dX11_sure_31 : decode cX11_sure 31 = .ok (.aload_n 0, 1) := by decide +kernel
theorem dX11_sure_32 : decode cX11_sure 32 = .ok (.getfield 58, 3) := by decide +kernel
theorem dX11_sure_35 : decode cX11_sure 35 = .ok (.invokevirtual 313, 3) := by decide +kernel
theorem dX11_sure_38 : decode cX11_sure 38 = .ok (.iconst 0, 1) := by decide +kernel
theorem dX11_sure_39 : decode cX11_sure 39 = .ok (.istore 4, 2) := by decide +kernel
theorem dX11_sure_41 : decode cX11_sure 41 = .ok (.iload 4, 2) := by decide +kernel
theorem dX11_sure_43 : decode cX11_sure 43 = .ok (.aload_n 0, 1) := by decide +kernel
theorem dX11_sure_44 : decode cX11_sure 44 = .ok (.getfield 35, 3) := by decide +kernel
theorem dX11_sure_47 : decode cX11_sure 47 = .ok (.getfield 144, 3) := by decide +kernel
theorem dX11_sure_50 : decode cX11_sure 50 = .ok (.if_icmp .ge 48, 3) := by decide +kernel
theorem dX11_sure_53 : decode cX11_sure 53 = .ok (.aload_n 0, 1) := by decide +kernel
theorem dX11_sure_54 : decode cX11_sure 54 = .ok (.getfield 44, 3) := by decide +kernel
theorem dX11_sure_57 : decode cX11_sure 57 = .ok (.iload 4, 2) := by decide +kernel
theorem dX11_sure_59 : decode cX11_sure 59 = .ok (.invokevirtual 293, 3) := by decide +kernel
theorem dX11_sure_62 : decode cX11_sure 62 = .ok (.ifCond .eq 30, 3) := by decide +kernel
theorem dX11_sure_65 : decode cX11_sure 65 = .ok (.aload_n 0, 1) := by decide +kernel
theorem dX11_sure_66 : decode cX11_sure 66 = .ok (.getfield 58, 3) := by decide +kernel
theorem dX11_sure_69 : decode cX11_sure 69 = .ok (.aload_n 0, 1) := by decide +kernel
theorem dX11_sure_70 : decode cX11_sure 70 = .ok (.getfield 26, 3) := by decide +kernel
theorem dX11_sure_73 : decode cX11_sure 73 = .ok (.aload_n 0, 1) := by decide +kernel
theorem dX11_sure_74 : decode cX11_sure 74 = .ok (.getfield 35, 3) := by decide +kernel
theorem dX11_sure_77 : decode cX11_sure 77 = .ok (.iload 4, 2) := by decide +kernel
theorem dX11_sure_79 : decode cX11_sure 79 = .ok (.iload_n 2, 1) := by decide +kernel
theorem dX11_sure_80 : decode cX11_sure 80 = .ok (.iload_n 3, 1) := by decide +kernel
theorem dX11_sure_81 : decode cX11_sure 81 = .ok (.invokevirtual 195, 3) := by decide +kernel
theorem dX11_sure_84 : decode cX11_sure 84 = .ok (.iload_n 1, 1) := by decide +kernel
theorem dX11_sure_85 : decode cX11_sure 85 = .ok (.invokevirtual 198, 3) := by decide +kernel
theorem dX11_sure_88 : decode cX11_sure 88 = .ok (.lconst 1, 1) := by decide +kernel
theorem dX11_sure_89 : decode cX11_sure 89 = .ok (.invokevirtual 314, 3) := by decide +kernel
theorem dX11_sure_92 : decode cX11_sure 92 = .ok (.iinc 4 1, 3) := by decide +kernel
theorem dX11_sure_95 : decode cX11_sure 95 = .ok (.goto (-54), 3) := by decide +kernel
theorem dX11_sure_98 : decode cX11_sure 98 = .ok (.aload_n 0, 1) := by decide +kernel
theorem dX11_sure_99 : decode cX11_sure 99 = .ok (.getfield 58, 3) := by decide +kernel
theorem dX11_sure_102 : decode cX11_sure 102 = .ok (.getfield 316, 3) := by decide +kernel
theorem dX11_sure_105 : decode cX11_sure 105 = .ok (.ifCond .ne 6, 3) := by decide +kernel
theorem dX11_sure_108 : decode cX11_sure 108 = .ok (.bipush (-2), 2) := by decide +kernel
theorem dX11_sure_110 : decode cX11_sure 110 = .ok (.ireturn, 1) := by decide +kernel
theorem dX11_sure_111 : decode cX11_sure 111 = .ok (.aload_n 0, 1) := by decide +kernel
theorem dX11_sure_112 : decode cX11_sure 112 = .ok (.getfield 19, 3) := by decide +kernel
theorem dX11_sure_115 : decode cX11_sure 115 = .ok (.invokevirtual 192, 3) := by decide +kernel
theorem dX11_sure_118 : decode cX11_sure 118 = .ok (.aload_n 0, 1) := by decide +kernel
theorem dX11_sure_119 : decode cX11_sure 119 = .ok (.getfield 19, 3) := by decide +kernel
theorem dX11_sure_122 : decode cX11_sure 122 = .ok (.aload_n 0, 1) := by decide +kernel
theorem dX11_sure_123 : decode cX11_sure 123 = .ok (.getfield 58, 3) := by decide +kernel
theorem dX11_sure_126 : decode cX11_sure 126 = .ok (.invokevirtual 317, 3) := by decide +kernel
theorem dX11_sure_129 : decode cX11_sure 129 = .ok (.i2l, 1) := by decide +kernel
theorem dX11_sure_130 : decode cX11_sure 130 = .ok (.invokevirtual 214, 3) := by decide +kernel
theorem dX11_sure_133 : decode cX11_sure 133 = .ok (.aload_n 0, 1) := by decide +kernel
theorem dX11_sure_134 : decode cX11_sure 134 = .ok (.getfield 19, 3) := by decide +kernel
theorem dX11_sure_137 : decode cX11_sure 137 = .ok (.aload_n 0, 1) := by decide +kernel
theorem dX11_sure_138 : decode cX11_sure 138 = .ok (.getfield 58, 3) := by decide +kernel
theorem dX11_sure_141 : decode cX11_sure 141 = .ok (.invokevirtual 320, 3) := by decide +kernel
theorem dX11_sure_144 : decode cX11_sure 144 = .ok (.i2l, 1) := by decide +kernel
theorem dX11_sure_145 : decode cX11_sure 145 = .ok (.invokevirtual 214, 3) := by decide +kernel
theorem dX11_sure_148 : decode cX11_sure 148 = .ok (.aload_n 0, 1) := by decide +kernel
theorem dX11_sure_149 : decode cX11_sure 149 = .ok (.getfield 58, 3) := by decide +kernel
theorem dX11_sure_152 : decode cX11_sure 152 = .ok (.getfield 316, 3) := by decide +kernel
theorem dX11_sure_155 : decode cX11_sure 155 = .ok (.ireturn, 1) := by decide +kernel
theorem dX11_shows_0 : decode cX11_shows 0 = .ok (.aload_n 0, 1) := by decide +kernel
theorem dX11_shows_1 : decode cX11_shows 1 = .ok (.iload_n 1, 1) := by decide +kernel
theorem dX11_shows_2 : decode cX11_shows 2 = .ok (.invokevirtual 235, 3) := by decide +kernel
theorem dX11_shows_5 : decode cX11_shows 5 = .ok (.ifCond .eq 11, 3) := by decide +kernel
theorem dX11_shows_8 : decode cX11_shows 8 = .ok (.aload_n 0, 1) := by decide +kernel
theorem dX11_shows_9 : decode cX11_shows 9 = .ok (.iload_n 2, 1) := by decide +kernel
theorem dX11_shows_10 : decode cX11_shows 10 = .ok (.invokevirtual 218, 3) := by decide +kernel
theorem dX11_shows_13 : decode cX11_shows 13 = .ok (.ifCond .ne 5, 3) := by decide +kernel
theorem dX11_shows_16 : decode cX11_shows 16 = .ok (.iconst (-1), 1) := by decide +kernel
theorem dX11_shows_17 : decode cX11_shows 17 = .ok (.ireturn, 1) := by decide +kernel
theorem dX11_shows_18 : decode cX11_shows 18 = .ok (.aload_n 0, 1) := by decide +kernel
theorem dX11_shows_19 : decode cX11_shows 19 = .ok (.getfield 44, 3) := by decide +kernel
theorem dX11_shows_22 : decode cX11_shows 22 = .ok (.invokevirtual 286, 3) := by decide +kernel
theorem dX11_shows_25 : decode cX11_shows 25 = .ok (.aload_n 0, 1) := by decide +kernel
theorem dX11_shows_26 : decode cX11_shows 26 = .ok (.getfield 44, 3) := by decide +kernel
theorem dX11_shows_29 : decode cX11_shows 29 = .ok (.getfield 283, 3) := by decide +kernel
theorem dX11_shows_32 : decode cX11_shows 32 = .ok (.aload_n 0, 1) := by decide +kernel
theorem dX11_shows_33 : decode cX11_shows 33 = .ok (.getfield 44, 3) := by decide +kernel
theorem dX11_shows_36 : decode cX11_shows 36 = .ok (.iload_n 2, 1) := by decide +kernel
theorem dX11_shows_37 : decode cX11_shows 37 = .ok (.invokevirtual 289, 3) := by decide +kernel
theorem dX11_shows_40 : decode cX11_shows 40 = .ok (.iand, 1) := by decide +kernel
theorem dX11_shows_41 : decode cX11_shows 41 = .ok (.istore_n 3, 1) := by decide +kernel
theorem dX11_shows_42 : decode cX11_shows 42 = .ok (.bipush 63, 2) := by decide +kernel
theorem dX11_shows_44 : decode cX11_shows 44 = .ok (.iconst 1, 1) := by decide +kernel
theorem dX11_shows_45 : decode cX11_shows 45 = .ok (.iload_n 1, 1) := by decide +kernel
theorem dX11_shows_46 : decode cX11_shows 46 = .ok (.ishl, 1) := by decide +kernel
theorem dX11_shows_47 : decode cX11_shows 47 = .ok (.iconst (-1), 1) := by decide +kernel
theorem dX11_shows_48 : decode cX11_shows 48 = .ok (.ixor, 1) := by decide +kernel
theorem dX11_shows_49 : decode cX11_shows 49 = .ok (.iand, 1) := by decide +kernel
theorem dX11_shows_50 : decode cX11_shows 50 = .ok (.istore 4, 2) := by decide +kernel
theorem dX11_shows_52 : decode cX11_shows 52 = .ok (.iconst 0, 1) := by decide +kernel
theorem dX11_shows_53 : decode cX11_shows 53 = .ok (.istore 5, 2) := by decide +kernel
theorem dX11_shows_55 : decode cX11_shows 55 = .ok (.iconst 0, 1) := by decide +kernel
theorem dX11_shows_56 : decode cX11_shows 56 = .ok (.istore 6, 2) := by decide +kernel
theorem dX11_shows_58 : decode cX11_shows 58 = .ok (.iload 6, 2) := by decide +kernel
theorem dX11_shows_60 : decode cX11_shows 60 = .ok (.aload_n 0, 1) := by decide +kernel
theorem dX11_shows_61 : decode cX11_shows 61 = .ok (.getfield 44, 3) := by decide +kernel
theorem dX11_shows_64 : decode cX11_shows 64 = .ok (.getfield 251, 3) := by decide +kernel
theorem dX11_shows_67 : decode cX11_shows 67 = .ok (.if_icmp .ge 44, 3) := by decide +kernel
theorem dX11_shows_70 : decode cX11_shows 70 = .ok (.iload_n 3, 1) := by decide +kernel
theorem dX11_shows_71 : decode cX11_shows 71 = .ok (.iconst 1, 1) := by decide +kernel
theorem dX11_shows_72 : decode cX11_shows 72 = .ok (.iload 6, 2) := by decide +kernel
theorem dX11_shows_74 : decode cX11_shows 74 = .ok (.ishl, 1) := by decide +kernel
theorem dX11_shows_75 : decode cX11_shows 75 = .ok (.iand, 1) := by decide +kernel
theorem dX11_shows_76 : decode cX11_shows 76 = .ok (.istore 7, 2) := by decide +kernel
theorem dX11_shows_78 : decode cX11_shows 78 = .ok (.iload 7, 2) := by decide +kernel
theorem dX11_shows_80 : decode cX11_shows 80 = .ok (.ifCond .eq 25, 3) := by decide +kernel
theorem dX11_shows_83 : decode cX11_shows 83 = .ok (.aload_n 0, 1) := by decide +kernel
theorem dX11_shows_84 : decode cX11_shows 84 = .ok (.getfield 44, 3) := by decide +kernel
theorem dX11_shows_87 : decode cX11_shows 87 = .ok (.iload 7, 2) := by decide +kernel
theorem dX11_shows_89 : decode cX11_shows 89 = .ok (.iload_n 2, 1) := by decide +kernel
theorem dX11_shows_90 : decode cX11_shows 90 = .ok (.iload 4, 2) := by decide +kernel
theorem dX11_shows_92 : decode cX11_shows 92 = .ok (.invokevirtual 323, 3) := by decide +kernel
theorem dX11_shows_95 : decode cX11_shows 95 = .ok (.ifCond .ne 10, 3) := by decide +kernel
theorem dX11_shows_98 : decode cX11_shows 98 = .ok (.iload 5, 2) := by decide +kernel
theorem dX11_shows_100 : decode cX11_shows 100 = .ok (.iload 7, 2) := by decide +kernel
theorem dX11_shows_102 : decode cX11_shows 102 = .ok (.ior, 1) := by decide +kernel
theorem dX11_shows_103 : decode cX11_shows 103 = .ok (.istore 5, 2) := by decide +kernel
theorem dX11_shows_105 : decode cX11_shows 105 = .ok (.iinc 6 1, 3) := by decide +kernel
theorem dX11_shows_108 : decode cX11_shows 108 = .ok (.goto (-50), 3) := by decide +kernel
theorem dX11_shows_111 : decode cX11_shows 111 = .ok (.iload 5, 2) := by decide +kernel
theorem dX11_shows_113 : decode cX11_shows 113 = .ok (.ireturn, 1) := by decide +kernel
theorem dX11_least_0 : decode cX11_least 0 = .ok (.iconst 1, 1) := by decide +kernel
theorem dX11_least_1 : decode cX11_least 1 = .ok (.aload_n 0, 1) := by decide +kernel
theorem dX11_least_2 : decode cX11_least 2 = .ok (.getfield 26, 3) := by decide +kernel
theorem dX11_least_5 : decode cX11_least 5 = .ok (.getfield 138, 3) := by decide +kernel
theorem dX11_least_8 : decode cX11_least 8 = .ok (.ishl, 1) := by decide +kernel
theorem dX11_least_9 : decode cX11_least 9 = .ok (.istore_n 1, 1) := by decide +kernel
theorem dX11_least_10 : decode cX11_least 10 = .ok (.iconst 0, 1) := by decide +kernel
theorem dX11_least_11 : decode cX11_least 11 = .ok (.istore_n 2, 1) := by decide +kernel
theorem dX11_least_12 : decode cX11_least 12 = .ok (.iload_n 2, 1) := by decide +kernel
theorem dX11_least_13 : decode cX11_least 13 = .ok (.aload_n 0, 1) := by decide +kernel
theorem dX11_least_14 : decode cX11_least 14 = .ok (.getfield 26, 3) := by decide +kernel
theorem dX11_least_17 : decode cX11_least 17 = .ok (.getfield 138, 3) := by decide +kernel
theorem dX11_least_20 : decode cX11_least 20 = .ok (.if_icmp .gt 75, 3) := by decide +kernel
theorem dX11_least_23 : decode cX11_least 23 = .ok (.iconst 0, 1) := by decide +kernel
theorem dX11_least_24 : decode cX11_least 24 = .ok (.istore_n 3, 1) := by decide +kernel
theorem dX11_least_25 : decode cX11_least 25 = .ok (.iload_n 3, 1) := by decide +kernel
theorem dX11_least_26 : decode cX11_least 26 = .ok (.iload_n 1, 1) := by decide +kernel
theorem dX11_least_27 : decode cX11_least 27 = .ok (.if_icmp .ge 62, 3) := by decide +kernel
theorem dX11_least_30 : decode cX11_least 30 = .ok (.iload_n 3, 1) := by decide +kernel
theorem dX11_least_31 : decode cX11_least 31 = .ok (.invokestatic 308, 3) := by decide +kernel
theorem dX11_least_34 : decode cX11_least 34 = .ok (.iload_n 2, 1) := by decide +kernel
theorem dX11_least_35 : decode cX11_least 35 = .ok (.if_icmp .ne 11, 3) := by decide +kernel
theorem dX11_least_38 : decode cX11_least 38 = .ok (.aload_n 0, 1) := by decide +kernel
theorem dX11_least_39 : decode cX11_least 39 = .ok (.iload_n 3, 1) := by decide +kernel
theorem dX11_least_40 : decode cX11_least 40 = .ok (.invokevirtual 326, 3) := by decide +kernel
theorem dX11_least_43 : decode cX11_least 43 = .ok (.goto 4, 3) := by decide +kernel
theorem dX11_least_46 : decode cX11_least 46 = .ok (.iconst (-1), 1) := by decide +kernel
theorem dX11_least_47 : decode cX11_least 47 = .ok (.istore 4, 2) := by decide +kernel
theorem dX11_least_49 : decode cX11_least 49 = .ok (.iload 4, 2) := by decide +kernel
theorem dX11_least_51 : decode cX11_least 51 = .ok (.iconst (-1), 1) := by decide +kernel
theorem dX11_least_52 : decode cX11_least 52 = .ok (.if_icmp .eq 31, 3) := by decide +kernel
theorem dX11_least_55 : decode cX11_least 55 = .ok (.aload_n 0, 1) := by decide +kernel
theorem dX11_least_56 : decode cX11_least 56 = .ok (.getfield 19, 3) := by decide +kernel
theorem dX11_least_59 : decode cX11_least 59 = .ok (.invokevirtual 192, 3) := by decide +kernel
theorem dX11_least_62 : decode cX11_least 62 = .ok (.aload_n 0, 1) := by decide +kernel
theorem dX11_least_63 : decode cX11_least 63 = .ok (.getfield 19, 3) := by decide +kernel
theorem dX11_least_66 : decode cX11_least 66 = .ok (.iload_n 3, 1) := by decide +kernel
theorem dX11_least_67 : decode cX11_least 67 = .ok (.i2l, 1) := by decide +kernel
theorem dX11_least_68 : decode cX11_least 68 = .ok (.invokevirtual 214, 3) := by decide +kernel
theorem dX11_least_71 : decode cX11_least 71 = .ok (.aload_n 0, 1) := by decide +kernel
theorem dX11_least_72 : decode cX11_least 72 = .ok (.getfield 19, 3) := by decide +kernel
theorem dX11_least_75 : decode cX11_least 75 = .ok (.iload 4, 2) := by decide +kernel
theorem dX11_least_77 : decode cX11_least 77 = .ok (.i2l, 1) := by decide +kernel
theorem dX11_least_78 : decode cX11_least 78 = .ok (.invokevirtual 214, 3) := by decide +kernel
theorem dX11_least_81 : decode cX11_least 81 = .ok (.iload_n 2, 1) := by decide +kernel
theorem dX11_least_82 : decode cX11_least 82 = .ok (.ireturn, 1) := by decide +kernel
theorem dX11_least_83 : decode cX11_least 83 = .ok (.iinc 3 1, 3) := by decide +kernel
theorem dX11_least_86 : decode cX11_least 86 = .ok (.goto (-61), 3) := by decide +kernel
theorem dX11_least_89 : decode cX11_least 89 = .ok (.iinc 2 1, 3) := by decide +kernel
theorem dX11_least_92 : decode cX11_least 92 = .ok (.goto (-80), 3) := by decide +kernel
theorem dX11_least_95 : decode cX11_least 95 = .ok (.bipush (-2), 2) := by decide +kernel
theorem dX11_least_97 : decode cX11_least 97 = .ok (.ireturn, 1) := by decide +kernel
theorem dX11_firstFittingAmong_0 : decode cX11_firstFittingAmong 0 = .ok (.iconst 0, 1) := by decide +kernel
theorem dX11_firstFittingAmong_1 : decode cX11_firstFittingAmong 1 = .ok (.istore_n 2, 1) := by decide +kernel
theorem dX11_firstFittingAmong_2 : decode cX11_firstFittingAmong 2 = .ok (.iload_n 2, 1) := by decide +kernel
theorem dX11_firstFittingAmong_3 : decode cX11_firstFittingAmong 3 = .ok (.aload_n 0, 1) := by decide +kernel
theorem dX11_firstFittingAmong_4 : decode cX11_firstFittingAmong 4 = .ok (.getfield 35, 3) := by decide +kernel
theorem dX11_firstFittingAmong_7 : decode cX11_firstFittingAmong 7 = .ok (.getfield 144, 3) := by decide +kernel
theorem dX11_firstFittingAmong_10 : decode cX11_firstFittingAmong 10 = .ok (.if_icmp .ge 42, 3) := by decide +kernel
theorem dX11_firstFittingAmong_13 : decode cX11_firstFittingAmong 13 = .ok (.aload_n 0, 1) := by decide +kernel
theorem dX11_firstFittingAmong_14 : decode cX11_firstFittingAmong 14 = .ok (.getfield 35, 3) := by decide +kernel
theorem dX11_firstFittingAmong_17 : decode cX11_firstFittingAmong 17 = .ok (.iload_n 2, 1) := by decide +kernel
theorem dX11_firstFittingAmong_18 : decode cX11_firstFittingAmong 18 = .ok (.iload_n 1, 1) := by decide +kernel
theorem dX11_firstFittingAmong_19 : decode cX11_firstFittingAmong 19 = .ok (.invokevirtual 329, 3) := by decide +kernel
theorem dX11_firstFittingAmong_22 : decode cX11_firstFittingAmong 22 = .ok (.ifCond .eq 24, 3) := by decide +kernel
theorem dX11_firstFittingAmong_25 : decode cX11_firstFittingAmong 25 = .ok (.aload_n 0, 1) := by decide +kernel
theorem dX11_firstFittingAmong_26 : decode cX11_firstFittingAmong 26 = .ok (.getfield 44, 3) := by decide +kernel
theorem dX11_firstFittingAmong_29 : decode cX11_firstFittingAmong 29 = .ok (.aload_n 0, 1) := by decide +kernel
theorem dX11_firstFittingAmong_30 : decode cX11_firstFittingAmong 30 = .ok (.getfield 44, 3) := by decide +kernel
theorem dX11_firstFittingAmong_33 : decode cX11_firstFittingAmong 33 = .ok (.getfield 283, 3) := by decide +kernel
theorem dX11_firstFittingAmong_36 : decode cX11_firstFittingAmong 36 = .ok (.iload_n 2, 1) := by decide +kernel
theorem dX11_firstFittingAmong_37 : decode cX11_firstFittingAmong 37 = .ok (.iload_n 1, 1) := by decide +kernel
theorem dX11_firstFittingAmong_38 : decode cX11_firstFittingAmong 38 = .ok (.invokevirtual 323, 3) := by decide +kernel
theorem dX11_firstFittingAmong_41 : decode cX11_firstFittingAmong 41 = .ok (.ifCond .eq 5, 3) := by decide +kernel
theorem dX11_firstFittingAmong_44 : decode cX11_firstFittingAmong 44 = .ok (.iload_n 2, 1) := by decide +kernel
theorem dX11_firstFittingAmong_45 : decode cX11_firstFittingAmong 45 = .ok (.ireturn, 1) := by decide +kernel
theorem dX11_firstFittingAmong_46 : decode cX11_firstFittingAmong 46 = .ok (.iinc 2 1, 3) := by decide +kernel
theorem dX11_firstFittingAmong_49 : decode cX11_firstFittingAmong 49 = .ok (.goto (-47), 3) := by decide +kernel
theorem dX11_firstFittingAmong_52 : decode cX11_firstFittingAmong 52 = .ok (.iconst (-1), 1) := by decide +kernel
theorem dX11_firstFittingAmong_53 : decode cX11_firstFittingAmong 53 = .ok (.ireturn, 1) := by decide +kernel
theorem dX11_odds_0 : decode cX11_odds 0 = .ok (.aload_n 0, 1) := by decide +kernel
theorem dX11_odds_1 : decode cX11_odds 1 = .ok (.iload_n 1, 1) := by decide +kernel
theorem dX11_odds_2 : decode cX11_odds 2 = .ok (.invokevirtual 274, 3) := by decide +kernel
theorem dX11_odds_5 : decode cX11_odds 5 = .ok (.ifCond .ne 5, 3) := by decide +kernel
theorem dX11_odds_8 : decode cX11_odds 8 = .ok (.iconst (-1), 1) := by decide +kernel
theorem dX11_odds_9 : decode cX11_odds 9 = .ok (.ireturn, 1) := by decide +kernel
theorem dX11_odds_10 : decode cX11_odds 10 = .ok (.aload_n 0, 1) := by decide +kernel
theorem dX11_odds_11 : decode cX11_odds 11 = .ok (.getfield 44, 3) := by decide +kernel
theorem dX11_odds_14 : decode cX11_odds 14 = .ok (.getfield 283, 3) := by decide +kernel
theorem dX11_odds_17 : decode cX11_odds 17 = .ok (.iconst 1, 1) := by decide +kernel
theorem dX11_odds_18 : decode cX11_odds 18 = .ok (.iload_n 1, 1) := by decide +kernel
theorem dX11_odds_19 : decode cX11_odds 19 = .ok (.ishl, 1) := by decide +kernel
theorem dX11_odds_20 : decode cX11_odds 20 = .ok (.iconst (-1), 1) := by decide +kernel
theorem dX11_odds_21 : decode cX11_odds 21 = .ok (.ixor, 1) := by decide +kernel
theorem dX11_odds_22 : decode cX11_odds 22 = .ok (.iand, 1) := by decide +kernel
theorem dX11_odds_23 : decode cX11_odds 23 = .ok (.istore_n 2, 1) := by decide +kernel
theorem dX11_odds_24 : decode cX11_odds 24 = .ok (.iload_n 2, 1) := by decide +kernel
theorem dX11_odds_25 : decode cX11_odds 25 = .ok (.invokestatic 308, 3) := by decide +kernel
theorem dX11_odds_28 : decode cX11_odds 28 = .ok (.bipush 12, 2) := by decide +kernel
theorem dX11_odds_30 : decode cX11_odds 30 = .ok (.if_icmp .le 5, 3) := by decide +kernel
theorem dX11_odds_33 : decode cX11_odds 33 = .ok (.iconst (-1), 1) := by decide +kernel
theorem dX11_odds_34 : decode cX11_odds 34 = .ok (.ireturn, 1) := by decide +kernel
theorem dX11_odds_35 : decode cX11_odds 35 = .ok (.aload_n 0, 1) := by decide +kernel
theorem dX11_odds_36 : decode cX11_odds 36 = .ok (.getfield 44, 3) := by decide +kernel
theorem dX11_odds_39 : decode cX11_odds 39 = .ok (.invokevirtual 286, 3) := by decide +kernel
theorem dX11_odds_42 : decode cX11_odds 42 = .ok (.aload_n 0, 1) := by decide +kernel
theorem dX11_odds_43 : decode cX11_odds 43 = .ok (.iload_n 2, 1) := by decide +kernel
theorem dX11_odds_44 : decode cX11_odds 44 = .ok (.invokevirtual 332, 3) := by decide +kernel
theorem dX11_odds_47 : decode cX11_odds 47 = .ok (.lstore_n 3, 1) := by decide +kernel
theorem dX11_odds_48 : decode cX11_odds 48 = .ok (.lconst 0, 1) := by decide +kernel
theorem dX11_odds_49 : decode cX11_odds 49 = .ok (.lstore 5, 2) := by decide +kernel
theorem dX11_odds_51 : decode cX11_odds 51 = .ok (.iconst 0, 1) := by decide +kernel
theorem dX11_odds_52 : decode cX11_odds 52 = .ok (.istore 7, 2) := by decide +kernel
theorem dX11_odds_54 : decode cX11_odds 54 = .ok (.iload 7, 2) := by decide +kernel
theorem dX11_odds_56 : decode cX11_odds 56 = .ok (.aload_n 0, 1) := by decide +kernel
theorem dX11_odds_57 : decode cX11_odds 57 = .ok (.getfield 35, 3) := by decide +kernel
theorem dX11_odds_60 : decode cX11_odds 60 = .ok (.getfield 144, 3) := by decide +kernel
theorem dX11_odds_63 : decode cX11_odds 63 = .ok (.if_icmp .ge 37, 3) := by decide +kernel
theorem dX11_odds_66 : decode cX11_odds 66 = .ok (.aload_n 0, 1) := by decide +kernel
theorem dX11_odds_67 : decode cX11_odds 67 = .ok (.getfield 44, 3) := by decide +kernel
theorem dX11_odds_70 : decode cX11_odds 70 = .ok (.iload 7, 2) := by decide +kernel
theorem dX11_odds_72 : decode cX11_odds 72 = .ok (.invokevirtual 289, 3) := by decide +kernel
theorem dX11_odds_75 : decode cX11_odds 75 = .ok (.iload_n 1, 1) := by decide +kernel
theorem dX11_odds_76 : decode cX11_odds 76 = .ok (.ishr, 1) := by decide +kernel
theorem dX11_odds_77 : decode cX11_odds 77 = .ok (.iconst 1, 1) := by decide +kernel
theorem dX11_odds_78 : decode cX11_odds 78 = .ok (.iand, 1) := by decide +kernel
theorem dX11_odds_79 : decode cX11_odds 79 = .ok (.ifCond .eq 15, 3) := by decide +kernel
theorem dX11_odds_82 : decode cX11_odds 82 = .ok (.lload 5, 2) := by decide +kernel
theorem dX11_odds_84 : decode cX11_odds 84 = .ok (.aload_n 0, 1) := by decide +kernel
theorem dX11_odds_85 : decode cX11_odds 85 = .ok (.getfield 79, 3) := by decide +kernel
theorem dX11_odds_88 : decode cX11_odds 88 = .ok (.iload 7, 2) := by decide +kernel
theorem dX11_odds_90 : decode cX11_odds 90 = .ok (.laload, 1) := by decide +kernel
theorem dX11_odds_91 : decode cX11_odds 91 = .ok (.ladd, 1) := by decide +kernel
theorem dX11_odds_92 : decode cX11_odds 92 = .ok (.lstore 5, 2) := by decide +kernel
theorem dX11_odds_94 : decode cX11_odds 94 = .ok (.iinc 7 1, 3) := by decide +kernel
theorem dX11_odds_97 : decode cX11_odds 97 = .ok (.goto (-43), 3) := by decide +kernel
theorem dX11_odds_100 : decode cX11_odds 100 = .ok (.aload_n 0, 1) := by decide +kernel
theorem dX11_odds_101 : decode cX11_odds 101 = .ok (.getfield 19, 3) := by decide +kernel
theorem dX11_odds_104 : decode cX11_odds 104 = .ok (.invokevirtual 192, 3) := by decide +kernel
theorem dX11_odds_107 : decode cX11_odds 107 = .ok (.aload_n 0, 1) := by decide +kernel
theorem dX11_odds_108 : decode cX11_odds 108 = .ok (.getfield 19, 3) := by decide +kernel
theorem dX11_odds_111 : decode cX11_odds 111 = .ok (.lload 5, 2) := by decide +kernel
theorem dX11_odds_113 : decode cX11_odds 113 = .ok (.lload_n 3, 1) := by decide +kernel
theorem dX11_odds_114 : decode cX11_odds 114 = .ok (.invokevirtual 231, 3) := by decide +kernel
theorem dX11_odds_117 : decode cX11_odds 117 = .ok (.iconst 0, 1) := by decide +kernel
theorem dX11_odds_118 : decode cX11_odds 118 = .ok (.ireturn, 1) := by decide +kernel
theorem dX11_weighAll_0 : decode cX11_weighAll 0 = .ok (.lconst 0, 1) := by decide +kernel
theorem dX11_weighAll_1 : decode cX11_weighAll 1 = .ok (.lstore_n 2, 1) := by decide +kernel
theorem dX11_weighAll_2 : decode cX11_weighAll 2 = .ok (.iconst 0, 1) := by decide +kernel
theorem dX11_weighAll_3 : decode cX11_weighAll 3 = .ok (.istore 4, 2) := by decide +kernel
theorem dX11_weighAll_5 : decode cX11_weighAll 5 = .ok (.iload 4, 2) := by decide +kernel
theorem dX11_weighAll_7 : decode cX11_weighAll 7 = .ok (.aload_n 0, 1) := by decide +kernel
theorem dX11_weighAll_8 : decode cX11_weighAll 8 = .ok (.getfield 35, 3) := by decide +kernel
theorem dX11_weighAll_11 : decode cX11_weighAll 11 = .ok (.getfield 144, 3) := by decide +kernel
theorem dX11_weighAll_14 : decode cX11_weighAll 14 = .ok (.if_icmp .ge 36, 3) := by decide +kernel
theorem dX11_weighAll_17 : decode cX11_weighAll 17 = .ok (.aload_n 0, 1) := by decide +kernel
theorem dX11_weighAll_18 : decode cX11_weighAll 18 = .ok (.getfield 79, 3) := by decide +kernel
theorem dX11_weighAll_21 : decode cX11_weighAll 21 = .ok (.iload 4, 2) := by decide +kernel
theorem dX11_weighAll_23 : decode cX11_weighAll 23 = .ok (.aload_n 0, 1) := by decide +kernel
theorem dX11_weighAll_24 : decode cX11_weighAll 24 = .ok (.getfield 44, 3) := by decide +kernel
theorem dX11_weighAll_27 : decode cX11_weighAll 27 = .ok (.iload 4, 2) := by decide +kernel
theorem dX11_weighAll_29 : decode cX11_weighAll 29 = .ok (.iload_n 1, 1) := by decide +kernel
theorem dX11_weighAll_30 : decode cX11_weighAll 30 = .ok (.invokevirtual 336, 3) := by decide +kernel
theorem dX11_weighAll_33 : decode cX11_weighAll 33 = .ok (.lastore, 1) := by decide +kernel
theorem dX11_weighAll_34 : decode cX11_weighAll 34 = .ok (.lload_n 2, 1) := by decide +kernel
theorem dX11_weighAll_35 : decode cX11_weighAll 35 = .ok (.aload_n 0, 1) := by decide +kernel
theorem dX11_weighAll_36 : decode cX11_weighAll 36 = .ok (.getfield 79, 3) := by decide +kernel
theorem dX11_weighAll_39 : decode cX11_weighAll 39 = .ok (.iload 4, 2) := by decide +kernel
theorem dX11_weighAll_41 : decode cX11_weighAll 41 = .ok (.laload, 1) := by decide +kernel
theorem dX11_weighAll_42 : decode cX11_weighAll 42 = .ok (.ladd, 1) := by decide +kernel
theorem dX11_weighAll_43 : decode cX11_weighAll 43 = .ok (.lstore_n 2, 1) := by decide +kernel
theorem dX11_weighAll_44 : decode cX11_weighAll 44 = .ok (.iinc 4 1, 3) := by decide +kernel
theorem dX11_weighAll_47 : decode cX11_weighAll 47 = .ok (.goto (-42), 3) := by decide +kernel
theorem dX11_weighAll_50 : decode cX11_weighAll 50 = .ok (.lload_n 2, 1) := by decide +kernel
theorem dX11_weighAll_51 : decode cX11_weighAll 51 = .ok (.lreturn, 1) := by decide +kernel
theorem dX11_then_0 : decode cX11_then 0 = .ok (.aload_n 0, 1) := by decide +kernel
theorem dX11_then_1 : decode cX11_then 1 = .ok (.iload_n 1, 1) := by decide +kernel
theorem dX11_then_2 : decode cX11_then 2 = .ok (.invokevirtual 185, 3) := by decide +kernel
theorem dX11_then_5 : decode cX11_then 5 = .ok (.ifCond .eq 24, 3) := by decide +kernel
theorem dX11_then_8 : decode cX11_then 8 = .ok (.iload_n 2, 1) := by decide +kernel
theorem dX11_then_9 : decode cX11_then 9 = .ok (.invokestatic 257, 3) := by decide +kernel
theorem dX11_then_12 : decode cX11_then 12 = .ok (.ifCond .eq 17, 3) := by decide +kernel
theorem dX11_then_15 : decode cX11_then 15 = .ok (.iload_n 3, 1) := by decide +kernel
theorem dX11_then_16 : decode cX11_then 16 = .ok (.invokestatic 163, 3) := by decide +kernel
theorem dX11_then_19 : decode cX11_then 19 = .ok (.ifCond .eq 10, 3) := by decide +kernel
theorem dX11_then_22 : decode cX11_then 22 = .ok (.aload_n 0, 1) := by decide +kernel
theorem dX11_then_23 : decode cX11_then 23 = .ok (.invokevirtual 339, 3) := by decide +kernel
theorem dX11_then_26 : decode cX11_then 26 = .ok (.ifCond .eq 5, 3) := by decide +kernel
theorem dX11_then_29 : decode cX11_then 29 = .ok (.iconst (-1), 1) := by decide +kernel
theorem dX11_then_30 : decode cX11_then 30 = .ok (.ireturn, 1) := by decide +kernel
theorem dX11_then_31 : decode cX11_then 31 = .ok (.aload_n 0, 1) := by decide +kernel
theorem dX11_then_32 : decode cX11_then 32 = .ok (.getfield 44, 3) := by decide +kernel
theorem dX11_then_35 : decode cX11_then 35 = .ok (.invokevirtual 286, 3) := by decide +kernel
theorem dX11_then_38 : decode cX11_then 38 = .ok (.aload_n 0, 1) := by decide +kernel
theorem dX11_then_39 : decode cX11_then 39 = .ok (.aload_n 0, 1) := by decide +kernel
theorem dX11_then_40 : decode cX11_then 40 = .ok (.getfield 44, 3) := by decide +kernel
theorem dX11_then_43 : decode cX11_then 43 = .ok (.getfield 283, 3) := by decide +kernel
theorem dX11_then_46 : decode cX11_then 46 = .ok (.invokevirtual 332, 3) := by decide +kernel
theorem dX11_then_49 : decode cX11_then 49 = .ok (.lstore 4, 2) := by decide +kernel
theorem dX11_then_51 : decode cX11_then 51 = .ok (.aload_n 0, 1) := by decide +kernel
theorem dX11_then_52 : decode cX11_then 52 = .ok (.iload_n 2, 1) := by decide +kernel
theorem dX11_then_53 : decode cX11_then 53 = .ok (.iload_n 3, 1) := by decide +kernel
theorem dX11_then_54 : decode cX11_then 54 = .ok (.invokevirtual 343, 3) := by decide +kernel
theorem dX11_then_57 : decode cX11_then 57 = .ok (.aload_n 0, 1) := by decide +kernel
theorem dX11_then_58 : decode cX11_then 58 = .ok (.iload_n 1, 1) := by decide +kernel
theorem dX11_then_59 : decode cX11_then 59 = .ok (.invokevirtual 346, 3) := by decide +kernel
theorem dX11_then_62 : decode cX11_then 62 = .ok (.istore 6, 2) := by decide +kernel
theorem dX11_then_64 : decode cX11_then 64 = .ok (.aload_n 0, 1) := by decide +kernel
theorem dX11_then_65 : decode cX11_then 65 = .ok (.getfield 19, 3) := by decide +kernel
theorem dX11_then_68 : decode cX11_then 68 = .ok (.invokevirtual 192, 3) := by decide +kernel
theorem dX11_then_71 : decode cX11_then 71 = .ok (.aload_n 0, 1) := by decide +kernel
theorem dX11_then_72 : decode cX11_then 72 = .ok (.getfield 19, 3) := by decide +kernel
theorem dX11_then_75 : decode cX11_then 75 = .ok (.aload_n 0, 1) := by decide +kernel
theorem dX11_then_76 : decode cX11_then 76 = .ok (.getfield 58, 3) := by decide +kernel
theorem dX11_then_79 : decode cX11_then 79 = .ok (.getfield 349, 3) := by decide +kernel
theorem dX11_then_82 : decode cX11_then 82 = .ok (.iload 6, 2) := by decide +kernel
theorem dX11_then_84 : decode cX11_then 84 = .ok (.laload, 1) := by decide +kernel
theorem dX11_then_85 : decode cX11_then 85 = .ok (.lload 4, 2) := by decide +kernel
theorem dX11_then_87 : decode cX11_then 87 = .ok (.invokevirtual 231, 3) := by decide +kernel
theorem dX11_then_90 : decode cX11_then 90 = .ok (.aload_n 0, 1) := by decide +kernel
theorem dX11_then_91 : decode cX11_then 91 = .ok (.aload_n 0, 1) := by decide +kernel
theorem dX11_then_92 : decode cX11_then 92 = .ok (.getfield 58, 3) := by decide +kernel
theorem dX11_then_95 : decode cX11_then 95 = .ok (.getfield 352, 3) := by decide +kernel
theorem dX11_then_98 : decode cX11_then 98 = .ok (.iload 6, 2) := by decide +kernel
theorem dX11_then_100 : decode cX11_then 100 = .ok (.laload, 1) := by decide +kernel
theorem dX11_then_101 : decode cX11_then 101 = .ok (.invokevirtual 202, 3) := by decide +kernel
theorem dX11_then_104 : decode cX11_then 104 = .ok (.ireturn, 1) := by decide +kernel
theorem dX11_tooManyToWeigh_0 : decode cX11_tooManyToWeigh 0 = .ok (.aload_n 0, 1) := by decide +kernel
theorem dX11_tooManyToWeigh_1 : decode cX11_tooManyToWeigh 1 = .ok (.getfield 44, 3) := by decide +kernel
theorem dX11_tooManyToWeigh_4 : decode cX11_tooManyToWeigh 4 = .ok (.getfield 283, 3) := by decide +kernel
theorem dX11_tooManyToWeigh_7 : decode cX11_tooManyToWeigh 7 = .ok (.invokestatic 308, 3) := by decide +kernel
theorem dX11_tooManyToWeigh_10 : decode cX11_tooManyToWeigh 10 = .ok (.bipush 12, 2) := by decide +kernel
theorem dX11_tooManyToWeigh_12 : decode cX11_tooManyToWeigh 12 = .ok (.if_icmp .le 7, 3) := by decide +kernel
theorem dX11_tooManyToWeigh_15 : decode cX11_tooManyToWeigh 15 = .ok (.iconst 1, 1) := by decide +kernel
theorem dX11_tooManyToWeigh_16 : decode cX11_tooManyToWeigh 16 = .ok (.goto 4, 3) := by decide +kernel
theorem dX11_tooManyToWeigh_19 : decode cX11_tooManyToWeigh 19 = .ok (.iconst 0, 1) := by decide +kernel
theorem dX11_tooManyToWeigh_20 : decode cX11_tooManyToWeigh 20 = .ok (.ireturn, 1) := by decide +kernel
theorem dX11_walkAll_0 : decode cX11_walkAll 0 = .ok (.iconst 0, 1) := by decide +kernel
theorem dX11_walkAll_1 : decode cX11_walkAll 1 = .ok (.istore_n 3, 1) := by decide +kernel
theorem dX11_walkAll_2 : decode cX11_walkAll 2 = .ok (.iload_n 3, 1) := by decide +kernel
theorem dX11_walkAll_3 : decode cX11_walkAll 3 = .ok (.aload_n 0, 1) := by decide +kernel
theorem dX11_walkAll_4 : decode cX11_walkAll 4 = .ok (.getfield 35, 3) := by decide +kernel
theorem dX11_walkAll_7 : decode cX11_walkAll 7 = .ok (.getfield 144, 3) := by decide +kernel
theorem dX11_walkAll_10 : decode cX11_walkAll 10 = .ok (.if_icmp .ge 25, 3) := by decide +kernel
theorem dX11_walkAll_13 : decode cX11_walkAll 13 = .ok (.aload_n 0, 1) := by decide +kernel
theorem dX11_walkAll_14 : decode cX11_walkAll 14 = .ok (.getfield 75, 3) := by decide +kernel
theorem dX11_walkAll_17 : decode cX11_walkAll 17 = .ok (.iload_n 3, 1) := by decide +kernel
theorem dX11_walkAll_18 : decode cX11_walkAll 18 = .ok (.aload_n 0, 1) := by decide +kernel
theorem dX11_walkAll_19 : decode cX11_walkAll 19 = .ok (.getfield 35, 3) := by decide +kernel
theorem dX11_walkAll_22 : decode cX11_walkAll 22 = .ok (.iload_n 3, 1) := by decide +kernel
theorem dX11_walkAll_23 : decode cX11_walkAll 23 = .ok (.iload_n 1, 1) := by decide +kernel
theorem dX11_walkAll_24 : decode cX11_walkAll 24 = .ok (.iload_n 2, 1) := by decide +kernel
theorem dX11_walkAll_25 : decode cX11_walkAll 25 = .ok (.invokevirtual 195, 3) := by decide +kernel
theorem dX11_walkAll_28 : decode cX11_walkAll 28 = .ok (.iastore, 1) := by decide +kernel
theorem dX11_walkAll_29 : decode cX11_walkAll 29 = .ok (.iinc 3 1, 3) := by decide +kernel
theorem dX11_walkAll_32 : decode cX11_walkAll 32 = .ok (.goto (-30), 3) := by decide +kernel
theorem dX11_walkAll_35 : decode cX11_walkAll 35 = .ok (.return_, 1) := by decide +kernel
theorem dX11_likeliestWay_0 : decode cX11_likeliestWay 0 = .ok (.aload_n 0, 1) := by decide +kernel
theorem dX11_likeliestWay_1 : decode cX11_likeliestWay 1 = .ok (.getfield 58, 3) := by decide +kernel
theorem dX11_likeliestWay_4 : decode cX11_likeliestWay 4 = .ok (.invokevirtual 313, 3) := by decide +kernel
theorem dX11_likeliestWay_7 : decode cX11_likeliestWay 7 = .ok (.iconst 0, 1) := by decide +kernel
theorem dX11_likeliestWay_8 : decode cX11_likeliestWay 8 = .ok (.istore_n 2, 1) := by decide +kernel
theorem dX11_likeliestWay_9 : decode cX11_likeliestWay 9 = .ok (.iload_n 2, 1) := by decide +kernel
theorem dX11_likeliestWay_10 : decode cX11_likeliestWay 10 = .ok (.aload_n 0, 1) := by decide +kernel
theorem dX11_likeliestWay_11 : decode cX11_likeliestWay 11 = .ok (.getfield 35, 3) := by decide +kernel
theorem dX11_likeliestWay_14 : decode cX11_likeliestWay 14 = .ok (.getfield 144, 3) := by decide +kernel
theorem dX11_likeliestWay_17 : decode cX11_likeliestWay 17 = .ok (.if_icmp .ge 36, 3) := by decide +kernel
theorem dX11_likeliestWay_20 : decode cX11_likeliestWay 20 = .ok (.aload_n 0, 1) := by decide +kernel
theorem dX11_likeliestWay_21 : decode cX11_likeliestWay 21 = .ok (.getfield 58, 3) := by decide +kernel
theorem dX11_likeliestWay_24 : decode cX11_likeliestWay 24 = .ok (.aload_n 0, 1) := by decide +kernel
theorem dX11_likeliestWay_25 : decode cX11_likeliestWay 25 = .ok (.getfield 26, 3) := by decide +kernel
theorem dX11_likeliestWay_28 : decode cX11_likeliestWay 28 = .ok (.aload_n 0, 1) := by decide +kernel
theorem dX11_likeliestWay_29 : decode cX11_likeliestWay 29 = .ok (.getfield 75, 3) := by decide +kernel
theorem dX11_likeliestWay_32 : decode cX11_likeliestWay 32 = .ok (.iload_n 2, 1) := by decide +kernel
theorem dX11_likeliestWay_33 : decode cX11_likeliestWay 33 = .ok (.iaload, 1) := by decide +kernel
theorem dX11_likeliestWay_34 : decode cX11_likeliestWay 34 = .ok (.iload_n 1, 1) := by decide +kernel
theorem dX11_likeliestWay_35 : decode cX11_likeliestWay 35 = .ok (.invokevirtual 198, 3) := by decide +kernel
theorem dX11_likeliestWay_38 : decode cX11_likeliestWay 38 = .ok (.aload_n 0, 1) := by decide +kernel
theorem dX11_likeliestWay_39 : decode cX11_likeliestWay 39 = .ok (.getfield 79, 3) := by decide +kernel
theorem dX11_likeliestWay_42 : decode cX11_likeliestWay 42 = .ok (.iload_n 2, 1) := by decide +kernel
theorem dX11_likeliestWay_43 : decode cX11_likeliestWay 43 = .ok (.laload, 1) := by decide +kernel
theorem dX11_likeliestWay_44 : decode cX11_likeliestWay 44 = .ok (.invokevirtual 314, 3) := by decide +kernel
theorem dX11_likeliestWay_47 : decode cX11_likeliestWay 47 = .ok (.iinc 2 1, 3) := by decide +kernel
theorem dX11_likeliestWay_50 : decode cX11_likeliestWay 50 = .ok (.goto (-41), 3) := by decide +kernel
theorem dX11_likeliestWay_53 : decode cX11_likeliestWay 53 = .ok (.aload_n 0, 1) := by decide +kernel
theorem dX11_likeliestWay_54 : decode cX11_likeliestWay 54 = .ok (.getfield 58, 3) := by decide +kernel
theorem dX11_likeliestWay_57 : decode cX11_likeliestWay 57 = .ok (.invokevirtual 355, 3) := by decide +kernel
theorem dX11_likeliestWay_60 : decode cX11_likeliestWay 60 = .ok (.ireturn, 1) := by decide +kernel
theorem dX11_right_0 : decode cX11_right 0 = .ok (.aload_n 0, 1) := by decide +kernel
theorem dX11_right_1 : decode cX11_right 1 = .ok (.iload_n 1, 1) := by decide +kernel
theorem dX11_right_2 : decode cX11_right 2 = .ok (.iload_n 2, 1) := by decide +kernel
theorem dX11_right_3 : decode cX11_right 3 = .ok (.iload_n 3, 1) := by decide +kernel
theorem dX11_right_4 : decode cX11_right 4 = .ok (.invokevirtual 188, 3) := by decide +kernel
theorem dX11_right_7 : decode cX11_right 7 = .ok (.ifCond .eq 10, 3) := by decide +kernel
theorem dX11_right_10 : decode cX11_right 10 = .ok (.aload_n 0, 1) := by decide +kernel
theorem dX11_right_11 : decode cX11_right 11 = .ok (.invokevirtual 339, 3) := by decide +kernel
theorem dX11_right_14 : decode cX11_right 14 = .ok (.ifCond .eq 5, 3) := by decide +kernel
theorem dX11_right_17 : decode cX11_right 17 = .ok (.iconst (-1), 1) := by decide +kernel
theorem dX11_right_18 : decode cX11_right 18 = .ok (.ireturn, 1) := by decide +kernel
theorem dX11_right_19 : decode cX11_right 19 = .ok (.aload_n 0, 1) := by decide +kernel
theorem dX11_right_20 : decode cX11_right 20 = .ok (.getfield 44, 3) := by decide +kernel
theorem dX11_right_23 : decode cX11_right 23 = .ok (.invokevirtual 286, 3) := by decide +kernel
theorem dX11_right_26 : decode cX11_right 26 = .ok (.aload_n 0, 1) := by decide +kernel
theorem dX11_right_27 : decode cX11_right 27 = .ok (.aload_n 0, 1) := by decide +kernel
theorem dX11_right_28 : decode cX11_right 28 = .ok (.getfield 44, 3) := by decide +kernel
theorem dX11_right_31 : decode cX11_right 31 = .ok (.getfield 283, 3) := by decide +kernel
theorem dX11_right_34 : decode cX11_right 34 = .ok (.invokevirtual 332, 3) := by decide +kernel
theorem dX11_right_37 : decode cX11_right 37 = .ok (.pop2, 1) := by decide +kernel
theorem dX11_right_38 : decode cX11_right 38 = .ok (.aload_n 0, 1) := by decide +kernel
theorem dX11_right_39 : decode cX11_right 39 = .ok (.iload_n 2, 1) := by decide +kernel
theorem dX11_right_40 : decode cX11_right 40 = .ok (.iload_n 3, 1) := by decide +kernel
theorem dX11_right_41 : decode cX11_right 41 = .ok (.invokevirtual 343, 3) := by decide +kernel
theorem dX11_right_44 : decode cX11_right 44 = .ok (.iconst 0, 1) := by decide +kernel
theorem dX11_right_45 : decode cX11_right 45 = .ok (.istore 4, 2) := by decide +kernel
theorem dX11_right_47 : decode cX11_right 47 = .ok (.iconst 0, 1) := by decide +kernel
theorem dX11_right_48 : decode cX11_right 48 = .ok (.istore 5, 2) := by decide +kernel
theorem dX11_right_50 : decode cX11_right 50 = .ok (.iload 5, 2) := by decide +kernel
theorem dX11_right_52 : decode cX11_right 52 = .ok (.aload_n 0, 1) := by decide +kernel
theorem dX11_right_53 : decode cX11_right 53 = .ok (.getfield 26, 3) := by decide +kernel
theorem dX11_right_56 : decode cX11_right 56 = .ok (.getfield 116, 3) := by decide +kernel
theorem dX11_right_59 : decode cX11_right 59 = .ok (.if_icmp .ge 51, 3) := by decide +kernel
theorem dX11_right_62 : decode cX11_right 62 = .ok (.aload_n 0, 1) := by decide +kernel
theorem dX11_right_63 : decode cX11_right 63 = .ok (.getfield 58, 3) := by decide +kernel
theorem dX11_right_66 : decode cX11_right 66 = .ok (.getfield 352, 3) := by decide +kernel
theorem dX11_right_69 : decode cX11_right 69 = .ok (.aload_n 0, 1) := by decide +kernel
theorem dX11_right_70 : decode cX11_right 70 = .ok (.iload 5, 2) := by decide +kernel
theorem dX11_right_72 : decode cX11_right 72 = .ok (.invokevirtual 346, 3) := by decide +kernel
theorem dX11_right_75 : decode cX11_right 75 = .ok (.laload, 1) := by decide +kernel
theorem dX11_right_76 : decode cX11_right 76 = .ok (.aload_n 0, 1) := by decide +kernel
theorem dX11_right_77 : decode cX11_right 77 = .ok (.getfield 26, 3) := by decide +kernel
theorem dX11_right_80 : decode cX11_right 80 = .ok (.aload_n 0, 1) := by decide +kernel
theorem dX11_right_81 : decode cX11_right 81 = .ok (.getfield 75, 3) := by decide +kernel
theorem dX11_right_84 : decode cX11_right 84 = .ok (.iload_n 1, 1) := by decide +kernel
theorem dX11_right_85 : decode cX11_right 85 = .ok (.iaload, 1) := by decide +kernel
theorem dX11_right_86 : decode cX11_right 86 = .ok (.iload 5, 2) := by decide +kernel
theorem dX11_right_88 : decode cX11_right 88 = .ok (.invokevirtual 198, 3) := by decide +kernel
theorem dX11_right_91 : decode cX11_right 91 = .ok (.lcmp, 1) := by decide +kernel
theorem dX11_right_92 : decode cX11_right 92 = .ok (.ifCond .ne 12, 3) := by decide +kernel
theorem dX11_right_95 : decode cX11_right 95 = .ok (.iload 4, 2) := by decide +kernel
theorem dX11_right_97 : decode cX11_right 97 = .ok (.iconst 1, 1) := by decide +kernel
theorem dX11_right_98 : decode cX11_right 98 = .ok (.iload 5, 2) := by decide +kernel
theorem dX11_right_100 : decode cX11_right 100 = .ok (.ishl, 1) := by decide +kernel
theorem dX11_right_101 : decode cX11_right 101 = .ok (.ior, 1) := by decide +kernel
theorem dX11_right_102 : decode cX11_right 102 = .ok (.istore 4, 2) := by decide +kernel
theorem dX11_right_104 : decode cX11_right 104 = .ok (.iinc 5 1, 3) := by decide +kernel
theorem dX11_right_107 : decode cX11_right 107 = .ok (.goto (-57), 3) := by decide +kernel
theorem dX11_right_110 : decode cX11_right 110 = .ok (.aload_n 0, 1) := by decide +kernel
theorem dX11_right_111 : decode cX11_right 111 = .ok (.getfield 19, 3) := by decide +kernel
theorem dX11_right_114 : decode cX11_right 114 = .ok (.invokevirtual 192, 3) := by decide +kernel
theorem dX11_right_117 : decode cX11_right 117 = .ok (.aload_n 0, 1) := by decide +kernel
theorem dX11_right_118 : decode cX11_right 118 = .ok (.getfield 19, 3) := by decide +kernel
theorem dX11_right_121 : decode cX11_right 121 = .ok (.iload 4, 2) := by decide +kernel
theorem dX11_right_123 : decode cX11_right 123 = .ok (.i2l, 1) := by decide +kernel
theorem dX11_right_124 : decode cX11_right 124 = .ok (.invokevirtual 214, 3) := by decide +kernel
theorem dX11_right_127 : decode cX11_right 127 = .ok (.iload 4, 2) := by decide +kernel
theorem dX11_right_129 : decode cX11_right 129 = .ok (.invokestatic 308, 3) := by decide +kernel
theorem dX11_right_132 : decode cX11_right 132 = .ok (.ireturn, 1) := by decide +kernel
theorem dX11_likely_0 : decode cX11_likely 0 = .ok (.aload_n 0, 1) := by decide +kernel
theorem dX11_likely_1 : decode cX11_likely 1 = .ok (.invokevirtual 339, 3) := by decide +kernel
theorem dX11_likely_4 : decode cX11_likely 4 = .ok (.ifCond .eq 5, 3) := by decide +kernel
theorem dX11_likely_7 : decode cX11_likely 7 = .ok (.iconst (-1), 1) := by decide +kernel
theorem dX11_likely_8 : decode cX11_likely 8 = .ok (.ireturn, 1) := by decide +kernel
theorem dX11_likely_9 : decode cX11_likely 9 = .ok (.aload_n 0, 1) := by decide +kernel
theorem dX11_likely_10 : decode cX11_likely 10 = .ok (.getfield 44, 3) := by decide +kernel
theorem dX11_likely_13 : decode cX11_likely 13 = .ok (.invokevirtual 286, 3) := by decide +kernel
theorem dX11_likely_16 : decode cX11_likely 16 = .ok (.aload_n 0, 1) := by decide +kernel
theorem dX11_likely_17 : decode cX11_likely 17 = .ok (.aload_n 0, 1) := by decide +kernel
theorem dX11_likely_18 : decode cX11_likely 18 = .ok (.getfield 44, 3) := by decide +kernel
theorem dX11_likely_21 : decode cX11_likely 21 = .ok (.getfield 283, 3) := by decide +kernel
theorem dX11_likely_24 : decode cX11_likely 24 = .ok (.invokevirtual 332, 3) := by decide +kernel
theorem dX11_likely_27 : decode cX11_likely 27 = .ok (.lstore_n 1, 1) := by decide +kernel
theorem dX11_likely_28 : decode cX11_likely 28 = .ok (.iconst 0, 1) := by decide +kernel
theorem dX11_likely_29 : decode cX11_likely 29 = .ok (.istore_n 3, 1) := by decide +kernel
theorem dX11_likely_30 : decode cX11_likely 30 = .ok (.iconst 1, 1) := by decide +kernel
theorem dX11_likely_31 : decode cX11_likely 31 = .ok (.istore 4, 2) := by decide +kernel
theorem dX11_likely_33 : decode cX11_likely 33 = .ok (.iload 4, 2) := by decide +kernel
theorem dX11_likely_35 : decode cX11_likely 35 = .ok (.aload_n 0, 1) := by decide +kernel
theorem dX11_likely_36 : decode cX11_likely 36 = .ok (.getfield 35, 3) := by decide +kernel
theorem dX11_likely_39 : decode cX11_likely 39 = .ok (.getfield 144, 3) := by decide +kernel
theorem dX11_likely_42 : decode cX11_likely 42 = .ok (.if_icmp .ge 29, 3) := by decide +kernel
theorem dX11_likely_45 : decode cX11_likely 45 = .ok (.aload_n 0, 1) := by decide +kernel
theorem dX11_likely_46 : decode cX11_likely 46 = .ok (.getfield 79, 3) := by decide +kernel
theorem dX11_likely_49 : decode cX11_likely 49 = .ok (.iload 4, 2) := by decide +kernel
theorem dX11_likely_51 : decode cX11_likely 51 = .ok (.laload, 1) := by decide +kernel
theorem dX11_likely_52 : decode cX11_likely 52 = .ok (.aload_n 0, 1) := by decide +kernel
theorem dX11_likely_53 : decode cX11_likely 53 = .ok (.getfield 79, 3) := by decide +kernel
theorem dX11_likely_56 : decode cX11_likely 56 = .ok (.iload_n 3, 1) := by decide +kernel
theorem dX11_likely_57 : decode cX11_likely 57 = .ok (.laload, 1) := by decide +kernel
theorem dX11_likely_58 : decode cX11_likely 58 = .ok (.lcmp, 1) := by decide +kernel
theorem dX11_likely_59 : decode cX11_likely 59 = .ok (.ifCond .le 6, 3) := by decide +kernel
theorem dX11_likely_62 : decode cX11_likely 62 = .ok (.iload 4, 2) := by decide +kernel
theorem dX11_likely_64 : decode cX11_likely 64 = .ok (.istore_n 3, 1) := by decide +kernel
theorem dX11_likely_65 : decode cX11_likely 65 = .ok (.iinc 4 1, 3) := by decide +kernel
theorem dX11_likely_68 : decode cX11_likely 68 = .ok (.goto (-35), 3) := by decide +kernel
theorem dX11_likely_71 : decode cX11_likely 71 = .ok (.aload_n 0, 1) := by decide +kernel
theorem dX11_likely_72 : decode cX11_likely 72 = .ok (.getfield 19, 3) := by decide +kernel
theorem dX11_likely_75 : decode cX11_likely 75 = .ok (.invokevirtual 192, 3) := by decide +kernel
theorem dX11_likely_78 : decode cX11_likely 78 = .ok (.aload_n 0, 1) := by decide +kernel
theorem dX11_likely_79 : decode cX11_likely 79 = .ok (.getfield 19, 3) := by decide +kernel
theorem dX11_likely_82 : decode cX11_likely 82 = .ok (.aload_n 0, 1) := by decide +kernel
theorem dX11_likely_83 : decode cX11_likely 83 = .ok (.getfield 79, 3) := by decide +kernel
theorem dX11_likely_86 : decode cX11_likely 86 = .ok (.iload_n 3, 1) := by decide +kernel
theorem dX11_likely_87 : decode cX11_likely 87 = .ok (.laload, 1) := by decide +kernel
theorem dX11_likely_88 : decode cX11_likely 88 = .ok (.lload_n 1, 1) := by decide +kernel
theorem dX11_likely_89 : decode cX11_likely 89 = .ok (.invokevirtual 231, 3) := by decide +kernel
theorem dX11_likely_92 : decode cX11_likely 92 = .ok (.iload_n 3, 1) := by decide +kernel
theorem dX11_likely_93 : decode cX11_likely 93 = .ok (.ireturn, 1) := by decide +kernel
theorem dX11_next_0 : decode cX11_next 0 = .ok (.aload_n 0, 1) := by decide +kernel
theorem dX11_next_1 : decode cX11_next 1 = .ok (.getfield 44, 3) := by decide +kernel
theorem dX11_next_4 : decode cX11_next 4 = .ok (.getfield 283, 3) := by decide +kernel
theorem dX11_next_7 : decode cX11_next 7 = .ok (.iconst 1, 1) := by decide +kernel
theorem dX11_next_8 : decode cX11_next 8 = .ok (.aload_n 0, 1) := by decide +kernel
theorem dX11_next_9 : decode cX11_next 9 = .ok (.getfield 44, 3) := by decide +kernel
theorem dX11_next_12 : decode cX11_next 12 = .ok (.getfield 251, 3) := by decide +kernel
theorem dX11_next_15 : decode cX11_next 15 = .ok (.ishl, 1) := by decide +kernel
theorem dX11_next_16 : decode cX11_next 16 = .ok (.iconst 1, 1) := by decide +kernel
theorem dX11_next_17 : decode cX11_next 17 = .ok (.isub, 1) := by decide +kernel
theorem dX11_next_18 : decode cX11_next 18 = .ok (.if_icmp .ne 5, 3) := by decide +kernel
theorem dX11_next_21 : decode cX11_next 21 = .ok (.iconst (-1), 1) := by decide +kernel
theorem dX11_next_22 : decode cX11_next 22 = .ok (.ireturn, 1) := by decide +kernel
theorem dX11_next_23 : decode cX11_next 23 = .ok (.aload_n 0, 1) := by decide +kernel
theorem dX11_next_24 : decode cX11_next 24 = .ok (.getfield 44, 3) := by decide +kernel
theorem dX11_next_27 : decode cX11_next 27 = .ok (.invokevirtual 286, 3) := by decide +kernel
theorem dX11_next_30 : decode cX11_next 30 = .ok (.aload_n 0, 1) := by decide +kernel
theorem dX11_next_31 : decode cX11_next 31 = .ok (.getfield 44, 3) := by decide +kernel
theorem dX11_next_34 : decode cX11_next 34 = .ok (.invokevirtual 358, 3) := by decide +kernel
theorem dX11_next_37 : decode cX11_next 37 = .ok (.istore_n 1, 1) := by decide +kernel
theorem dX11_next_38 : decode cX11_next 38 = .ok (.iload_n 1, 1) := by decide +kernel
theorem dX11_next_39 : decode cX11_next 39 = .ok (.ifCond .ne 6, 3) := by decide +kernel
theorem dX11_next_42 : decode cX11_next 42 = .ok (.bipush (-2), 2) := by decide +kernel
theorem dX11_next_44 : decode cX11_next 44 = .ok (.ireturn, 1) := by decide +kernel
theorem dX11_next_45 : decode cX11_next 45 = .ok (.iconst (-1), 1) := by decide +kernel
theorem dX11_next_46 : decode cX11_next 46 = .ok (.istore_n 2, 1) := by decide +kernel
theorem dX11_next_47 : decode cX11_next 47 = .ok (.iconst 0, 1) := by decide +kernel
theorem dX11_next_48 : decode cX11_next 48 = .ok (.istore_n 3, 1) := by decide +kernel
theorem dX11_next_49 : decode cX11_next 49 = .ok (.iconst 0, 1) := by decide +kernel
theorem dX11_next_50 : decode cX11_next 50 = .ok (.istore 4, 2) := by decide +kernel
theorem dX11_next_52 : decode cX11_next 52 = .ok (.iload 4, 2) := by decide +kernel
theorem dX11_next_54 : decode cX11_next 54 = .ok (.aload_n 0, 1) := by decide +kernel
theorem dX11_next_55 : decode cX11_next 55 = .ok (.getfield 44, 3) := by decide +kernel
theorem dX11_next_58 : decode cX11_next 58 = .ok (.getfield 251, 3) := by decide +kernel
theorem dX11_next_61 : decode cX11_next 61 = .ok (.if_icmp .ge 56, 3) := by decide +kernel
theorem dX11_next_64 : decode cX11_next 64 = .ok (.aload_n 0, 1) := by decide +kernel
theorem dX11_next_65 : decode cX11_next 65 = .ok (.getfield 44, 3) := by decide +kernel
theorem dX11_next_68 : decode cX11_next 68 = .ok (.getfield 283, 3) := by decide +kernel
theorem dX11_next_71 : decode cX11_next 71 = .ok (.iload 4, 2) := by decide +kernel
theorem dX11_next_73 : decode cX11_next 73 = .ok (.ishr, 1) := by decide +kernel
theorem dX11_next_74 : decode cX11_next 74 = .ok (.iconst 1, 1) := by decide +kernel
theorem dX11_next_75 : decode cX11_next 75 = .ok (.iand, 1) := by decide +kernel
theorem dX11_next_76 : decode cX11_next 76 = .ok (.ifCond .ne 35, 3) := by decide +kernel
theorem dX11_next_79 : decode cX11_next 79 = .ok (.aload_n 0, 1) := by decide +kernel
theorem dX11_next_80 : decode cX11_next 80 = .ok (.getfield 44, 3) := by decide +kernel
theorem dX11_next_83 : decode cX11_next 83 = .ok (.iload 4, 2) := by decide +kernel
theorem dX11_next_85 : decode cX11_next 85 = .ok (.invokevirtual 361, 3) := by decide +kernel
theorem dX11_next_88 : decode cX11_next 88 = .ok (.istore 5, 2) := by decide +kernel
theorem dX11_next_90 : decode cX11_next 90 = .ok (.iload_n 2, 1) := by decide +kernel
theorem dX11_next_91 : decode cX11_next 91 = .ok (.iconst (-1), 1) := by decide +kernel
theorem dX11_next_92 : decode cX11_next 92 = .ok (.if_icmp .eq 13, 3) := by decide +kernel
theorem dX11_next_95 : decode cX11_next 95 = .ok (.iload 5, 2) := by decide +kernel
theorem dX11_next_97 : decode cX11_next 97 = .ok (.iload_n 3, 1) := by decide +kernel
theorem dX11_next_98 : decode cX11_next 98 = .ok (.iload_n 1, 1) := by decide +kernel
theorem dX11_next_99 : decode cX11_next 99 = .ok (.invokestatic 364, 3) := by decide +kernel
theorem dX11_next_102 : decode cX11_next 102 = .ok (.ifCond .eq 9, 3) := by decide +kernel
theorem dX11_next_105 : decode cX11_next 105 = .ok (.iload 4, 2) := by decide +kernel
theorem dX11_next_107 : decode cX11_next 107 = .ok (.istore_n 2, 1) := by decide +kernel
theorem dX11_next_108 : decode cX11_next 108 = .ok (.iload 5, 2) := by decide +kernel
theorem dX11_next_110 : decode cX11_next 110 = .ok (.istore_n 3, 1) := by decide +kernel
theorem dX11_next_111 : decode cX11_next 111 = .ok (.iinc 4 1, 3) := by decide +kernel
theorem dX11_next_114 : decode cX11_next 114 = .ok (.goto (-62), 3) := by decide +kernel
theorem dX11_next_117 : decode cX11_next 117 = .ok (.aload_n 0, 1) := by decide +kernel
theorem dX11_next_118 : decode cX11_next 118 = .ok (.getfield 19, 3) := by decide +kernel
theorem dX11_next_121 : decode cX11_next 121 = .ok (.invokevirtual 192, 3) := by decide +kernel
theorem dX11_next_124 : decode cX11_next 124 = .ok (.aload_n 0, 1) := by decide +kernel
theorem dX11_next_125 : decode cX11_next 125 = .ok (.getfield 19, 3) := by decide +kernel
theorem dX11_next_128 : decode cX11_next 128 = .ok (.iload_n 3, 1) := by decide +kernel
theorem dX11_next_129 : decode cX11_next 129 = .ok (.i2l, 1) := by decide +kernel
theorem dX11_next_130 : decode cX11_next 130 = .ok (.invokevirtual 214, 3) := by decide +kernel
theorem dX11_next_133 : decode cX11_next 133 = .ok (.iload_n 2, 1) := by decide +kernel
theorem dX11_next_134 : decode cX11_next 134 = .ok (.ireturn, 1) := by decide +kernel
theorem dX11_isMoreEven_0 : decode cX11_isMoreEven 0 = .ok (.iconst 2, 1) := by decide +kernel
theorem dX11_isMoreEven_1 : decode cX11_isMoreEven 1 = .ok (.iload_n 0, 1) := by decide +kernel
theorem dX11_isMoreEven_2 : decode cX11_isMoreEven 2 = .ok (.imul, 1) := by decide +kernel
theorem dX11_isMoreEven_3 : decode cX11_isMoreEven 3 = .ok (.iload_n 2, 1) := by decide +kernel
theorem dX11_isMoreEven_4 : decode cX11_isMoreEven 4 = .ok (.isub, 1) := by decide +kernel
theorem dX11_isMoreEven_5 : decode cX11_isMoreEven 5 = .ok (.invokestatic 367, 3) := by decide +kernel
theorem dX11_isMoreEven_8 : decode cX11_isMoreEven 8 = .ok (.iconst 2, 1) := by decide +kernel
theorem dX11_isMoreEven_9 : decode cX11_isMoreEven 9 = .ok (.iload_n 1, 1) := by decide +kernel
theorem dX11_isMoreEven_10 : decode cX11_isMoreEven 10 = .ok (.imul, 1) := by decide +kernel
theorem dX11_isMoreEven_11 : decode cX11_isMoreEven 11 = .ok (.iload_n 2, 1) := by decide +kernel
theorem dX11_isMoreEven_12 : decode cX11_isMoreEven 12 = .ok (.isub, 1) := by decide +kernel
theorem dX11_isMoreEven_13 : decode cX11_isMoreEven 13 = .ok (.invokestatic 367, 3) := by decide +kernel
theorem dX11_isMoreEven_16 : decode cX11_isMoreEven 16 = .ok (.if_icmp .ge 7, 3) := by decide +kernel
theorem dX11_isMoreEven_19 : decode cX11_isMoreEven 19 = .ok (.iconst 1, 1) := by decide +kernel
theorem dX11_isMoreEven_20 : decode cX11_isMoreEven 20 = .ok (.goto 4, 3) := by decide +kernel
theorem dX11_isMoreEven_23 : decode cX11_isMoreEven 23 = .ok (.iconst 0, 1) := by decide +kernel
theorem dX11_isMoreEven_24 : decode cX11_isMoreEven 24 = .ok (.ireturn, 1) := by decide +kernel
theorem dX11_eye_0 : decode cX11_eye 0 = .ok (.iload_n 1, 1) := by decide +kernel
theorem dX11_eye_1 : decode cX11_eye 1 = .ok (.bipush 6, 2) := by decide +kernel
theorem dX11_eye_3 : decode cX11_eye 3 = .ok (.invokestatic 101, 3) := by decide +kernel
theorem dX11_eye_6 : decode cX11_eye 6 = .ok (.ifCond .eq 11, 3) := by decide +kernel
theorem dX11_eye_9 : decode cX11_eye 9 = .ok (.aload_n 0, 1) := by decide +kernel
theorem dX11_eye_10 : decode cX11_eye 10 = .ok (.iload_n 2, 1) := by decide +kernel
theorem dX11_eye_11 : decode cX11_eye 11 = .ok (.invokevirtual 218, 3) := by decide +kernel
theorem dX11_eye_14 : decode cX11_eye 14 = .ok (.ifCond .ne 5, 3) := by decide +kernel
theorem dX11_eye_17 : decode cX11_eye 17 = .ok (.iconst (-1), 1) := by decide +kernel
theorem dX11_eye_18 : decode cX11_eye 18 = .ok (.ireturn, 1) := by decide +kernel
theorem dX11_eye_19 : decode cX11_eye 19 = .ok (.aload_n 0, 1) := by decide +kernel
theorem dX11_eye_20 : decode cX11_eye 20 = .ok (.getfield 44, 3) := by decide +kernel
theorem dX11_eye_23 : decode cX11_eye 23 = .ok (.invokevirtual 286, 3) := by decide +kernel
theorem dX11_eye_26 : decode cX11_eye 26 = .ok (.iconst 0, 1) := by decide +kernel
theorem dX11_eye_27 : decode cX11_eye 27 = .ok (.istore_n 3, 1) := by decide +kernel
theorem dX11_eye_28 : decode cX11_eye 28 = .ok (.iconst 0, 1) := by decide +kernel
theorem dX11_eye_29 : decode cX11_eye 29 = .ok (.istore 4, 2) := by decide +kernel
theorem dX11_eye_31 : decode cX11_eye 31 = .ok (.iconst 0, 1) := by decide +kernel
theorem dX11_eye_32 : decode cX11_eye 32 = .ok (.istore 5, 2) := by decide +kernel
theorem dX11_eye_34 : decode cX11_eye 34 = .ok (.iconst 0, 1) := by decide +kernel
theorem dX11_eye_35 : decode cX11_eye 35 = .ok (.istore 6, 2) := by decide +kernel
theorem dX11_eye_37 : decode cX11_eye 37 = .ok (.aload_n 0, 1) := by decide +kernel
theorem dX11_eye_38 : decode cX11_eye 38 = .ok (.getfield 44, 3) := by decide +kernel
theorem dX11_eye_41 : decode cX11_eye 41 = .ok (.iload_n 1, 1) := by decide +kernel
theorem dX11_eye_42 : decode cX11_eye 42 = .ok (.invokevirtual 370, 3) := by decide +kernel
theorem dX11_eye_45 : decode cX11_eye 45 = .ok (.istore 7, 2) := by decide +kernel
theorem dX11_eye_47 : decode cX11_eye 47 = .ok (.iconst 0, 1) := by decide +kernel
theorem dX11_eye_48 : decode cX11_eye 48 = .ok (.istore 8, 2) := by decide +kernel
theorem dX11_eye_50 : decode cX11_eye 50 = .ok (.iload 8, 2) := by decide +kernel
theorem dX11_eye_52 : decode cX11_eye 52 = .ok (.aload_n 0, 1) := by decide +kernel
theorem dX11_eye_53 : decode cX11_eye 53 = .ok (.getfield 44, 3) := by decide +kernel
theorem dX11_eye_56 : decode cX11_eye 56 = .ok (.getfield 251, 3) := by decide +kernel
theorem dX11_eye_59 : decode cX11_eye 59 = .ok (.if_icmp .ge 139, 3) := by decide +kernel
theorem dX11_eye_62 : decode cX11_eye 62 = .ok (.iload 7, 2) := by decide +kernel
theorem dX11_eye_64 : decode cX11_eye 64 = .ok (.iload 8, 2) := by decide +kernel
theorem dX11_eye_66 : decode cX11_eye 66 = .ok (.ishr, 1) := by decide +kernel
theorem dX11_eye_67 : decode cX11_eye 67 = .ok (.iconst 1, 1) := by decide +kernel
theorem dX11_eye_68 : decode cX11_eye 68 = .ok (.iand, 1) := by decide +kernel
theorem dX11_eye_69 : decode cX11_eye 69 = .ok (.ifCond .eq 123, 3) := by decide +kernel
theorem dX11_eye_72 : decode cX11_eye 72 = .ok (.aload_n 0, 1) := by decide +kernel
theorem dX11_eye_73 : decode cX11_eye 73 = .ok (.getfield 44, 3) := by decide +kernel
theorem dX11_eye_76 : decode cX11_eye 76 = .ok (.iload_n 2, 1) := by decide +kernel
theorem dX11_eye_77 : decode cX11_eye 77 = .ok (.invokevirtual 289, 3) := by decide +kernel
theorem dX11_eye_80 : decode cX11_eye 80 = .ok (.iload 8, 2) := by decide +kernel
theorem dX11_eye_82 : decode cX11_eye 82 = .ok (.ishr, 1) := by decide +kernel
theorem dX11_eye_83 : decode cX11_eye 83 = .ok (.iconst 1, 1) := by decide +kernel
theorem dX11_eye_84 : decode cX11_eye 84 = .ok (.iand, 1) := by decide +kernel
theorem dX11_eye_85 : decode cX11_eye 85 = .ok (.ifCond .eq 7, 3) := by decide +kernel
theorem dX11_eye_88 : decode cX11_eye 88 = .ok (.iconst 1, 1) := by decide +kernel
theorem dX11_eye_89 : decode cX11_eye 89 = .ok (.goto 4, 3) := by decide +kernel
theorem dX11_eye_92 : decode cX11_eye 92 = .ok (.iconst 0, 1) := by decide +kernel
theorem dX11_eye_93 : decode cX11_eye 93 = .ok (.istore 9, 2) := by decide +kernel
theorem dX11_eye_95 : decode cX11_eye 95 = .ok (.aload_n 0, 1) := by decide +kernel
theorem dX11_eye_96 : decode cX11_eye 96 = .ok (.getfield 26, 3) := by decide +kernel
theorem dX11_eye_99 : decode cX11_eye 99 = .ok (.iconst 0, 1) := by decide +kernel
theorem dX11_eye_100 : decode cX11_eye 100 = .ok (.aload_n 0, 1) := by decide +kernel
theorem dX11_eye_101 : decode cX11_eye 101 = .ok (.getfield 44, 3) := by decide +kernel
theorem dX11_eye_104 : decode cX11_eye 104 = .ok (.getfield 260, 3) := by decide +kernel
theorem dX11_eye_107 : decode cX11_eye 107 = .ok (.iload 8, 2) := by decide +kernel
theorem dX11_eye_109 : decode cX11_eye 109 = .ok (.aaload, 1) := by decide +kernel
theorem dX11_eye_110 : decode cX11_eye 110 = .ok (.getfield 373, 3) := by decide +kernel
theorem dX11_eye_113 : decode cX11_eye 113 = .ok (.aload_n 0, 1) := by decide +kernel
theorem dX11_eye_114 : decode cX11_eye 114 = .ok (.getfield 44, 3) := by decide +kernel
theorem dX11_eye_117 : decode cX11_eye 117 = .ok (.getfield 260, 3) := by decide +kernel
theorem dX11_eye_120 : decode cX11_eye 120 = .ok (.iload 8, 2) := by decide +kernel
theorem dX11_eye_122 : decode cX11_eye 122 = .ok (.aaload, 1) := by decide +kernel
theorem dX11_eye_123 : decode cX11_eye 123 = .ok (.getfield 376, 3) := by decide +kernel
theorem dX11_eye_126 : decode cX11_eye 126 = .ok (.invokevirtual 225, 3) := by decide +kernel
theorem dX11_eye_129 : decode cX11_eye 129 = .ok (.istore 10, 2) := by decide +kernel
theorem dX11_eye_131 : decode cX11_eye 131 = .ok (.iinc 6 1, 3) := by decide +kernel
theorem dX11_eye_134 : decode cX11_eye 134 = .ok (.iload_n 3, 1) := by decide +kernel
theorem dX11_eye_135 : decode cX11_eye 135 = .ok (.iload 9, 2) := by decide +kernel
theorem dX11_eye_137 : decode cX11_eye 137 = .ok (.ifCond .eq 12, 3) := by decide +kernel
theorem dX11_eye_140 : decode cX11_eye 140 = .ok (.iload 10, 2) := by decide +kernel
theorem dX11_eye_142 : decode cX11_eye 142 = .ok (.ifCond .eq 7, 3) := by decide +kernel
theorem dX11_eye_145 : decode cX11_eye 145 = .ok (.iconst 1, 1) := by decide +kernel
theorem dX11_eye_146 : decode cX11_eye 146 = .ok (.goto 4, 3) := by decide +kernel
theorem dX11_eye_149 : decode cX11_eye 149 = .ok (.iconst 0, 1) := by decide +kernel
theorem dX11_eye_150 : decode cX11_eye 150 = .ok (.iadd, 1) := by decide +kernel
theorem dX11_eye_151 : decode cX11_eye 151 = .ok (.istore_n 3, 1) := by decide +kernel
theorem dX11_eye_152 : decode cX11_eye 152 = .ok (.iload 4, 2) := by decide +kernel
theorem dX11_eye_154 : decode cX11_eye 154 = .ok (.iload 9, 2) := by decide +kernel
theorem dX11_eye_156 : decode cX11_eye 156 = .ok (.ifCond .eq 12, 3) := by decide +kernel
theorem dX11_eye_159 : decode cX11_eye 159 = .ok (.iload 10, 2) := by decide +kernel
theorem dX11_eye_161 : decode cX11_eye 161 = .ok (.ifCond .ne 7, 3) := by decide +kernel
theorem dX11_eye_164 : decode cX11_eye 164 = .ok (.iconst 1, 1) := by decide +kernel
theorem dX11_eye_165 : decode cX11_eye 165 = .ok (.goto 4, 3) := by decide +kernel
theorem dX11_eye_168 : decode cX11_eye 168 = .ok (.iconst 0, 1) := by decide +kernel
theorem dX11_eye_169 : decode cX11_eye 169 = .ok (.iadd, 1) := by decide +kernel
theorem dX11_eye_170 : decode cX11_eye 170 = .ok (.istore 4, 2) := by decide +kernel
theorem dX11_eye_172 : decode cX11_eye 172 = .ok (.iload 5, 2) := by decide +kernel
theorem dX11_eye_174 : decode cX11_eye 174 = .ok (.iload 9, 2) := by decide +kernel
theorem dX11_eye_176 : decode cX11_eye 176 = .ok (.ifCond .ne 12, 3) := by decide +kernel
theorem dX11_eye_179 : decode cX11_eye 179 = .ok (.iload 10, 2) := by decide +kernel
theorem dX11_eye_181 : decode cX11_eye 181 = .ok (.ifCond .eq 7, 3) := by decide +kernel
theorem dX11_eye_184 : decode cX11_eye 184 = .ok (.iconst 1, 1) := by decide +kernel
theorem dX11_eye_185 : decode cX11_eye 185 = .ok (.goto 4, 3) := by decide +kernel
theorem dX11_eye_188 : decode cX11_eye 188 = .ok (.iconst 0, 1) := by decide +kernel
theorem dX11_eye_189 : decode cX11_eye 189 = .ok (.iadd, 1) := by decide +kernel
theorem dX11_eye_190 : decode cX11_eye 190 = .ok (.istore 5, 2) := by decide +kernel
theorem dX11_eye_192 : decode cX11_eye 192 = .ok (.iinc 8 1, 3) := by decide +kernel
theorem dX11_eye_195 : decode cX11_eye 195 = .ok (.goto (-145), 3) := by decide +kernel
theorem dX11_eye_198 : decode cX11_eye 198 = .ok (.aload_n 0, 1) := by decide +kernel
theorem dX11_eye_199 : decode cX11_eye 199 = .ok (.getfield 19, 3) := by decide +kernel
theorem dX11_eye_202 : decode cX11_eye 202 = .ok (.invokevirtual 192, 3) := by decide +kernel
theorem dX11_eye_205 : decode cX11_eye 205 = .ok (.aload_n 0, 1) := by decide +kernel
theorem dX11_eye_206 : decode cX11_eye 206 = .ok (.getfield 19, 3) := by decide +kernel
theorem dX11_eye_209 : decode cX11_eye 209 = .ok (.iload_n 3, 1) := by decide +kernel
theorem dX11_eye_210 : decode cX11_eye 210 = .ok (.i2l, 1) := by decide +kernel
theorem dX11_eye_211 : decode cX11_eye 211 = .ok (.invokevirtual 214, 3) := by decide +kernel
theorem dX11_eye_214 : decode cX11_eye 214 = .ok (.aload_n 0, 1) := by decide +kernel
theorem dX11_eye_215 : decode cX11_eye 215 = .ok (.getfield 19, 3) := by decide +kernel
theorem dX11_eye_218 : decode cX11_eye 218 = .ok (.iload 4, 2) := by decide +kernel
theorem dX11_eye_220 : decode cX11_eye 220 = .ok (.i2l, 1) := by decide +kernel
theorem dX11_eye_221 : decode cX11_eye 221 = .ok (.invokevirtual 214, 3) := by decide +kernel
theorem dX11_eye_224 : decode cX11_eye 224 = .ok (.aload_n 0, 1) := by decide +kernel
theorem dX11_eye_225 : decode cX11_eye 225 = .ok (.getfield 19, 3) := by decide +kernel
theorem dX11_eye_228 : decode cX11_eye 228 = .ok (.iload 5, 2) := by decide +kernel
theorem dX11_eye_230 : decode cX11_eye 230 = .ok (.i2l, 1) := by decide +kernel
theorem dX11_eye_231 : decode cX11_eye 231 = .ok (.invokevirtual 214, 3) := by decide +kernel
theorem dX11_eye_234 : decode cX11_eye 234 = .ok (.aload_n 0, 1) := by decide +kernel
theorem dX11_eye_235 : decode cX11_eye 235 = .ok (.getfield 19, 3) := by decide +kernel
theorem dX11_eye_238 : decode cX11_eye 238 = .ok (.iload 6, 2) := by decide +kernel
theorem dX11_eye_240 : decode cX11_eye 240 = .ok (.iload_n 3, 1) := by decide +kernel
theorem dX11_eye_241 : decode cX11_eye 241 = .ok (.isub, 1) := by decide +kernel
theorem dX11_eye_242 : decode cX11_eye 242 = .ok (.iload 4, 2) := by decide +kernel
theorem dX11_eye_244 : decode cX11_eye 244 = .ok (.isub, 1) := by decide +kernel
theorem dX11_eye_245 : decode cX11_eye 245 = .ok (.iload 5, 2) := by decide +kernel
theorem dX11_eye_247 : decode cX11_eye 247 = .ok (.isub, 1) := by decide +kernel
theorem dX11_eye_248 : decode cX11_eye 248 = .ok (.i2l, 1) := by decide +kernel
theorem dX11_eye_249 : decode cX11_eye 249 = .ok (.invokevirtual 214, 3) := by decide +kernel
theorem dX11_eye_252 : decode cX11_eye 252 = .ok (.iload 6, 2) := by decide +kernel
theorem dX11_eye_254 : decode cX11_eye 254 = .ok (.ireturn, 1) := by decide +kernel
theorem dX11_lean_0 : decode cX11_lean 0 = .ok (.iload_n 1, 1) := by decide +kernel
theorem dX11_lean_1 : decode cX11_lean 1 = .ok (.bipush 6, 2) := by decide +kernel
theorem dX11_lean_3 : decode cX11_lean 3 = .ok (.invokestatic 101, 3) := by decide +kernel
theorem dX11_lean_6 : decode cX11_lean 6 = .ok (.ifCond .eq 11, 3) := by decide +kernel
theorem dX11_lean_9 : decode cX11_lean 9 = .ok (.iload_n 2, 1) := by decide +kernel
theorem dX11_lean_10 : decode cX11_lean 10 = .ok (.iconst 2, 1) := by decide +kernel
theorem dX11_lean_11 : decode cX11_lean 11 = .ok (.invokestatic 101, 3) := by decide +kernel
theorem dX11_lean_14 : decode cX11_lean 14 = .ok (.ifCond .ne 5, 3) := by decide +kernel
theorem dX11_lean_17 : decode cX11_lean 17 = .ok (.iconst (-1), 1) := by decide +kernel
theorem dX11_lean_18 : decode cX11_lean 18 = .ok (.ireturn, 1) := by decide +kernel
theorem dX11_lean_19 : decode cX11_lean 19 = .ok (.aload_n 0, 1) := by decide +kernel
theorem dX11_lean_20 : decode cX11_lean 20 = .ok (.getfield 44, 3) := by decide +kernel
theorem dX11_lean_23 : decode cX11_lean 23 = .ok (.invokevirtual 286, 3) := by decide +kernel
theorem dX11_lean_26 : decode cX11_lean 26 = .ok (.aload_n 0, 1) := by decide +kernel
theorem dX11_lean_27 : decode cX11_lean 27 = .ok (.getfield 44, 3) := by decide +kernel
theorem dX11_lean_30 : decode cX11_lean 30 = .ok (.iload_n 1, 1) := by decide +kernel
theorem dX11_lean_31 : decode cX11_lean 31 = .ok (.invokevirtual 370, 3) := by decide +kernel
theorem dX11_lean_34 : decode cX11_lean 34 = .ok (.istore_n 3, 1) := by decide +kernel
theorem dX11_lean_35 : decode cX11_lean 35 = .ok (.bipush (-2), 2) := by decide +kernel
theorem dX11_lean_37 : decode cX11_lean 37 = .ok (.istore 4, 2) := by decide +kernel
theorem dX11_lean_39 : decode cX11_lean 39 = .ok (.iconst 0, 1) := by decide +kernel
theorem dX11_lean_40 : decode cX11_lean 40 = .ok (.istore 5, 2) := by decide +kernel
theorem dX11_lean_42 : decode cX11_lean 42 = .ok (.iload 5, 2) := by decide +kernel
theorem dX11_lean_44 : decode cX11_lean 44 = .ok (.aload_n 0, 1) := by decide +kernel
theorem dX11_lean_45 : decode cX11_lean 45 = .ok (.getfield 35, 3) := by decide +kernel
theorem dX11_lean_48 : decode cX11_lean 48 = .ok (.getfield 144, 3) := by decide +kernel
theorem dX11_lean_51 : decode cX11_lean 51 = .ok (.if_icmp .ge 47, 3) := by decide +kernel
theorem dX11_lean_54 : decode cX11_lean 54 = .ok (.aload_n 0, 1) := by decide +kernel
theorem dX11_lean_55 : decode cX11_lean 55 = .ok (.getfield 44, 3) := by decide +kernel
theorem dX11_lean_58 : decode cX11_lean 58 = .ok (.iload 5, 2) := by decide +kernel
theorem dX11_lean_60 : decode cX11_lean 60 = .ok (.invokevirtual 305, 3) := by decide +kernel
theorem dX11_lean_63 : decode cX11_lean 63 = .ok (.iload_n 3, 1) := by decide +kernel
theorem dX11_lean_64 : decode cX11_lean 64 = .ok (.iconst (-1), 1) := by decide +kernel
theorem dX11_lean_65 : decode cX11_lean 65 = .ok (.ixor, 1) := by decide +kernel
theorem dX11_lean_66 : decode cX11_lean 66 = .ok (.iand, 1) := by decide +kernel
theorem dX11_lean_67 : decode cX11_lean 67 = .ok (.ifCond .ne 25, 3) := by decide +kernel
theorem dX11_lean_70 : decode cX11_lean 70 = .ok (.iload 4, 2) := by decide +kernel
theorem dX11_lean_72 : decode cX11_lean 72 = .ok (.aload_n 0, 1) := by decide +kernel
theorem dX11_lean_73 : decode cX11_lean 73 = .ok (.getfield 44, 3) := by decide +kernel
theorem dX11_lean_76 : decode cX11_lean 76 = .ok (.iload 5, 2) := by decide +kernel
theorem dX11_lean_78 : decode cX11_lean 78 = .ok (.invokevirtual 289, 3) := by decide +kernel
theorem dX11_lean_81 : decode cX11_lean 81 = .ok (.iload_n 3, 1) := by decide +kernel
theorem dX11_lean_82 : decode cX11_lean 82 = .ok (.iand, 1) := by decide +kernel
theorem dX11_lean_83 : decode cX11_lean 83 = .ok (.invokestatic 308, 3) := by decide +kernel
theorem dX11_lean_86 : decode cX11_lean 86 = .ok (.iload_n 2, 1) := by decide +kernel
theorem dX11_lean_87 : decode cX11_lean 87 = .ok (.invokestatic 299, 3) := by decide +kernel
theorem dX11_lean_90 : decode cX11_lean 90 = .ok (.istore 4, 2) := by decide +kernel
theorem dX11_lean_92 : decode cX11_lean 92 = .ok (.iinc 5 1, 3) := by decide +kernel
theorem dX11_lean_95 : decode cX11_lean 95 = .ok (.goto (-53), 3) := by decide +kernel
theorem dX11_lean_98 : decode cX11_lean 98 = .ok (.iload 4, 2) := by decide +kernel
