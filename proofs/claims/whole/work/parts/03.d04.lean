theorem dX12_law_219 : decode cX12_law 219 = .ok (.getfield 99, 3) := by decide +kernel
theorem dX12_law_222 : decode cX12_law 222 = .ok (.iconst 1, 1) := by decide +kernel
theorem dX12_law_223 : decode cX12_law 223 = .ok (.isub, 1) := by decide +kernel
theorem dX12_law_224 : decode cX12_law 224 = .ok (.ireturn, 1) := by decide +kernel
theorem dX12_lag_0 : decode cX12_lag 0 = .ok (.aload_n 0, 1) := by decide +kernel
theorem dX12_lag_1 : decode cX12_lag 1 = .ok (.iconst 0, 1) := by decide +kernel
theorem dX12_lag_2 : decode cX12_lag 2 = .ok (.putfield 1, 3) := by decide +kernel
theorem dX12_lag_5 : decode cX12_lag 5 = .ok (.iload_n 1, 1) := by decide +kernel
theorem dX12_lag_6 : decode cX12_lag 6 = .ok (.i2l, 1) := by decide +kernel
theorem dX12_lag_7 : decode cX12_lag 7 = .ok (.lconst 0, 1) := by decide +kernel
theorem dX12_lag_8 : decode cX12_lag 8 = .ok (.ldc2_w 62, 3) := by decide +kernel
theorem dX12_lag_11 : decode cX12_lag 11 = .ok (.invokestatic 29, 3) := by decide +kernel
theorem dX12_lag_14 : decode cX12_lag 14 = .ok (.ifCond .eq 15, 3) := by decide +kernel
theorem dX12_lag_17 : decode cX12_lag 17 = .ok (.iload_n 2, 1) := by decide +kernel
theorem dX12_lag_18 : decode cX12_lag 18 = .ok (.i2l, 1) := by decide +kernel
theorem dX12_lag_19 : decode cX12_lag 19 = .ok (.lconst 0, 1) := by decide +kernel
theorem dX12_lag_20 : decode cX12_lag 20 = .ok (.ldc2_w 120, 3) := by decide +kernel
theorem dX12_lag_23 : decode cX12_lag 23 = .ok (.invokestatic 29, 3) := by decide +kernel
theorem dX12_lag_26 : decode cX12_lag 26 = .ok (.ifCond .ne 5, 3) := by decide +kernel
theorem dX12_lag_29 : decode cX12_lag 29 = .ok (.iconst (-1), 1) := by decide +kernel
theorem dX12_lag_30 : decode cX12_lag 30 = .ok (.ireturn, 1) := by decide +kernel
theorem dX12_lag_31 : decode cX12_lag 31 = .ok (.aload_n 0, 1) := by decide +kernel
theorem dX12_lag_32 : decode cX12_lag 32 = .ok (.getfield 122, 3) := by decide +kernel
theorem dX12_lag_35 : decode cX12_lag 35 = .ok (.iload_n 1, 1) := by decide +kernel
theorem dX12_lag_36 : decode cX12_lag 36 = .ok (.iaload, 1) := by decide +kernel
theorem dX12_lag_37 : decode cX12_lag 37 = .ok (.istore_n 3, 1) := by decide +kernel
theorem dX12_lag_38 : decode cX12_lag 38 = .ok (.aload_n 0, 1) := by decide +kernel
theorem dX12_lag_39 : decode cX12_lag 39 = .ok (.getfield 122, 3) := by decide +kernel
theorem dX12_lag_42 : decode cX12_lag 42 = .ok (.iload_n 1, 1) := by decide +kernel
theorem dX12_lag_43 : decode cX12_lag 43 = .ok (.iload_n 2, 1) := by decide +kernel
theorem dX12_lag_44 : decode cX12_lag 44 = .ok (.iastore, 1) := by decide +kernel
theorem dX12_lag_45 : decode cX12_lag 45 = .ok (.iload_n 3, 1) := by decide +kernel
theorem dX12_lag_46 : decode cX12_lag 46 = .ok (.ireturn, 1) := by decide +kernel
theorem dX12_lags_0 : decode cX12_lags 0 = .ok (.aload_n 0, 1) := by decide +kernel
theorem dX12_lags_1 : decode cX12_lags 1 = .ok (.iconst 0, 1) := by decide +kernel
theorem dX12_lags_2 : decode cX12_lags 2 = .ok (.putfield 1, 3) := by decide +kernel
theorem dX12_lags_5 : decode cX12_lags 5 = .ok (.iload_n 1, 1) := by decide +kernel
theorem dX12_lags_6 : decode cX12_lags 6 = .ok (.i2l, 1) := by decide +kernel
theorem dX12_lags_7 : decode cX12_lags 7 = .ok (.lconst 0, 1) := by decide +kernel
theorem dX12_lags_8 : decode cX12_lags 8 = .ok (.ldc2_w 125, 3) := by decide +kernel
theorem dX12_lags_11 : decode cX12_lags 11 = .ok (.invokestatic 29, 3) := by decide +kernel
theorem dX12_lags_14 : decode cX12_lags 14 = .ok (.ifCond .eq 9, 3) := by decide +kernel
theorem dX12_lags_17 : decode cX12_lags 17 = .ok (.iload_n 2, 1) := by decide +kernel
theorem dX12_lags_18 : decode cX12_lags 18 = .ok (.bipush 6, 2) := by decide +kernel
theorem dX12_lags_20 : decode cX12_lags 20 = .ok (.if_icmp .le 5, 3) := by decide +kernel
theorem dX12_lags_23 : decode cX12_lags 23 = .ok (.iconst (-1), 1) := by decide +kernel
theorem dX12_lags_24 : decode cX12_lags 24 = .ok (.ireturn, 1) := by decide +kernel
theorem dX12_lags_25 : decode cX12_lags 25 = .ok (.iload_n 1, 1) := by decide +kernel
theorem dX12_lags_26 : decode cX12_lags 26 = .ok (.iconst 3, 1) := by decide +kernel
theorem dX12_lags_27 : decode cX12_lags 27 = .ok (.if_icmp .eq 10, 3) := by decide +kernel
theorem dX12_lags_30 : decode cX12_lags 30 = .ok (.iload_n 2, 1) := by decide +kernel
theorem dX12_lags_31 : decode cX12_lags 31 = .ok (.ifCond .ge 6, 3) := by decide +kernel
theorem dX12_lags_34 : decode cX12_lags 34 = .ok (.bipush (-2), 2) := by decide +kernel
theorem dX12_lags_36 : decode cX12_lags 36 = .ok (.ireturn, 1) := by decide +kernel
theorem dX12_lags_37 : decode cX12_lags 37 = .ok (.iload_n 3, 1) := by decide +kernel
theorem dX12_lags_38 : decode cX12_lags 38 = .ok (.istore 5, 2) := by decide +kernel
theorem dX12_lags_40 : decode cX12_lags 40 = .ok (.iconst 0, 1) := by decide +kernel
theorem dX12_lags_41 : decode cX12_lags 41 = .ok (.istore 6, 2) := by decide +kernel
theorem dX12_lags_43 : decode cX12_lags 43 = .ok (.iconst 0, 1) := by decide +kernel
theorem dX12_lags_44 : decode cX12_lags 44 = .ok (.istore 7, 2) := by decide +kernel
theorem dX12_lags_46 : decode cX12_lags 46 = .ok (.iload 7, 2) := by decide +kernel
theorem dX12_lags_48 : decode cX12_lags 48 = .ok (.bipush 6, 2) := by decide +kernel
theorem dX12_lags_50 : decode cX12_lags 50 = .ok (.if_icmp .ge 87, 3) := by decide +kernel
theorem dX12_lags_53 : decode cX12_lags 53 = .ok (.iload_n 1, 1) := by decide +kernel
theorem dX12_lags_54 : decode cX12_lags 54 = .ok (.ifCond .ne 9, 3) := by decide +kernel
theorem dX12_lags_57 : decode cX12_lags 57 = .ok (.iload 5, 2) := by decide +kernel
theorem dX12_lags_59 : decode cX12_lags 59 = .ok (.i2b, 1) := by decide +kernel
theorem dX12_lags_60 : decode cX12_lags 60 = .ok (.goto 16, 3) := by decide +kernel
theorem dX12_lags_63 : decode cX12_lags 63 = .ok (.iload_n 1, 1) := by decide +kernel
theorem dX12_lags_64 : decode cX12_lags 64 = .ok (.iconst 1, 1) := by decide +kernel
theorem dX12_lags_65 : decode cX12_lags 65 = .ok (.if_icmp .ne 9, 3) := by decide +kernel
theorem dX12_lags_68 : decode cX12_lags 68 = .ok (.iload 5, 2) := by decide +kernel
theorem dX12_lags_70 : decode cX12_lags 70 = .ok (.i2s, 1) := by decide +kernel
theorem dX12_lags_71 : decode cX12_lags 71 = .ok (.goto 5, 3) := by decide +kernel
theorem dX12_lags_74 : decode cX12_lags 74 = .ok (.iload 5, 2) := by decide +kernel
theorem dX12_lags_76 : decode cX12_lags 76 = .ok (.istore 8, 2) := by decide +kernel
theorem dX12_lags_78 : decode cX12_lags 78 = .ok (.aload_n 0, 1) := by decide +kernel
theorem dX12_lags_79 : decode cX12_lags 79 = .ok (.getfield 122, 3) := by decide +kernel
theorem dX12_lags_82 : decode cX12_lags 82 = .ok (.iload 7, 2) := by decide +kernel
theorem dX12_lags_84 : decode cX12_lags 84 = .ok (.iload_n 1, 1) := by decide +kernel
theorem dX12_lags_85 : decode cX12_lags 85 = .ok (.iconst 3, 1) := by decide +kernel
theorem dX12_lags_86 : decode cX12_lags 86 = .ok (.if_icmp .eq 9, 3) := by decide +kernel
theorem dX12_lags_89 : decode cX12_lags 89 = .ok (.iload 7, 2) := by decide +kernel
theorem dX12_lags_91 : decode cX12_lags 91 = .ok (.iload_n 2, 1) := by decide +kernel
theorem dX12_lags_92 : decode cX12_lags 92 = .ok (.if_icmp .lt 7, 3) := by decide +kernel
theorem dX12_lags_95 : decode cX12_lags 95 = .ok (.iconst 0, 1) := by decide +kernel
theorem dX12_lags_96 : decode cX12_lags 96 = .ok (.goto 15, 3) := by decide +kernel
theorem dX12_lags_99 : decode cX12_lags 99 = .ok (.iconst 0, 1) := by decide +kernel
theorem dX12_lags_100 : decode cX12_lags 100 = .ok (.sipush 200, 3) := by decide +kernel
theorem dX12_lags_103 : decode cX12_lags 103 = .ok (.iload 8, 2) := by decide +kernel
theorem dX12_lags_105 : decode cX12_lags 105 = .ok (.invokestatic 69, 3) := by decide +kernel
theorem dX12_lags_108 : decode cX12_lags 108 = .ok (.invokestatic 127, 3) := by decide +kernel
theorem dX12_lags_111 : decode cX12_lags 111 = .ok (.iastore, 1) := by decide +kernel
theorem dX12_lags_112 : decode cX12_lags 112 = .ok (.iload 6, 2) := by decide +kernel
theorem dX12_lags_114 : decode cX12_lags 114 = .ok (.aload_n 0, 1) := by decide +kernel
theorem dX12_lags_115 : decode cX12_lags 115 = .ok (.getfield 122, 3) := by decide +kernel
theorem dX12_lags_118 : decode cX12_lags 118 = .ok (.iload 7, 2) := by decide +kernel
theorem dX12_lags_120 : decode cX12_lags 120 = .ok (.iaload, 1) := by decide +kernel
theorem dX12_lags_121 : decode cX12_lags 121 = .ok (.iadd, 1) := by decide +kernel
theorem dX12_lags_122 : decode cX12_lags 122 = .ok (.istore 6, 2) := by decide +kernel
theorem dX12_lags_124 : decode cX12_lags 124 = .ok (.iload 5, 2) := by decide +kernel
theorem dX12_lags_126 : decode cX12_lags 126 = .ok (.iload 4, 2) := by decide +kernel
theorem dX12_lags_128 : decode cX12_lags 128 = .ok (.iadd, 1) := by decide +kernel
theorem dX12_lags_129 : decode cX12_lags 129 = .ok (.istore 5, 2) := by decide +kernel
theorem dX12_lags_131 : decode cX12_lags 131 = .ok (.iinc 7 1, 3) := by decide +kernel
theorem dX12_lags_134 : decode cX12_lags 134 = .ok (.goto (-88), 3) := by decide +kernel
theorem dX12_lags_137 : decode cX12_lags 137 = .ok (.iload_n 1, 1) := by decide +kernel
theorem dX12_lags_138 : decode cX12_lags 138 = .ok (.iconst 3, 1) := by decide +kernel
theorem dX12_lags_139 : decode cX12_lags 139 = .ok (.if_icmp .ne 8, 3) := by decide +kernel
theorem dX12_lags_142 : decode cX12_lags 142 = .ok (.bipush (-3), 2) := by decide +kernel
theorem dX12_lags_144 : decode cX12_lags 144 = .ok (.goto 5, 3) := by decide +kernel
theorem dX12_lags_147 : decode cX12_lags 147 = .ok (.iload 6, 2) := by decide +kernel
theorem dX12_lags_149 : decode cX12_lags 149 = .ok (.ireturn, 1) := by decide +kernel
theorem dX12_yearOf_0 : decode cX12_yearOf 0 = .ok (.iload_n 2, 1) := by decide +kernel
theorem dX12_yearOf_1 : decode cX12_yearOf 1 = .ok (.istore_n 3, 1) := by decide +kernel
theorem dX12_yearOf_2 : decode cX12_yearOf 2 = .ok (.aload_n 0, 1) := by decide +kernel
theorem dX12_yearOf_3 : decode cX12_yearOf 3 = .ok (.getfield 99, 3) := by decide +kernel
theorem dX12_yearOf_6 : decode cX12_yearOf 6 = .ok (.iconst 1, 1) := by decide +kernel
theorem dX12_yearOf_7 : decode cX12_yearOf 7 = .ok (.isub, 1) := by decide +kernel
theorem dX12_yearOf_8 : decode cX12_yearOf 8 = .ok (.istore 4, 2) := by decide +kernel
theorem dX12_yearOf_10 : decode cX12_yearOf 10 = .ok (.iload 4, 2) := by decide +kernel
theorem dX12_yearOf_12 : decode cX12_yearOf 12 = .ok (.iload_n 1, 1) := by decide +kernel
theorem dX12_yearOf_13 : decode cX12_yearOf 13 = .ok (.if_icmp .le 19, 3) := by decide +kernel
theorem dX12_yearOf_16 : decode cX12_yearOf 16 = .ok (.iload_n 3, 1) := by decide +kernel
theorem dX12_yearOf_17 : decode cX12_yearOf 17 = .ok (.aload_n 0, 1) := by decide +kernel
theorem dX12_yearOf_18 : decode cX12_yearOf 18 = .ok (.getfield 102, 3) := by decide +kernel
theorem dX12_yearOf_21 : decode cX12_yearOf 21 = .ok (.iload 4, 2) := by decide +kernel
theorem dX12_yearOf_23 : decode cX12_yearOf 23 = .ok (.iaload, 1) := by decide +kernel
theorem dX12_yearOf_24 : decode cX12_yearOf 24 = .ok (.idiv, 1) := by decide +kernel
theorem dX12_yearOf_25 : decode cX12_yearOf 25 = .ok (.istore_n 3, 1) := by decide +kernel
theorem dX12_yearOf_26 : decode cX12_yearOf 26 = .ok (.iinc 4 (-1), 3) := by decide +kernel
theorem dX12_yearOf_29 : decode cX12_yearOf 29 = .ok (.goto (-19), 3) := by decide +kernel
theorem dX12_yearOf_32 : decode cX12_yearOf 32 = .ok (.aload_n 0, 1) := by decide +kernel
theorem dX12_yearOf_33 : decode cX12_yearOf 33 = .ok (.getfield 114, 3) := by decide +kernel
theorem dX12_yearOf_36 : decode cX12_yearOf 36 = .ok (.iload_n 1, 1) := by decide +kernel
theorem dX12_yearOf_37 : decode cX12_yearOf 37 = .ok (.iaload, 1) := by decide +kernel
theorem dX12_yearOf_38 : decode cX12_yearOf 38 = .ok (.aload_n 0, 1) := by decide +kernel
theorem dX12_yearOf_39 : decode cX12_yearOf 39 = .ok (.getfield 117, 3) := by decide +kernel
theorem dX12_yearOf_42 : decode cX12_yearOf 42 = .ok (.iload_n 1, 1) := by decide +kernel
theorem dX12_yearOf_43 : decode cX12_yearOf 43 = .ok (.iaload, 1) := by decide +kernel
theorem dX12_yearOf_44 : decode cX12_yearOf 44 = .ok (.iload_n 3, 1) := by decide +kernel
theorem dX12_yearOf_45 : decode cX12_yearOf 45 = .ok (.aload_n 0, 1) := by decide +kernel
theorem dX12_yearOf_46 : decode cX12_yearOf 46 = .ok (.getfield 102, 3) := by decide +kernel
theorem dX12_yearOf_49 : decode cX12_yearOf 49 = .ok (.iload_n 1, 1) := by decide +kernel
theorem dX12_yearOf_50 : decode cX12_yearOf 50 = .ok (.iaload, 1) := by decide +kernel
theorem dX12_yearOf_51 : decode cX12_yearOf 51 = .ok (.irem, 1) := by decide +kernel
theorem dX12_yearOf_52 : decode cX12_yearOf 52 = .ok (.imul, 1) := by decide +kernel
theorem dX12_yearOf_53 : decode cX12_yearOf 53 = .ok (.iadd, 1) := by decide +kernel
theorem dX12_yearOf_54 : decode cX12_yearOf 54 = .ok (.ireturn, 1) := by decide +kernel
theorem dX12_lines_0 : decode cX12_lines 0 = .ok (.aload_n 0, 1) := by decide +kernel
theorem dX12_lines_1 : decode cX12_lines 1 = .ok (.iconst 0, 1) := by decide +kernel
theorem dX12_lines_2 : decode cX12_lines 2 = .ok (.putfield 130, 3) := by decide +kernel
theorem dX12_lines_5 : decode cX12_lines 5 = .ok (.iconst 0, 1) := by decide +kernel
theorem dX12_lines_6 : decode cX12_lines 6 = .ok (.istore 4, 2) := by decide +kernel
theorem dX12_lines_8 : decode cX12_lines 8 = .ok (.iload 4, 2) := by decide +kernel
theorem dX12_lines_10 : decode cX12_lines 10 = .ok (.aload_n 0, 1) := by decide +kernel
theorem dX12_lines_11 : decode cX12_lines 11 = .ok (.getfield 99, 3) := by decide +kernel
theorem dX12_lines_14 : decode cX12_lines 14 = .ok (.if_icmp .ge 118, 3) := by decide +kernel
theorem dX12_lines_17 : decode cX12_lines 17 = .ok (.aload_n 0, 1) := by decide +kernel
theorem dX12_lines_18 : decode cX12_lines 18 = .ok (.getfield 133, 3) := by decide +kernel
theorem dX12_lines_21 : decode cX12_lines 21 = .ok (.iload 4, 2) := by decide +kernel
theorem dX12_lines_23 : decode cX12_lines 23 = .ok (.invokestatic 136, 3) := by decide +kernel
theorem dX12_lines_26 : decode cX12_lines 26 = .ok (.ifCond .ne 100, 3) := by decide +kernel
theorem dX12_lines_29 : decode cX12_lines 29 = .ok (.aload_n 0, 1) := by decide +kernel
theorem dX12_lines_30 : decode cX12_lines 30 = .ok (.iload 4, 2) := by decide +kernel
theorem dX12_lines_32 : decode cX12_lines 32 = .ok (.iload_n 1, 1) := by decide +kernel
theorem dX12_lines_33 : decode cX12_lines 33 = .ok (.invokevirtual 140, 3) := by decide +kernel
theorem dX12_lines_36 : decode cX12_lines 36 = .ok (.aload_n 0, 1) := by decide +kernel
theorem dX12_lines_37 : decode cX12_lines 37 = .ok (.getfield 122, 3) := by decide +kernel
theorem dX12_lines_40 : decode cX12_lines 40 = .ok (.iload_n 3, 1) := by decide +kernel
theorem dX12_lines_41 : decode cX12_lines 41 = .ok (.iaload, 1) := by decide +kernel
theorem dX12_lines_42 : decode cX12_lines 42 = .ok (.iadd, 1) := by decide +kernel
theorem dX12_lines_43 : decode cX12_lines 43 = .ok (.iload_n 2, 1) := by decide +kernel
theorem dX12_lines_44 : decode cX12_lines 44 = .ok (.if_icmp .le 6, 3) := by decide +kernel
theorem dX12_lines_47 : decode cX12_lines 47 = .ok (.goto 79, 3) := by decide +kernel
theorem dX12_lines_50 : decode cX12_lines 50 = .ok (.aload_n 0, 1) := by decide +kernel
theorem dX12_lines_51 : decode cX12_lines 51 = .ok (.getfield 130, 3) := by decide +kernel
theorem dX12_lines_54 : decode cX12_lines 54 = .ok (.istore 5, 2) := by decide +kernel
theorem dX12_lines_56 : decode cX12_lines 56 = .ok (.iload 5, 2) := by decide +kernel
theorem dX12_lines_58 : decode cX12_lines 58 = .ok (.ifCond .le 49, 3) := by decide +kernel
theorem dX12_lines_61 : decode cX12_lines 61 = .ok (.aload_n 0, 1) := by decide +kernel
theorem dX12_lines_62 : decode cX12_lines 62 = .ok (.aload_n 0, 1) := by decide +kernel
theorem dX12_lines_63 : decode cX12_lines 63 = .ok (.getfield 143, 3) := by decide +kernel
theorem dX12_lines_66 : decode cX12_lines 66 = .ok (.iload 5, 2) := by decide +kernel
theorem dX12_lines_68 : decode cX12_lines 68 = .ok (.iconst 1, 1) := by decide +kernel
theorem dX12_lines_69 : decode cX12_lines 69 = .ok (.isub, 1) := by decide +kernel
theorem dX12_lines_70 : decode cX12_lines 70 = .ok (.iaload, 1) := by decide +kernel
theorem dX12_lines_71 : decode cX12_lines 71 = .ok (.iload_n 1, 1) := by decide +kernel
theorem dX12_lines_72 : decode cX12_lines 72 = .ok (.invokevirtual 140, 3) := by decide +kernel
theorem dX12_lines_75 : decode cX12_lines 75 = .ok (.aload_n 0, 1) := by decide +kernel
theorem dX12_lines_76 : decode cX12_lines 76 = .ok (.iload 4, 2) := by decide +kernel
theorem dX12_lines_78 : decode cX12_lines 78 = .ok (.iload_n 1, 1) := by decide +kernel
theorem dX12_lines_79 : decode cX12_lines 79 = .ok (.invokevirtual 140, 3) := by decide +kernel
theorem dX12_lines_82 : decode cX12_lines 82 = .ok (.if_icmp .le 25, 3) := by decide +kernel
theorem dX12_lines_85 : decode cX12_lines 85 = .ok (.aload_n 0, 1) := by decide +kernel
theorem dX12_lines_86 : decode cX12_lines 86 = .ok (.getfield 143, 3) := by decide +kernel
theorem dX12_lines_89 : decode cX12_lines 89 = .ok (.iload 5, 2) := by decide +kernel
theorem dX12_lines_91 : decode cX12_lines 91 = .ok (.aload_n 0, 1) := by decide +kernel
theorem dX12_lines_92 : decode cX12_lines 92 = .ok (.getfield 143, 3) := by decide +kernel
theorem dX12_lines_95 : decode cX12_lines 95 = .ok (.iload 5, 2) := by decide +kernel
theorem dX12_lines_97 : decode cX12_lines 97 = .ok (.iconst 1, 1) := by decide +kernel
theorem dX12_lines_98 : decode cX12_lines 98 = .ok (.isub, 1) := by decide +kernel
theorem dX12_lines_99 : decode cX12_lines 99 = .ok (.iaload, 1) := by decide +kernel
theorem dX12_lines_100 : decode cX12_lines 100 = .ok (.iastore, 1) := by decide +kernel
theorem dX12_lines_101 : decode cX12_lines 101 = .ok (.iinc 5 (-1), 3) := by decide +kernel
theorem dX12_lines_104 : decode cX12_lines 104 = .ok (.goto (-48), 3) := by decide +kernel
theorem dX12_lines_107 : decode cX12_lines 107 = .ok (.aload_n 0, 1) := by decide +kernel
theorem dX12_lines_108 : decode cX12_lines 108 = .ok (.getfield 143, 3) := by decide +kernel
theorem dX12_lines_111 : decode cX12_lines 111 = .ok (.iload 5, 2) := by decide +kernel
theorem dX12_lines_113 : decode cX12_lines 113 = .ok (.iload 4, 2) := by decide +kernel
theorem dX12_lines_115 : decode cX12_lines 115 = .ok (.iastore, 1) := by decide +kernel
theorem dX12_lines_116 : decode cX12_lines 116 = .ok (.aload_n 0, 1) := by decide +kernel
theorem dX12_lines_117 : decode cX12_lines 117 = .ok (.dup, 1) := by decide +kernel
theorem dX12_lines_118 : decode cX12_lines 118 = .ok (.getfield 130, 3) := by decide +kernel
theorem dX12_lines_121 : decode cX12_lines 121 = .ok (.iconst 1, 1) := by decide +kernel
theorem dX12_lines_122 : decode cX12_lines 122 = .ok (.iadd, 1) := by decide +kernel
theorem dX12_lines_123 : decode cX12_lines 123 = .ok (.putfield 130, 3) := by decide +kernel
theorem dX12_lines_126 : decode cX12_lines 126 = .ok (.iinc 4 1, 3) := by decide +kernel
theorem dX12_lines_129 : decode cX12_lines 129 = .ok (.goto (-121), 3) := by decide +kernel
theorem dX12_lines_132 : decode cX12_lines 132 = .ok (.iconst 0, 1) := by decide +kernel
theorem dX12_lines_133 : decode cX12_lines 133 = .ok (.istore 4, 2) := by decide +kernel
theorem dX12_lines_135 : decode cX12_lines 135 = .ok (.iload 4, 2) := by decide +kernel
theorem dX12_lines_137 : decode cX12_lines 137 = .ok (.aload_n 0, 1) := by decide +kernel
theorem dX12_lines_138 : decode cX12_lines 138 = .ok (.getfield 130, 3) := by decide +kernel
theorem dX12_lines_141 : decode cX12_lines 141 = .ok (.if_icmp .ge 72, 3) := by decide +kernel
theorem dX12_lines_144 : decode cX12_lines 144 = .ok (.aload_n 0, 1) := by decide +kernel
theorem dX12_lines_145 : decode cX12_lines 145 = .ok (.getfield 146, 3) := by decide +kernel
theorem dX12_lines_148 : decode cX12_lines 148 = .ok (.ifCond .lt 65, 3) := by decide +kernel
theorem dX12_lines_151 : decode cX12_lines 151 = .ok (.aload_n 0, 1) := by decide +kernel
theorem dX12_lines_152 : decode cX12_lines 152 = .ok (.getfield 143, 3) := by decide +kernel
theorem dX12_lines_155 : decode cX12_lines 155 = .ok (.iload 4, 2) := by decide +kernel
theorem dX12_lines_157 : decode cX12_lines 157 = .ok (.aload_n 0, 1) := by decide +kernel
theorem dX12_lines_158 : decode cX12_lines 158 = .ok (.getfield 143, 3) := by decide +kernel
theorem dX12_lines_161 : decode cX12_lines 161 = .ok (.iload 4, 2) := by decide +kernel
theorem dX12_lines_163 : decode cX12_lines 163 = .ok (.iaload, 1) := by decide +kernel
theorem dX12_lines_164 : decode cX12_lines 164 = .ok (.aload_n 0, 1) := by decide +kernel
theorem dX12_lines_165 : decode cX12_lines 165 = .ok (.getfield 146, 3) := by decide +kernel
theorem dX12_lines_168 : decode cX12_lines 168 = .ok (.if_icmp .ne 10, 3) := by decide +kernel
theorem dX12_lines_171 : decode cX12_lines 171 = .ok (.aload_n 0, 1) := by decide +kernel
theorem dX12_lines_172 : decode cX12_lines 172 = .ok (.getfield 149, 3) := by decide +kernel
theorem dX12_lines_175 : decode cX12_lines 175 = .ok (.goto 31, 3) := by decide +kernel
theorem dX12_lines_178 : decode cX12_lines 178 = .ok (.aload_n 0, 1) := by decide +kernel
theorem dX12_lines_179 : decode cX12_lines 179 = .ok (.getfield 143, 3) := by decide +kernel
theorem dX12_lines_182 : decode cX12_lines 182 = .ok (.iload 4, 2) := by decide +kernel
theorem dX12_lines_184 : decode cX12_lines 184 = .ok (.iaload, 1) := by decide +kernel
theorem dX12_lines_185 : decode cX12_lines 185 = .ok (.aload_n 0, 1) := by decide +kernel
theorem dX12_lines_186 : decode cX12_lines 186 = .ok (.getfield 149, 3) := by decide +kernel
theorem dX12_lines_189 : decode cX12_lines 189 = .ok (.if_icmp .ne 10, 3) := by decide +kernel
theorem dX12_lines_192 : decode cX12_lines 192 = .ok (.aload_n 0, 1) := by decide +kernel
theorem dX12_lines_193 : decode cX12_lines 193 = .ok (.getfield 146, 3) := by decide +kernel
theorem dX12_lines_196 : decode cX12_lines 196 = .ok (.goto 10, 3) := by decide +kernel
theorem dX12_lines_199 : decode cX12_lines 199 = .ok (.aload_n 0, 1) := by decide +kernel
theorem dX12_lines_200 : decode cX12_lines 200 = .ok (.getfield 143, 3) := by decide +kernel
theorem dX12_lines_203 : decode cX12_lines 203 = .ok (.iload 4, 2) := by decide +kernel
theorem dX12_lines_205 : decode cX12_lines 205 = .ok (.iaload, 1) := by decide +kernel
theorem dX12_lines_206 : decode cX12_lines 206 = .ok (.iastore, 1) := by decide +kernel
theorem dX12_lines_207 : decode cX12_lines 207 = .ok (.iinc 4 1, 3) := by decide +kernel
theorem dX12_lines_210 : decode cX12_lines 210 = .ok (.goto (-75), 3) := by decide +kernel
theorem dX12_lines_213 : decode cX12_lines 213 = .ok (.return_, 1) := by decide +kernel
theorem dX12_isOf_0 : decode cX12_isOf 0 = .ok (.iload_n 1, 1) := by decide +kernel
theorem dX12_isOf_1 : decode cX12_isOf 1 = .ok (.bipush 16, 2) := by decide +kernel
theorem dX12_isOf_3 : decode cX12_isOf 3 = .ok (.if_icmp .ge 16, 3) := by decide +kernel
theorem dX12_isOf_6 : decode cX12_isOf 6 = .ok (.iload_n 2, 1) := by decide +kernel
theorem dX12_isOf_7 : decode cX12_isOf 7 = .ok (.iload_n 1, 1) := by decide +kernel
theorem dX12_isOf_8 : decode cX12_isOf 8 = .ok (.if_icmp .ne 7, 3) := by decide +kernel
theorem dX12_isOf_11 : decode cX12_isOf 11 = .ok (.iconst 1, 1) := by decide +kernel
theorem dX12_isOf_12 : decode cX12_isOf 12 = .ok (.goto 32, 3) := by decide +kernel
theorem dX12_isOf_15 : decode cX12_isOf 15 = .ok (.iconst 0, 1) := by decide +kernel
theorem dX12_isOf_16 : decode cX12_isOf 16 = .ok (.goto 28, 3) := by decide +kernel
theorem dX12_isOf_19 : decode cX12_isOf 19 = .ok (.iload_n 2, 1) := by decide +kernel
theorem dX12_isOf_20 : decode cX12_isOf 20 = .ok (.ifCond .lt 23, 3) := by decide +kernel
theorem dX12_isOf_23 : decode cX12_isOf 23 = .ok (.aload_n 0, 1) := by decide +kernel
theorem dX12_isOf_24 : decode cX12_isOf 24 = .ok (.getfield 66, 3) := by decide +kernel
theorem dX12_isOf_27 : decode cX12_isOf 27 = .ok (.iload_n 1, 1) := by decide +kernel
theorem dX12_isOf_28 : decode cX12_isOf 28 = .ok (.bipush 16, 2) := by decide +kernel
theorem dX12_isOf_30 : decode cX12_isOf 30 = .ok (.isub, 1) := by decide +kernel
theorem dX12_isOf_31 : decode cX12_isOf 31 = .ok (.iaload, 1) := by decide +kernel
theorem dX12_isOf_32 : decode cX12_isOf 32 = .ok (.iload_n 2, 1) := by decide +kernel
theorem dX12_isOf_33 : decode cX12_isOf 33 = .ok (.invokestatic 136, 3) := by decide +kernel
theorem dX12_isOf_36 : decode cX12_isOf 36 = .ok (.ifCond .eq 7, 3) := by decide +kernel
theorem dX12_isOf_39 : decode cX12_isOf 39 = .ok (.iconst 1, 1) := by decide +kernel
theorem dX12_isOf_40 : decode cX12_isOf 40 = .ok (.goto 4, 3) := by decide +kernel
theorem dX12_isOf_43 : decode cX12_isOf 43 = .ok (.iconst 0, 1) := by decide +kernel
theorem dX12_isOf_44 : decode cX12_isOf 44 = .ok (.ireturn, 1) := by decide +kernel
theorem dX12_isBeside_0 : decode cX12_isBeside 0 = .ok (.iload_n 1, 1) := by decide +kernel
theorem dX12_isBeside_1 : decode cX12_isBeside 1 = .ok (.bipush 23, 2) := by decide +kernel
theorem dX12_isBeside_3 : decode cX12_isBeside 3 = .ok (.if_icmp .eq 25, 3) := by decide +kernel
theorem dX12_isBeside_6 : decode cX12_isBeside 6 = .ok (.iload_n 1, 1) := by decide +kernel
theorem dX12_isBeside_7 : decode cX12_isBeside 7 = .ok (.bipush 22, 2) := by decide +kernel
theorem dX12_isBeside_9 : decode cX12_isBeside 9 = .ok (.if_icmp .ne 10, 3) := by decide +kernel
theorem dX12_isBeside_12 : decode cX12_isBeside 12 = .ok (.iload_n 2, 1) := by decide +kernel
theorem dX12_isBeside_13 : decode cX12_isBeside 13 = .ok (.ifCond .ge 19, 3) := by decide +kernel
theorem dX12_isBeside_16 : decode cX12_isBeside 16 = .ok (.goto 12, 3) := by decide +kernel
theorem dX12_isBeside_19 : decode cX12_isBeside 19 = .ok (.aload_n 0, 1) := by decide +kernel
theorem dX12_isBeside_20 : decode cX12_isBeside 20 = .ok (.iload_n 1, 1) := by decide +kernel
theorem dX12_isBeside_21 : decode cX12_isBeside 21 = .ok (.iload_n 2, 1) := by decide +kernel
theorem dX12_isBeside_22 : decode cX12_isBeside 22 = .ok (.invokevirtual 152, 3) := by decide +kernel
theorem dX12_isBeside_25 : decode cX12_isBeside 25 = .ok (.ifCond .eq 7, 3) := by decide +kernel
theorem dX12_isBeside_28 : decode cX12_isBeside 28 = .ok (.iconst 1, 1) := by decide +kernel
theorem dX12_isBeside_29 : decode cX12_isBeside 29 = .ok (.goto 4, 3) := by decide +kernel
theorem dX12_isBeside_32 : decode cX12_isBeside 32 = .ok (.iconst 0, 1) := by decide +kernel
theorem dX12_isBeside_33 : decode cX12_isBeside 33 = .ok (.ireturn, 1) := by decide +kernel
theorem dX12_worksOn_0 : decode cX12_worksOn 0 = .ok (.aload_n 0, 1) := by decide +kernel
theorem dX12_worksOn_1 : decode cX12_worksOn 1 = .ok (.getfield 155, 3) := by decide +kernel
theorem dX12_worksOn_4 : decode cX12_worksOn 4 = .ok (.iload_n 1, 1) := by decide +kernel
theorem dX12_worksOn_5 : decode cX12_worksOn 5 = .ok (.iaload, 1) := by decide +kernel
theorem dX12_worksOn_6 : decode cX12_worksOn 6 = .ok (.istore_n 3, 1) := by decide +kernel
theorem dX12_worksOn_7 : decode cX12_worksOn 7 = .ok (.iconst 0, 1) := by decide +kernel
theorem dX12_worksOn_8 : decode cX12_worksOn 8 = .ok (.istore 4, 2) := by decide +kernel
theorem dX12_worksOn_10 : decode cX12_worksOn 10 = .ok (.iconst 0, 1) := by decide +kernel
theorem dX12_worksOn_11 : decode cX12_worksOn 11 = .ok (.istore 5, 2) := by decide +kernel
theorem dX12_worksOn_13 : decode cX12_worksOn 13 = .ok (.iconst 0, 1) := by decide +kernel
theorem dX12_worksOn_14 : decode cX12_worksOn 14 = .ok (.istore 6, 2) := by decide +kernel
theorem dX12_worksOn_16 : decode cX12_worksOn 16 = .ok (.iload 6, 2) := by decide +kernel
theorem dX12_worksOn_18 : decode cX12_worksOn 18 = .ok (.iload_n 3, 1) := by decide +kernel
theorem dX12_worksOn_19 : decode cX12_worksOn 19 = .ok (.if_icmp .ge 198, 3) := by decide +kernel
theorem dX12_worksOn_22 : decode cX12_worksOn 22 = .ok (.aload_n 0, 1) := by decide +kernel
theorem dX12_worksOn_23 : decode cX12_worksOn 23 = .ok (.getfield 158, 3) := by decide +kernel
theorem dX12_worksOn_26 : decode cX12_worksOn 26 = .ok (.bipush 8, 2) := by decide +kernel
theorem dX12_worksOn_28 : decode cX12_worksOn 28 = .ok (.iload_n 1, 1) := by decide +kernel
theorem dX12_worksOn_29 : decode cX12_worksOn 29 = .ok (.imul, 1) := by decide +kernel
theorem dX12_worksOn_30 : decode cX12_worksOn 30 = .ok (.iload 6, 2) := by decide +kernel
theorem dX12_worksOn_32 : decode cX12_worksOn 32 = .ok (.iadd, 1) := by decide +kernel
theorem dX12_worksOn_33 : decode cX12_worksOn 33 = .ok (.iaload, 1) := by decide +kernel
theorem dX12_worksOn_34 : decode cX12_worksOn 34 = .ok (.istore 7, 2) := by decide +kernel
theorem dX12_worksOn_36 : decode cX12_worksOn 36 = .ok (.iload 6, 2) := by decide +kernel
theorem dX12_worksOn_38 : decode cX12_worksOn 38 = .ok (.ifCond .ne 7, 3) := by decide +kernel
theorem dX12_worksOn_41 : decode cX12_worksOn 41 = .ok (.iconst (-1), 1) := by decide +kernel
theorem dX12_worksOn_42 : decode cX12_worksOn 42 = .ok (.goto 17, 3) := by decide +kernel
theorem dX12_worksOn_45 : decode cX12_worksOn 45 = .ok (.aload_n 0, 1) := by decide +kernel
theorem dX12_worksOn_46 : decode cX12_worksOn 46 = .ok (.getfield 158, 3) := by decide +kernel
theorem dX12_worksOn_49 : decode cX12_worksOn 49 = .ok (.bipush 8, 2) := by decide +kernel
theorem dX12_worksOn_51 : decode cX12_worksOn 51 = .ok (.iload_n 1, 1) := by decide +kernel
theorem dX12_worksOn_52 : decode cX12_worksOn 52 = .ok (.imul, 1) := by decide +kernel
theorem dX12_worksOn_53 : decode cX12_worksOn 53 = .ok (.iload 6, 2) := by decide +kernel
theorem dX12_worksOn_55 : decode cX12_worksOn 55 = .ok (.iadd, 1) := by decide +kernel
theorem dX12_worksOn_56 : decode cX12_worksOn 56 = .ok (.iconst 1, 1) := by decide +kernel
theorem dX12_worksOn_57 : decode cX12_worksOn 57 = .ok (.isub, 1) := by decide +kernel
theorem dX12_worksOn_58 : decode cX12_worksOn 58 = .ok (.iaload, 1) := by decide +kernel
theorem dX12_worksOn_59 : decode cX12_worksOn 59 = .ok (.istore 8, 2) := by decide +kernel
theorem dX12_worksOn_61 : decode cX12_worksOn 61 = .ok (.iload 6, 2) := by decide +kernel
theorem dX12_worksOn_63 : decode cX12_worksOn 63 = .ok (.iload_n 3, 1) := by decide +kernel
theorem dX12_worksOn_64 : decode cX12_worksOn 64 = .ok (.iconst 1, 1) := by decide +kernel
theorem dX12_worksOn_65 : decode cX12_worksOn 65 = .ok (.isub, 1) := by decide +kernel
theorem dX12_worksOn_66 : decode cX12_worksOn 66 = .ok (.if_icmp .ne 7, 3) := by decide +kernel
theorem dX12_worksOn_69 : decode cX12_worksOn 69 = .ok (.iconst (-1), 1) := by decide +kernel
theorem dX12_worksOn_70 : decode cX12_worksOn 70 = .ok (.goto 17, 3) := by decide +kernel
theorem dX12_worksOn_73 : decode cX12_worksOn 73 = .ok (.aload_n 0, 1) := by decide +kernel
theorem dX12_worksOn_74 : decode cX12_worksOn 74 = .ok (.getfield 158, 3) := by decide +kernel
theorem dX12_worksOn_77 : decode cX12_worksOn 77 = .ok (.bipush 8, 2) := by decide +kernel
theorem dX12_worksOn_79 : decode cX12_worksOn 79 = .ok (.iload_n 1, 1) := by decide +kernel
theorem dX12_worksOn_80 : decode cX12_worksOn 80 = .ok (.imul, 1) := by decide +kernel
theorem dX12_worksOn_81 : decode cX12_worksOn 81 = .ok (.iload 6, 2) := by decide +kernel
theorem dX12_worksOn_83 : decode cX12_worksOn 83 = .ok (.iadd, 1) := by decide +kernel
theorem dX12_worksOn_84 : decode cX12_worksOn 84 = .ok (.iconst 1, 1) := by decide +kernel
theorem dX12_worksOn_85 : decode cX12_worksOn 85 = .ok (.iadd, 1) := by decide +kernel
theorem dX12_worksOn_86 : decode cX12_worksOn 86 = .ok (.iaload, 1) := by decide +kernel
theorem dX12_worksOn_87 : decode cX12_worksOn 87 = .ok (.istore 9, 2) := by decide +kernel
theorem dX12_worksOn_89 : decode cX12_worksOn 89 = .ok (.aload_n 0, 1) := by decide +kernel
theorem dX12_worksOn_90 : decode cX12_worksOn 90 = .ok (.aload_n 0, 1) := by decide +kernel
theorem dX12_worksOn_91 : decode cX12_worksOn 91 = .ok (.getfield 84, 3) := by decide +kernel
theorem dX12_worksOn_94 : decode cX12_worksOn 94 = .ok (.iload_n 2, 1) := by decide +kernel
theorem dX12_worksOn_95 : decode cX12_worksOn 95 = .ok (.iaload, 1) := by decide +kernel
theorem dX12_worksOn_96 : decode cX12_worksOn 96 = .ok (.iload 7, 2) := by decide +kernel
theorem dX12_worksOn_98 : decode cX12_worksOn 98 = .ok (.invokevirtual 152, 3) := by decide +kernel
theorem dX12_worksOn_101 : decode cX12_worksOn 101 = .ok (.ifCond .eq 37, 3) := by decide +kernel
theorem dX12_worksOn_104 : decode cX12_worksOn 104 = .ok (.aload_n 0, 1) := by decide +kernel
theorem dX12_worksOn_105 : decode cX12_worksOn 105 = .ok (.aload_n 0, 1) := by decide +kernel
theorem dX12_worksOn_106 : decode cX12_worksOn 106 = .ok (.getfield 90, 3) := by decide +kernel
theorem dX12_worksOn_109 : decode cX12_worksOn 109 = .ok (.iload_n 2, 1) := by decide +kernel
theorem dX12_worksOn_110 : decode cX12_worksOn 110 = .ok (.iaload, 1) := by decide +kernel
theorem dX12_worksOn_111 : decode cX12_worksOn 111 = .ok (.iload 8, 2) := by decide +kernel
theorem dX12_worksOn_113 : decode cX12_worksOn 113 = .ok (.invokevirtual 161, 3) := by decide +kernel
theorem dX12_worksOn_116 : decode cX12_worksOn 116 = .ok (.ifCond .eq 22, 3) := by decide +kernel
theorem dX12_worksOn_119 : decode cX12_worksOn 119 = .ok (.aload_n 0, 1) := by decide +kernel
theorem dX12_worksOn_120 : decode cX12_worksOn 120 = .ok (.aload_n 0, 1) := by decide +kernel
theorem dX12_worksOn_121 : decode cX12_worksOn 121 = .ok (.getfield 93, 3) := by decide +kernel
theorem dX12_worksOn_124 : decode cX12_worksOn 124 = .ok (.iload_n 2, 1) := by decide +kernel
theorem dX12_worksOn_125 : decode cX12_worksOn 125 = .ok (.iaload, 1) := by decide +kernel
theorem dX12_worksOn_126 : decode cX12_worksOn 126 = .ok (.iload 9, 2) := by decide +kernel
theorem dX12_worksOn_128 : decode cX12_worksOn 128 = .ok (.invokevirtual 161, 3) := by decide +kernel
theorem dX12_worksOn_131 : decode cX12_worksOn 131 = .ok (.ifCond .eq 7, 3) := by decide +kernel
theorem dX12_worksOn_134 : decode cX12_worksOn 134 = .ok (.iconst 1, 1) := by decide +kernel
theorem dX12_worksOn_135 : decode cX12_worksOn 135 = .ok (.goto 4, 3) := by decide +kernel
theorem dX12_worksOn_138 : decode cX12_worksOn 138 = .ok (.iconst 0, 1) := by decide +kernel
theorem dX12_worksOn_139 : decode cX12_worksOn 139 = .ok (.istore 10, 2) := by decide +kernel
theorem dX12_worksOn_141 : decode cX12_worksOn 141 = .ok (.iload 5, 2) := by decide +kernel
theorem dX12_worksOn_143 : decode cX12_worksOn 143 = .ok (.ifCond .ne 19, 3) := by decide +kernel
theorem dX12_worksOn_146 : decode cX12_worksOn 146 = .ok (.iload 10, 2) := by decide +kernel
theorem dX12_worksOn_148 : decode cX12_worksOn 148 = .ok (.ifCond .eq 18, 3) := by decide +kernel
theorem dX12_worksOn_151 : decode cX12_worksOn 151 = .ok (.aload_n 0, 1) := by decide +kernel
theorem dX12_worksOn_152 : decode cX12_worksOn 152 = .ok (.getfield 87, 3) := by decide +kernel
theorem dX12_worksOn_155 : decode cX12_worksOn 155 = .ok (.iload_n 2, 1) := by decide +kernel
theorem dX12_worksOn_156 : decode cX12_worksOn 156 = .ok (.iaload, 1) := by decide +kernel
theorem dX12_worksOn_157 : decode cX12_worksOn 157 = .ok (.iload 7, 2) := by decide +kernel
theorem dX12_worksOn_159 : decode cX12_worksOn 159 = .ok (.if_icmp .eq 7, 3) := by decide +kernel
theorem dX12_worksOn_162 : decode cX12_worksOn 162 = .ok (.iconst 1, 1) := by decide +kernel
theorem dX12_worksOn_163 : decode cX12_worksOn 163 = .ok (.goto 4, 3) := by decide +kernel
theorem dX12_worksOn_166 : decode cX12_worksOn 166 = .ok (.iconst 0, 1) := by decide +kernel
theorem dX12_worksOn_167 : decode cX12_worksOn 167 = .ok (.istore 5, 2) := by decide +kernel
theorem dX12_worksOn_169 : decode cX12_worksOn 169 = .ok (.iload 10, 2) := by decide +kernel
theorem dX12_worksOn_171 : decode cX12_worksOn 171 = .ok (.ifCond .eq 14, 3) := by decide +kernel
theorem dX12_worksOn_174 : decode cX12_worksOn 174 = .ok (.aload_n 0, 1) := by decide +kernel
theorem dX12_worksOn_175 : decode cX12_worksOn 175 = .ok (.getfield 87, 3) := by decide +kernel
theorem dX12_worksOn_178 : decode cX12_worksOn 178 = .ok (.iload_n 2, 1) := by decide +kernel
theorem dX12_worksOn_179 : decode cX12_worksOn 179 = .ok (.iaload, 1) := by decide +kernel
theorem dX12_worksOn_180 : decode cX12_worksOn 180 = .ok (.bipush 24, 2) := by decide +kernel
theorem dX12_worksOn_182 : decode cX12_worksOn 182 = .ok (.if_icmp .eq 29, 3) := by decide +kernel
theorem dX12_worksOn_185 : decode cX12_worksOn 185 = .ok (.aload_n 0, 1) := by decide +kernel
theorem dX12_worksOn_186 : decode cX12_worksOn 186 = .ok (.getfield 164, 3) := by decide +kernel
theorem dX12_worksOn_189 : decode cX12_worksOn 189 = .ok (.iload 4, 2) := by decide +kernel
theorem dX12_worksOn_191 : decode cX12_worksOn 191 = .ok (.iload 10, 2) := by decide +kernel
theorem dX12_worksOn_193 : decode cX12_worksOn 193 = .ok (.ifCond .eq 12, 3) := by decide +kernel
theorem dX12_worksOn_196 : decode cX12_worksOn 196 = .ok (.aload_n 0, 1) := by decide +kernel
theorem dX12_worksOn_197 : decode cX12_worksOn 197 = .ok (.getfield 87, 3) := by decide +kernel
theorem dX12_worksOn_200 : decode cX12_worksOn 200 = .ok (.iload_n 2, 1) := by decide +kernel
theorem dX12_worksOn_201 : decode cX12_worksOn 201 = .ok (.iaload, 1) := by decide +kernel
theorem dX12_worksOn_202 : decode cX12_worksOn 202 = .ok (.goto 5, 3) := by decide +kernel
theorem dX12_worksOn_205 : decode cX12_worksOn 205 = .ok (.iload 7, 2) := by decide +kernel
theorem dX12_worksOn_207 : decode cX12_worksOn 207 = .ok (.iastore, 1) := by decide +kernel
theorem dX12_worksOn_208 : decode cX12_worksOn 208 = .ok (.iinc 4 1, 3) := by decide +kernel
theorem dX12_worksOn_211 : decode cX12_worksOn 211 = .ok (.iinc 6 1, 3) := by decide +kernel
theorem dX12_worksOn_214 : decode cX12_worksOn 214 = .ok (.goto (-198), 3) := by decide +kernel
theorem dX12_worksOn_217 : decode cX12_worksOn 217 = .ok (.iconst 0, 1) := by decide +kernel
theorem dX12_worksOn_218 : decode cX12_worksOn 218 = .ok (.istore 6, 2) := by decide +kernel
theorem dX12_worksOn_220 : decode cX12_worksOn 220 = .ok (.iload 6, 2) := by decide +kernel
theorem dX12_worksOn_222 : decode cX12_worksOn 222 = .ok (.iload 4, 2) := by decide +kernel
theorem dX12_worksOn_224 : decode cX12_worksOn 224 = .ok (.if_icmp .ge 28, 3) := by decide +kernel
theorem dX12_worksOn_227 : decode cX12_worksOn 227 = .ok (.aload_n 0, 1) := by decide +kernel
theorem dX12_worksOn_228 : decode cX12_worksOn 228 = .ok (.getfield 158, 3) := by decide +kernel
theorem dX12_worksOn_231 : decode cX12_worksOn 231 = .ok (.bipush 8, 2) := by decide +kernel
theorem dX12_worksOn_233 : decode cX12_worksOn 233 = .ok (.iload_n 1, 1) := by decide +kernel
theorem dX12_worksOn_234 : decode cX12_worksOn 234 = .ok (.imul, 1) := by decide +kernel
theorem dX12_worksOn_235 : decode cX12_worksOn 235 = .ok (.iload 6, 2) := by decide +kernel
theorem dX12_worksOn_237 : decode cX12_worksOn 237 = .ok (.iadd, 1) := by decide +kernel
theorem dX12_worksOn_238 : decode cX12_worksOn 238 = .ok (.aload_n 0, 1) := by decide +kernel
theorem dX12_worksOn_239 : decode cX12_worksOn 239 = .ok (.getfield 164, 3) := by decide +kernel
theorem dX12_worksOn_242 : decode cX12_worksOn 242 = .ok (.iload 6, 2) := by decide +kernel
theorem dX12_worksOn_244 : decode cX12_worksOn 244 = .ok (.iaload, 1) := by decide +kernel
theorem dX12_worksOn_245 : decode cX12_worksOn 245 = .ok (.iastore, 1) := by decide +kernel
theorem dX12_worksOn_246 : decode cX12_worksOn 246 = .ok (.iinc 6 1, 3) := by decide +kernel
theorem dX12_worksOn_249 : decode cX12_worksOn 249 = .ok (.goto (-29), 3) := by decide +kernel
theorem dX12_worksOn_252 : decode cX12_worksOn 252 = .ok (.aload_n 0, 1) := by decide +kernel
theorem dX12_worksOn_253 : decode cX12_worksOn 253 = .ok (.getfield 155, 3) := by decide +kernel
theorem dX12_worksOn_256 : decode cX12_worksOn 256 = .ok (.iload_n 1, 1) := by decide +kernel
theorem dX12_worksOn_257 : decode cX12_worksOn 257 = .ok (.iload 4, 2) := by decide +kernel
theorem dX12_worksOn_259 : decode cX12_worksOn 259 = .ok (.iastore, 1) := by decide +kernel
theorem dX12_worksOn_260 : decode cX12_worksOn 260 = .ok (.iload 5, 2) := by decide +kernel
theorem dX12_worksOn_262 : decode cX12_worksOn 262 = .ok (.ireturn, 1) := by decide +kernel
theorem dX12_spells_0 : decode cX12_spells 0 = .ok (.aload_n 0, 1) := by decide +kernel
theorem dX12_spells_1 : decode cX12_spells 1 = .ok (.getfield 155, 3) := by decide +kernel
theorem dX12_spells_4 : decode cX12_spells 4 = .ok (.iload_n 1, 1) := by decide +kernel
theorem dX12_spells_5 : decode cX12_spells 5 = .ok (.aload_n 0, 1) := by decide +kernel
theorem dX12_spells_6 : decode cX12_spells 6 = .ok (.getfield 81, 3) := by decide +kernel
theorem dX12_spells_9 : decode cX12_spells 9 = .ok (.iload_n 2, 1) := by decide +kernel
theorem dX12_spells_10 : decode cX12_spells 10 = .ok (.iaload, 1) := by decide +kernel
theorem dX12_spells_11 : decode cX12_spells 11 = .ok (.iastore, 1) := by decide +kernel
theorem dX12_spells_12 : decode cX12_spells 12 = .ok (.iconst 0, 1) := by decide +kernel
theorem dX12_spells_13 : decode cX12_spells 13 = .ok (.istore_n 3, 1) := by decide +kernel
theorem dX12_spells_14 : decode cX12_spells 14 = .ok (.iload_n 3, 1) := by decide +kernel
theorem dX12_spells_15 : decode cX12_spells 15 = .ok (.aload_n 0, 1) := by decide +kernel
theorem dX12_spells_16 : decode cX12_spells 16 = .ok (.getfield 81, 3) := by decide +kernel
theorem dX12_spells_19 : decode cX12_spells 19 = .ok (.iload_n 2, 1) := by decide +kernel
theorem dX12_spells_20 : decode cX12_spells 20 = .ok (.iaload, 1) := by decide +kernel
theorem dX12_spells_21 : decode cX12_spells 21 = .ok (.if_icmp .ge 31, 3) := by decide +kernel
theorem dX12_spells_24 : decode cX12_spells 24 = .ok (.aload_n 0, 1) := by decide +kernel
theorem dX12_spells_25 : decode cX12_spells 25 = .ok (.getfield 158, 3) := by decide +kernel
theorem dX12_spells_28 : decode cX12_spells 28 = .ok (.bipush 8, 2) := by decide +kernel
theorem dX12_spells_30 : decode cX12_spells 30 = .ok (.iload_n 1, 1) := by decide +kernel
theorem dX12_spells_31 : decode cX12_spells 31 = .ok (.imul, 1) := by decide +kernel
theorem dX12_spells_32 : decode cX12_spells 32 = .ok (.iload_n 3, 1) := by decide +kernel
theorem dX12_spells_33 : decode cX12_spells 33 = .ok (.iadd, 1) := by decide +kernel
theorem dX12_spells_34 : decode cX12_spells 34 = .ok (.aload_n 0, 1) := by decide +kernel
theorem dX12_spells_35 : decode cX12_spells 35 = .ok (.getfield 78, 3) := by decide +kernel
theorem dX12_spells_38 : decode cX12_spells 38 = .ok (.bipush 8, 2) := by decide +kernel
theorem dX12_spells_40 : decode cX12_spells 40 = .ok (.iload_n 2, 1) := by decide +kernel
theorem dX12_spells_41 : decode cX12_spells 41 = .ok (.imul, 1) := by decide +kernel
theorem dX12_spells_42 : decode cX12_spells 42 = .ok (.iload_n 3, 1) := by decide +kernel
theorem dX12_spells_43 : decode cX12_spells 43 = .ok (.iadd, 1) := by decide +kernel
theorem dX12_spells_44 : decode cX12_spells 44 = .ok (.iaload, 1) := by decide +kernel
theorem dX12_spells_45 : decode cX12_spells 45 = .ok (.iastore, 1) := by decide +kernel
theorem dX12_spells_46 : decode cX12_spells 46 = .ok (.iinc 3 1, 3) := by decide +kernel
theorem dX12_spells_49 : decode cX12_spells 49 = .ok (.goto (-35), 3) := by decide +kernel
theorem dX12_spells_52 : decode cX12_spells 52 = .ok (.return_, 1) := by decide +kernel
theorem dX12_says_0 : decode cX12_says 0 = .ok (.aload_n 0, 1) := by decide +kernel
theorem dX12_says_1 : decode cX12_says 1 = .ok (.iload_n 1, 1) := by decide +kernel
theorem dX12_says_2 : decode cX12_says 2 = .ok (.iload_n 2, 1) := by decide +kernel
theorem dX12_says_3 : decode cX12_says 3 = .ok (.invokevirtual 167, 3) := by decide +kernel
theorem dX12_says_6 : decode cX12_says 6 = .ok (.aload_n 0, 1) := by decide +kernel
theorem dX12_says_7 : decode cX12_says 7 = .ok (.iload_n 3, 1) := by decide +kernel
theorem dX12_says_8 : decode cX12_says 8 = .ok (.iload 4, 2) := by decide +kernel
theorem dX12_says_10 : decode cX12_says 10 = .ok (.iload 5, 2) := by decide +kernel
theorem dX12_says_12 : decode cX12_says 12 = .ok (.invokevirtual 171, 3) := by decide +kernel
theorem dX12_says_15 : decode cX12_says 15 = .ok (.iconst 0, 1) := by decide +kernel
theorem dX12_says_16 : decode cX12_says 16 = .ok (.istore 6, 2) := by decide +kernel
theorem dX12_says_18 : decode cX12_says 18 = .ok (.iload 6, 2) := by decide +kernel
theorem dX12_says_20 : decode cX12_says 20 = .ok (.aload_n 0, 1) := by decide +kernel
theorem dX12_says_21 : decode cX12_says 21 = .ok (.getfield 130, 3) := by decide +kernel
theorem dX12_says_24 : decode cX12_says 24 = .ok (.if_icmp .ge 22, 3) := by decide +kernel
theorem dX12_says_27 : decode cX12_says 27 = .ok (.aload_n 0, 1) := by decide +kernel
theorem dX12_says_28 : decode cX12_says 28 = .ok (.iload_n 1, 1) := by decide +kernel
theorem dX12_says_29 : decode cX12_says 29 = .ok (.aload_n 0, 1) := by decide +kernel
theorem dX12_says_30 : decode cX12_says 30 = .ok (.getfield 143, 3) := by decide +kernel
theorem dX12_says_33 : decode cX12_says 33 = .ok (.iload 6, 2) := by decide +kernel
theorem dX12_says_35 : decode cX12_says 35 = .ok (.iaload, 1) := by decide +kernel
theorem dX12_says_36 : decode cX12_says 36 = .ok (.invokevirtual 175, 3) := by decide +kernel
theorem dX12_says_39 : decode cX12_says 39 = .ok (.pop, 1) := by decide +kernel
theorem dX12_says_40 : decode cX12_says 40 = .ok (.iinc 6 1, 3) := by decide +kernel
theorem dX12_says_43 : decode cX12_says 43 = .ok (.goto (-25), 3) := by decide +kernel
theorem dX12_says_46 : decode cX12_says 46 = .ok (.return_, 1) := by decide +kernel
theorem dX12_areAlike_0 : decode cX12_areAlike 0 = .ok (.aload_n 0, 1) := by decide +kernel
theorem dX12_areAlike_1 : decode cX12_areAlike 1 = .ok (.getfield 155, 3) := by decide +kernel
theorem dX12_areAlike_4 : decode cX12_areAlike 4 = .ok (.iconst 0, 1) := by decide +kernel
theorem dX12_areAlike_5 : decode cX12_areAlike 5 = .ok (.iaload, 1) := by decide +kernel
theorem dX12_areAlike_6 : decode cX12_areAlike 6 = .ok (.aload_n 0, 1) := by decide +kernel
theorem dX12_areAlike_7 : decode cX12_areAlike 7 = .ok (.getfield 155, 3) := by decide +kernel
theorem dX12_areAlike_10 : decode cX12_areAlike 10 = .ok (.iconst 1, 1) := by decide +kernel
theorem dX12_areAlike_11 : decode cX12_areAlike 11 = .ok (.iaload, 1) := by decide +kernel
theorem dX12_areAlike_12 : decode cX12_areAlike 12 = .ok (.if_icmp .ne 7, 3) := by decide +kernel
theorem dX12_areAlike_15 : decode cX12_areAlike 15 = .ok (.iconst 1, 1) := by decide +kernel
theorem dX12_areAlike_16 : decode cX12_areAlike 16 = .ok (.goto 4, 3) := by decide +kernel
theorem dX12_areAlike_19 : decode cX12_areAlike 19 = .ok (.iconst 0, 1) := by decide +kernel
theorem dX12_areAlike_20 : decode cX12_areAlike 20 = .ok (.istore_n 1, 1) := by decide +kernel
theorem dX12_areAlike_21 : decode cX12_areAlike 21 = .ok (.iconst 0, 1) := by decide +kernel
theorem dX12_areAlike_22 : decode cX12_areAlike 22 = .ok (.istore_n 2, 1) := by decide +kernel
theorem dX12_areAlike_23 : decode cX12_areAlike 23 = .ok (.iload_n 2, 1) := by decide +kernel
theorem dX12_areAlike_24 : decode cX12_areAlike 24 = .ok (.aload_n 0, 1) := by decide +kernel
theorem dX12_areAlike_25 : decode cX12_areAlike 25 = .ok (.getfield 155, 3) := by decide +kernel
theorem dX12_areAlike_28 : decode cX12_areAlike 28 = .ok (.iconst 0, 1) := by decide +kernel
theorem dX12_areAlike_29 : decode cX12_areAlike 29 = .ok (.iaload, 1) := by decide +kernel
theorem dX12_areAlike_30 : decode cX12_areAlike 30 = .ok (.if_icmp .ge 37, 3) := by decide +kernel
theorem dX12_areAlike_33 : decode cX12_areAlike 33 = .ok (.iload_n 1, 1) := by decide +kernel
theorem dX12_areAlike_34 : decode cX12_areAlike 34 = .ok (.ifCond .eq 33, 3) := by decide +kernel
theorem dX12_areAlike_37 : decode cX12_areAlike 37 = .ok (.aload_n 0, 1) := by decide +kernel
theorem dX12_areAlike_38 : decode cX12_areAlike 38 = .ok (.getfield 158, 3) := by decide +kernel
theorem dX12_areAlike_41 : decode cX12_areAlike 41 = .ok (.iload_n 2, 1) := by decide +kernel
theorem dX12_areAlike_42 : decode cX12_areAlike 42 = .ok (.iaload, 1) := by decide +kernel
theorem dX12_areAlike_43 : decode cX12_areAlike 43 = .ok (.aload_n 0, 1) := by decide +kernel
theorem dX12_areAlike_44 : decode cX12_areAlike 44 = .ok (.getfield 158, 3) := by decide +kernel
theorem dX12_areAlike_47 : decode cX12_areAlike 47 = .ok (.bipush 8, 2) := by decide +kernel
theorem dX12_areAlike_49 : decode cX12_areAlike 49 = .ok (.iload_n 2, 1) := by decide +kernel
theorem dX12_areAlike_50 : decode cX12_areAlike 50 = .ok (.iadd, 1) := by decide +kernel
theorem dX12_areAlike_51 : decode cX12_areAlike 51 = .ok (.iaload, 1) := by decide +kernel
theorem dX12_areAlike_52 : decode cX12_areAlike 52 = .ok (.if_icmp .ne 7, 3) := by decide +kernel
theorem dX12_areAlike_55 : decode cX12_areAlike 55 = .ok (.iconst 1, 1) := by decide +kernel
theorem dX12_areAlike_56 : decode cX12_areAlike 56 = .ok (.goto 4, 3) := by decide +kernel
theorem dX12_areAlike_59 : decode cX12_areAlike 59 = .ok (.iconst 0, 1) := by decide +kernel
theorem dX12_areAlike_60 : decode cX12_areAlike 60 = .ok (.istore_n 1, 1) := by decide +kernel
theorem dX12_areAlike_61 : decode cX12_areAlike 61 = .ok (.iinc 2 1, 3) := by decide +kernel
theorem dX12_areAlike_64 : decode cX12_areAlike 64 = .ok (.goto (-41), 3) := by decide +kernel
theorem dX12_areAlike_67 : decode cX12_areAlike 67 = .ok (.iload_n 1, 1) := by decide +kernel
theorem dX12_areAlike_68 : decode cX12_areAlike 68 = .ok (.ireturn, 1) := by decide +kernel
theorem dX12_tailAt_0 : decode cX12_tailAt 0 = .ok (.iconst (-1), 1) := by decide +kernel
theorem dX12_tailAt_1 : decode cX12_tailAt 1 = .ok (.istore_n 2, 1) := by decide +kernel
theorem dX12_tailAt_2 : decode cX12_tailAt 2 = .ok (.iconst 0, 1) := by decide +kernel
theorem dX12_tailAt_3 : decode cX12_tailAt 3 = .ok (.istore_n 3, 1) := by decide +kernel
theorem dX12_tailAt_4 : decode cX12_tailAt 4 = .ok (.iload_n 3, 1) := by decide +kernel
theorem dX12_tailAt_5 : decode cX12_tailAt 5 = .ok (.aload_n 0, 1) := by decide +kernel
theorem dX12_tailAt_6 : decode cX12_tailAt 6 = .ok (.getfield 155, 3) := by decide +kernel
theorem dX12_tailAt_9 : decode cX12_tailAt 9 = .ok (.iload_n 1, 1) := by decide +kernel
theorem dX12_tailAt_10 : decode cX12_tailAt 10 = .ok (.iaload, 1) := by decide +kernel
theorem dX12_tailAt_11 : decode cX12_tailAt 11 = .ok (.if_icmp .ge 38, 3) := by decide +kernel
theorem dX12_tailAt_14 : decode cX12_tailAt 14 = .ok (.aload_n 0, 1) := by decide +kernel
theorem dX12_tailAt_15 : decode cX12_tailAt 15 = .ok (.getfield 66, 3) := by decide +kernel
theorem dX12_tailAt_18 : decode cX12_tailAt 18 = .ok (.iconst 0, 1) := by decide +kernel
theorem dX12_tailAt_19 : decode cX12_tailAt 19 = .ok (.iaload, 1) := by decide +kernel
theorem dX12_tailAt_20 : decode cX12_tailAt 20 = .ok (.aload_n 0, 1) := by decide +kernel
theorem dX12_tailAt_21 : decode cX12_tailAt 21 = .ok (.getfield 158, 3) := by decide +kernel
theorem dX12_tailAt_24 : decode cX12_tailAt 24 = .ok (.bipush 8, 2) := by decide +kernel
theorem dX12_tailAt_26 : decode cX12_tailAt 26 = .ok (.iload_n 1, 1) := by decide +kernel
theorem dX12_tailAt_27 : decode cX12_tailAt 27 = .ok (.imul, 1) := by decide +kernel
theorem dX12_tailAt_28 : decode cX12_tailAt 28 = .ok (.iload_n 3, 1) := by decide +kernel
theorem dX12_tailAt_29 : decode cX12_tailAt 29 = .ok (.iadd, 1) := by decide +kernel
theorem dX12_tailAt_30 : decode cX12_tailAt 30 = .ok (.iaload, 1) := by decide +kernel
theorem dX12_tailAt_31 : decode cX12_tailAt 31 = .ok (.invokestatic 136, 3) := by decide +kernel
theorem dX12_tailAt_34 : decode cX12_tailAt 34 = .ok (.ifCond .eq 7, 3) := by decide +kernel
theorem dX12_tailAt_37 : decode cX12_tailAt 37 = .ok (.iload_n 3, 1) := by decide +kernel
theorem dX12_tailAt_38 : decode cX12_tailAt 38 = .ok (.goto 4, 3) := by decide +kernel
theorem dX12_tailAt_41 : decode cX12_tailAt 41 = .ok (.iload_n 2, 1) := by decide +kernel
theorem dX12_tailAt_42 : decode cX12_tailAt 42 = .ok (.istore_n 2, 1) := by decide +kernel
theorem dX12_tailAt_43 : decode cX12_tailAt 43 = .ok (.iinc 3 1, 3) := by decide +kernel
theorem dX12_tailAt_46 : decode cX12_tailAt 46 = .ok (.goto (-42), 3) := by decide +kernel
theorem dX12_tailAt_49 : decode cX12_tailAt 49 = .ok (.iload_n 2, 1) := by decide +kernel
theorem dX12_tailAt_50 : decode cX12_tailAt 50 = .ok (.ireturn, 1) := by decide +kernel
theorem dX12_haveTails_0 : decode cX12_haveTails 0 = .ok (.aload_n 0, 1) := by decide +kernel
theorem dX12_haveTails_1 : decode cX12_haveTails 1 = .ok (.iconst 0, 1) := by decide +kernel
theorem dX12_haveTails_2 : decode cX12_haveTails 2 = .ok (.invokevirtual 178, 3) := by decide +kernel
theorem dX12_haveTails_5 : decode cX12_haveTails 5 = .ok (.ifCond .lt 15, 3) := by decide +kernel
theorem dX12_haveTails_8 : decode cX12_haveTails 8 = .ok (.aload_n 0, 1) := by decide +kernel
theorem dX12_haveTails_9 : decode cX12_haveTails 9 = .ok (.iconst 1, 1) := by decide +kernel
theorem dX12_haveTails_10 : decode cX12_haveTails 10 = .ok (.invokevirtual 178, 3) := by decide +kernel
theorem dX12_haveTails_13 : decode cX12_haveTails 13 = .ok (.ifCond .lt 7, 3) := by decide +kernel
theorem dX12_haveTails_16 : decode cX12_haveTails 16 = .ok (.iconst 1, 1) := by decide +kernel
theorem dX12_haveTails_17 : decode cX12_haveTails 17 = .ok (.goto 4, 3) := by decide +kernel
theorem dX12_haveTails_20 : decode cX12_haveTails 20 = .ok (.iconst 0, 1) := by decide +kernel
theorem dX12_haveTails_21 : decode cX12_haveTails 21 = .ok (.ireturn, 1) := by decide +kernel
theorem dX12_areTailsAlike_0 : decode cX12_areTailsAlike 0 = .ok (.aload_n 0, 1) := by decide +kernel
theorem dX12_areTailsAlike_1 : decode cX12_areTailsAlike 1 = .ok (.iconst 0, 1) := by decide +kernel
theorem dX12_areTailsAlike_2 : decode cX12_areTailsAlike 2 = .ok (.invokevirtual 178, 3) := by decide +kernel
theorem dX12_areTailsAlike_5 : decode cX12_areTailsAlike 5 = .ok (.istore_n 1, 1) := by decide +kernel
theorem dX12_areTailsAlike_6 : decode cX12_areTailsAlike 6 = .ok (.aload_n 0, 1) := by decide +kernel
theorem dX12_areTailsAlike_7 : decode cX12_areTailsAlike 7 = .ok (.iconst 1, 1) := by decide +kernel
theorem dX12_areTailsAlike_8 : decode cX12_areTailsAlike 8 = .ok (.invokevirtual 178, 3) := by decide +kernel
theorem dX12_areTailsAlike_11 : decode cX12_areTailsAlike 11 = .ok (.istore_n 2, 1) := by decide +kernel
theorem dX12_areTailsAlike_12 : decode cX12_areTailsAlike 12 = .ok (.aload_n 0, 1) := by decide +kernel
theorem dX12_areTailsAlike_13 : decode cX12_areTailsAlike 13 = .ok (.getfield 155, 3) := by decide +kernel
theorem dX12_areTailsAlike_16 : decode cX12_areTailsAlike 16 = .ok (.iconst 0, 1) := by decide +kernel
theorem dX12_areTailsAlike_17 : decode cX12_areTailsAlike 17 = .ok (.iaload, 1) := by decide +kernel
theorem dX12_areTailsAlike_18 : decode cX12_areTailsAlike 18 = .ok (.iload_n 1, 1) := by decide +kernel
theorem dX12_areTailsAlike_19 : decode cX12_areTailsAlike 19 = .ok (.isub, 1) := by decide +kernel
theorem dX12_areTailsAlike_20 : decode cX12_areTailsAlike 20 = .ok (.aload_n 0, 1) := by decide +kernel
theorem dX12_areTailsAlike_21 : decode cX12_areTailsAlike 21 = .ok (.getfield 155, 3) := by decide +kernel
theorem dX12_areTailsAlike_24 : decode cX12_areTailsAlike 24 = .ok (.iconst 1, 1) := by decide +kernel
theorem dX12_areTailsAlike_25 : decode cX12_areTailsAlike 25 = .ok (.iaload, 1) := by decide +kernel
theorem dX12_areTailsAlike_26 : decode cX12_areTailsAlike 26 = .ok (.iload_n 2, 1) := by decide +kernel
theorem dX12_areTailsAlike_27 : decode cX12_areTailsAlike 27 = .ok (.isub, 1) := by decide +kernel
theorem dX12_areTailsAlike_28 : decode cX12_areTailsAlike 28 = .ok (.if_icmp .ne 7, 3) := by decide +kernel
theorem dX12_areTailsAlike_31 : decode cX12_areTailsAlike 31 = .ok (.iconst 1, 1) := by decide +kernel
theorem dX12_areTailsAlike_32 : decode cX12_areTailsAlike 32 = .ok (.goto 4, 3) := by decide +kernel
theorem dX12_areTailsAlike_35 : decode cX12_areTailsAlike 35 = .ok (.iconst 0, 1) := by decide +kernel
theorem dX12_areTailsAlike_36 : decode cX12_areTailsAlike 36 = .ok (.istore_n 3, 1) := by decide +kernel
theorem dX12_areTailsAlike_37 : decode cX12_areTailsAlike 37 = .ok (.iconst 0, 1) := by decide +kernel
theorem dX12_areTailsAlike_38 : decode cX12_areTailsAlike 38 = .ok (.istore 4, 2) := by decide +kernel
theorem dX12_areTailsAlike_40 : decode cX12_areTailsAlike 40 = .ok (.iload_n 1, 1) := by decide +kernel
theorem dX12_areTailsAlike_41 : decode cX12_areTailsAlike 41 = .ok (.iload 4, 2) := by decide +kernel
theorem dX12_areTailsAlike_43 : decode cX12_areTailsAlike 43 = .ok (.iadd, 1) := by decide +kernel
theorem dX12_areTailsAlike_44 : decode cX12_areTailsAlike 44 = .ok (.aload_n 0, 1) := by decide +kernel
theorem dX12_areTailsAlike_45 : decode cX12_areTailsAlike 45 = .ok (.getfield 155, 3) := by decide +kernel
theorem dX12_areTailsAlike_48 : decode cX12_areTailsAlike 48 = .ok (.iconst 0, 1) := by decide +kernel
theorem dX12_areTailsAlike_49 : decode cX12_areTailsAlike 49 = .ok (.iaload, 1) := by decide +kernel
theorem dX12_areTailsAlike_50 : decode cX12_areTailsAlike 50 = .ok (.if_icmp .ge 43, 3) := by decide +kernel
theorem dX12_areTailsAlike_53 : decode cX12_areTailsAlike 53 = .ok (.iload_n 3, 1) := by decide +kernel
theorem dX12_areTailsAlike_54 : decode cX12_areTailsAlike 54 = .ok (.ifCond .eq 39, 3) := by decide +kernel
theorem dX12_areTailsAlike_57 : decode cX12_areTailsAlike 57 = .ok (.aload_n 0, 1) := by decide +kernel
theorem dX12_areTailsAlike_58 : decode cX12_areTailsAlike 58 = .ok (.getfield 158, 3) := by decide +kernel
theorem dX12_areTailsAlike_61 : decode cX12_areTailsAlike 61 = .ok (.iload_n 1, 1) := by decide +kernel
theorem dX12_areTailsAlike_62 : decode cX12_areTailsAlike 62 = .ok (.iload 4, 2) := by decide +kernel
theorem dX12_areTailsAlike_64 : decode cX12_areTailsAlike 64 = .ok (.iadd, 1) := by decide +kernel
theorem dX12_areTailsAlike_65 : decode cX12_areTailsAlike 65 = .ok (.iaload, 1) := by decide +kernel
theorem dX12_areTailsAlike_66 : decode cX12_areTailsAlike 66 = .ok (.aload_n 0, 1) := by decide +kernel
theorem dX12_areTailsAlike_67 : decode cX12_areTailsAlike 67 = .ok (.getfield 158, 3) := by decide +kernel
theorem dX12_areTailsAlike_70 : decode cX12_areTailsAlike 70 = .ok (.bipush 8, 2) := by decide +kernel
theorem dX12_areTailsAlike_72 : decode cX12_areTailsAlike 72 = .ok (.iload_n 2, 1) := by decide +kernel
theorem dX12_areTailsAlike_73 : decode cX12_areTailsAlike 73 = .ok (.iadd, 1) := by decide +kernel
theorem dX12_areTailsAlike_74 : decode cX12_areTailsAlike 74 = .ok (.iload 4, 2) := by decide +kernel
theorem dX12_areTailsAlike_76 : decode cX12_areTailsAlike 76 = .ok (.iadd, 1) := by decide +kernel
theorem dX12_areTailsAlike_77 : decode cX12_areTailsAlike 77 = .ok (.iaload, 1) := by decide +kernel
theorem dX12_areTailsAlike_78 : decode cX12_areTailsAlike 78 = .ok (.if_icmp .ne 7, 3) := by decide +kernel
theorem dX12_areTailsAlike_81 : decode cX12_areTailsAlike 81 = .ok (.iconst 1, 1) := by decide +kernel
theorem dX12_areTailsAlike_82 : decode cX12_areTailsAlike 82 = .ok (.goto 4, 3) := by decide +kernel
theorem dX12_areTailsAlike_85 : decode cX12_areTailsAlike 85 = .ok (.iconst 0, 1) := by decide +kernel
theorem dX12_areTailsAlike_86 : decode cX12_areTailsAlike 86 = .ok (.istore_n 3, 1) := by decide +kernel
theorem dX12_areTailsAlike_87 : decode cX12_areTailsAlike 87 = .ok (.iinc 4 1, 3) := by decide +kernel
theorem dX12_areTailsAlike_90 : decode cX12_areTailsAlike 90 = .ok (.goto (-50), 3) := by decide +kernel
theorem dX12_areTailsAlike_93 : decode cX12_areTailsAlike 93 = .ok (.iload_n 3, 1) := by decide +kernel
theorem dX12_areTailsAlike_94 : decode cX12_areTailsAlike 94 = .ok (.ireturn, 1) := by decide +kernel
theorem dX12_areRhymes_0 : decode cX12_areRhymes 0 = .ok (.aload_n 0, 1) := by decide +kernel
theorem dX12_areRhymes_1 : decode cX12_areRhymes 1 = .ok (.invokevirtual 182, 3) := by decide +kernel
theorem dX12_areRhymes_4 : decode cX12_areRhymes 4 = .ok (.ifCond .eq 14, 3) := by decide +kernel
theorem dX12_areRhymes_7 : decode cX12_areRhymes 7 = .ok (.aload_n 0, 1) := by decide +kernel
theorem dX12_areRhymes_8 : decode cX12_areRhymes 8 = .ok (.invokevirtual 186, 3) := by decide +kernel
theorem dX12_areRhymes_11 : decode cX12_areRhymes 11 = .ok (.ifCond .eq 7, 3) := by decide +kernel
theorem dX12_areRhymes_14 : decode cX12_areRhymes 14 = .ok (.iconst 1, 1) := by decide +kernel
theorem dX12_areRhymes_15 : decode cX12_areRhymes 15 = .ok (.goto 4, 3) := by decide +kernel
theorem dX12_areRhymes_18 : decode cX12_areRhymes 18 = .ok (.iconst 0, 1) := by decide +kernel
theorem dX12_areRhymes_19 : decode cX12_areRhymes 19 = .ok (.ireturn, 1) := by decide +kernel
theorem dX12_isWord_0 : decode cX12_isWord 0 = .ok (.iload_n 1, 1) := by decide +kernel
theorem dX12_isWord_1 : decode cX12_isWord 1 = .ok (.i2l, 1) := by decide +kernel
theorem dX12_isWord_2 : decode cX12_isWord 2 = .ok (.lconst 0, 1) := by decide +kernel
theorem dX12_isWord_3 : decode cX12_isWord 3 = .ok (.aload_n 0, 1) := by decide +kernel
theorem dX12_isWord_4 : decode cX12_isWord 4 = .ok (.getfield 75, 3) := by decide +kernel
theorem dX12_isWord_7 : decode cX12_isWord 7 = .ok (.iconst 1, 1) := by decide +kernel
theorem dX12_isWord_8 : decode cX12_isWord 8 = .ok (.isub, 1) := by decide +kernel
theorem dX12_isWord_9 : decode cX12_isWord 9 = .ok (.i2l, 1) := by decide +kernel
theorem dX12_isWord_10 : decode cX12_isWord 10 = .ok (.invokestatic 29, 3) := by decide +kernel
theorem dX12_isWord_13 : decode cX12_isWord 13 = .ok (.ireturn, 1) := by decide +kernel
theorem dX12_isLaw_0 : decode cX12_isLaw 0 = .ok (.iload_n 1, 1) := by decide +kernel
theorem dX12_isLaw_1 : decode cX12_isLaw 1 = .ok (.i2l, 1) := by decide +kernel
theorem dX12_isLaw_2 : decode cX12_isLaw 2 = .ok (.lconst 0, 1) := by decide +kernel
theorem dX12_isLaw_3 : decode cX12_isLaw 3 = .ok (.aload_n 0, 1) := by decide +kernel
theorem dX12_isLaw_4 : decode cX12_isLaw 4 = .ok (.getfield 99, 3) := by decide +kernel
theorem dX12_isLaw_7 : decode cX12_isLaw 7 = .ok (.iconst 1, 1) := by decide +kernel
theorem dX12_isLaw_8 : decode cX12_isLaw 8 = .ok (.isub, 1) := by decide +kernel
theorem dX12_isLaw_9 : decode cX12_isLaw 9 = .ok (.i2l, 1) := by decide +kernel
theorem dX12_isLaw_10 : decode cX12_isLaw 10 = .ok (.invokestatic 29, 3) := by decide +kernel
theorem dX12_isLaw_13 : decode cX12_isLaw 13 = .ok (.ireturn, 1) := by decide +kernel
theorem dX12_isHistory_0 : decode cX12_isHistory 0 = .ok (.iload_n 1, 1) := by decide +kernel
theorem dX12_isHistory_1 : decode cX12_isHistory 1 = .ok (.i2l, 1) := by decide +kernel
theorem dX12_isHistory_2 : decode cX12_isHistory 2 = .ok (.lconst 0, 1) := by decide +kernel
theorem dX12_isHistory_3 : decode cX12_isHistory 3 = .ok (.aload_n 0, 1) := by decide +kernel
theorem dX12_isHistory_4 : decode cX12_isHistory 4 = .ok (.invokevirtual 107, 3) := by decide +kernel
theorem dX12_isHistory_7 : decode cX12_isHistory 7 = .ok (.iconst 1, 1) := by decide +kernel
theorem dX12_isHistory_8 : decode cX12_isHistory 8 = .ok (.isub, 1) := by decide +kernel
theorem dX12_isHistory_9 : decode cX12_isHistory 9 = .ok (.i2l, 1) := by decide +kernel
theorem dX12_isHistory_10 : decode cX12_isHistory 10 = .ok (.invokestatic 29, 3) := by decide +kernel
theorem dX12_isHistory_13 : decode cX12_isHistory 13 = .ok (.ireturn, 1) := by decide +kernel
theorem dX12_isThen_0 : decode cX12_isThen 0 = .ok (.iload_n 0, 1) := by decide +kernel
theorem dX12_isThen_1 : decode cX12_isThen 1 = .ok (.i2l, 1) := by decide +kernel
theorem dX12_isThen_2 : decode cX12_isThen 2 = .ok (.lconst 0, 1) := by decide +kernel
theorem dX12_isThen_3 : decode cX12_isThen 3 = .ok (.ldc2_w 189, 3) := by decide +kernel
theorem dX12_isThen_6 : decode cX12_isThen 6 = .ok (.invokestatic 29, 3) := by decide +kernel
theorem dX12_isThen_9 : decode cX12_isThen 9 = .ok (.ifCond .eq 19, 3) := by decide +kernel
theorem dX12_isThen_12 : decode cX12_isThen 12 = .ok (.iload_n 1, 1) := by decide +kernel
theorem dX12_isThen_13 : decode cX12_isThen 13 = .ok (.i2l, 1) := by decide +kernel
theorem dX12_isThen_14 : decode cX12_isThen 14 = .ok (.lconst 0, 1) := by decide +kernel
theorem dX12_isThen_15 : decode cX12_isThen 15 = .ok (.ldc2_w 62, 3) := by decide +kernel
theorem dX12_isThen_18 : decode cX12_isThen 18 = .ok (.invokestatic 29, 3) := by decide +kernel
theorem dX12_isThen_21 : decode cX12_isThen 21 = .ok (.ifCond .eq 7, 3) := by decide +kernel
theorem dX12_isThen_24 : decode cX12_isThen 24 = .ok (.iconst 1, 1) := by decide +kernel
theorem dX12_isThen_25 : decode cX12_isThen 25 = .ok (.goto 4, 3) := by decide +kernel
theorem dX12_isThen_28 : decode cX12_isThen 28 = .ok (.iconst 0, 1) := by decide +kernel
theorem dX12_isThen_29 : decode cX12_isThen 29 = .ok (.ireturn, 1) := by decide +kernel
theorem dX12_said_0 : decode cX12_said 0 = .ok (.aload_n 0, 1) := by decide +kernel
theorem dX12_said_1 : decode cX12_said 1 = .ok (.iconst 0, 1) := by decide +kernel
theorem dX12_said_2 : decode cX12_said 2 = .ok (.putfield 1, 3) := by decide +kernel
theorem dX12_said_5 : decode cX12_said 5 = .ok (.aload_n 0, 1) := by decide +kernel
theorem dX12_said_6 : decode cX12_said 6 = .ok (.iload_n 1, 1) := by decide +kernel
theorem dX12_said_7 : decode cX12_said 7 = .ok (.invokevirtual 191, 3) := by decide +kernel
theorem dX12_said_10 : decode cX12_said 10 = .ok (.ifCond .eq 20, 3) := by decide +kernel
theorem dX12_said_13 : decode cX12_said 13 = .ok (.aload_n 0, 1) := by decide +kernel
theorem dX12_said_14 : decode cX12_said 14 = .ok (.iload_n 2, 1) := by decide +kernel
theorem dX12_said_15 : decode cX12_said 15 = .ok (.invokevirtual 194, 3) := by decide +kernel
theorem dX12_said_18 : decode cX12_said 18 = .ok (.ifCond .eq 12, 3) := by decide +kernel
theorem dX12_said_21 : decode cX12_said 21 = .ok (.iload_n 3, 1) := by decide +kernel
theorem dX12_said_22 : decode cX12_said 22 = .ok (.iload 4, 2) := by decide +kernel
theorem dX12_said_24 : decode cX12_said 24 = .ok (.invokestatic 197, 3) := by decide +kernel
theorem dX12_said_27 : decode cX12_said 27 = .ok (.ifCond .ne 5, 3) := by decide +kernel
theorem dX12_said_30 : decode cX12_said 30 = .ok (.iconst (-1), 1) := by decide +kernel
theorem dX12_said_31 : decode cX12_said 31 = .ok (.ireturn, 1) := by decide +kernel
theorem dX12_said_32 : decode cX12_said 32 = .ok (.aload_n 0, 1) := by decide +kernel
theorem dX12_said_33 : decode cX12_said 33 = .ok (.iconst 0, 1) := by decide +kernel
theorem dX12_said_34 : decode cX12_said 34 = .ok (.iload_n 1, 1) := by decide +kernel
theorem dX12_said_35 : decode cX12_said 35 = .ok (.iload_n 2, 1) := by decide +kernel
theorem dX12_said_36 : decode cX12_said 36 = .ok (.iload_n 3, 1) := by decide +kernel
theorem dX12_said_37 : decode cX12_said 37 = .ok (.iload 4, 2) := by decide +kernel
theorem dX12_said_39 : decode cX12_said 39 = .ok (.invokevirtual 200, 3) := by decide +kernel
theorem dX12_said_42 : decode cX12_said 42 = .ok (.aload_n 0, 1) := by decide +kernel
theorem dX12_said_43 : decode cX12_said 43 = .ok (.iconst 0, 1) := by decide +kernel
theorem dX12_said_44 : decode cX12_said 44 = .ok (.putfield 11, 3) := by decide +kernel
theorem dX12_said_47 : decode cX12_said 47 = .ok (.iconst 0, 1) := by decide +kernel
theorem dX12_said_48 : decode cX12_said 48 = .ok (.istore 5, 2) := by decide +kernel
theorem dX12_said_50 : decode cX12_said 50 = .ok (.iload 5, 2) := by decide +kernel
theorem dX12_said_52 : decode cX12_said 52 = .ok (.aload_n 0, 1) := by decide +kernel
theorem dX12_said_53 : decode cX12_said 53 = .ok (.getfield 155, 3) := by decide +kernel
theorem dX12_said_56 : decode cX12_said 56 = .ok (.iconst 0, 1) := by decide +kernel
theorem dX12_said_57 : decode cX12_said 57 = .ok (.iaload, 1) := by decide +kernel
theorem dX12_said_58 : decode cX12_said 58 = .ok (.if_icmp .ge 21, 3) := by decide +kernel
theorem dX12_said_61 : decode cX12_said 61 = .ok (.aload_n 0, 1) := by decide +kernel
theorem dX12_said_62 : decode cX12_said 62 = .ok (.aload_n 0, 1) := by decide +kernel
theorem dX12_said_63 : decode cX12_said 63 = .ok (.getfield 158, 3) := by decide +kernel
theorem dX12_said_66 : decode cX12_said 66 = .ok (.iload 5, 2) := by decide +kernel
theorem dX12_said_68 : decode cX12_said 68 = .ok (.iaload, 1) := by decide +kernel
theorem dX12_said_69 : decode cX12_said 69 = .ok (.i2l, 1) := by decide +kernel
theorem dX12_said_70 : decode cX12_said 70 = .ok (.invokevirtual 18, 3) := by decide +kernel
theorem dX12_said_73 : decode cX12_said 73 = .ok (.iinc 5 1, 3) := by decide +kernel
theorem dX12_said_76 : decode cX12_said 76 = .ok (.goto (-26), 3) := by decide +kernel
theorem dX12_said_79 : decode cX12_said 79 = .ok (.aload_n 0, 1) := by decide +kernel
theorem dX12_said_80 : decode cX12_said 80 = .ok (.getfield 155, 3) := by decide +kernel
theorem dX12_said_83 : decode cX12_said 83 = .ok (.iconst 0, 1) := by decide +kernel
theorem dX12_said_84 : decode cX12_said 84 = .ok (.iaload, 1) := by decide +kernel
theorem dX12_said_85 : decode cX12_said 85 = .ok (.ireturn, 1) := by decide +kernel
theorem dX12_changes_0 : decode cX12_changes 0 = .ok (.aload_n 0, 1) := by decide +kernel
theorem dX12_changes_1 : decode cX12_changes 1 = .ok (.iconst 0, 1) := by decide +kernel
theorem dX12_changes_2 : decode cX12_changes 2 = .ok (.putfield 1, 3) := by decide +kernel
theorem dX12_changes_5 : decode cX12_changes 5 = .ok (.aload_n 0, 1) := by decide +kernel
theorem dX12_changes_6 : decode cX12_changes 6 = .ok (.iload_n 1, 1) := by decide +kernel
theorem dX12_changes_7 : decode cX12_changes 7 = .ok (.invokevirtual 191, 3) := by decide +kernel
theorem dX12_changes_10 : decode cX12_changes 10 = .ok (.ifCond .eq 19, 3) := by decide +kernel
theorem dX12_changes_13 : decode cX12_changes 13 = .ok (.aload_n 0, 1) := by decide +kernel
theorem dX12_changes_14 : decode cX12_changes 14 = .ok (.iload_n 2, 1) := by decide +kernel
theorem dX12_changes_15 : decode cX12_changes 15 = .ok (.invokevirtual 194, 3) := by decide +kernel
theorem dX12_changes_18 : decode cX12_changes 18 = .ok (.ifCond .eq 11, 3) := by decide +kernel
theorem dX12_changes_21 : decode cX12_changes 21 = .ok (.iconst 0, 1) := by decide +kernel
theorem dX12_changes_22 : decode cX12_changes 22 = .ok (.iload_n 3, 1) := by decide +kernel
theorem dX12_changes_23 : decode cX12_changes 23 = .ok (.invokestatic 197, 3) := by decide +kernel
theorem dX12_changes_26 : decode cX12_changes 26 = .ok (.ifCond .ne 5, 3) := by decide +kernel
theorem dX12_changes_29 : decode cX12_changes 29 = .ok (.iconst (-1), 1) := by decide +kernel
theorem dX12_changes_30 : decode cX12_changes 30 = .ok (.ireturn, 1) := by decide +kernel
theorem dX12_changes_31 : decode cX12_changes 31 = .ok (.aload_n 0, 1) := by decide +kernel
theorem dX12_changes_32 : decode cX12_changes 32 = .ok (.iconst 0, 1) := by decide +kernel
theorem dX12_changes_33 : decode cX12_changes 33 = .ok (.putfield 11, 3) := by decide +kernel
theorem dX12_changes_36 : decode cX12_changes 36 = .ok (.iconst 0, 1) := by decide +kernel
theorem dX12_changes_37 : decode cX12_changes 37 = .ok (.istore 4, 2) := by decide +kernel
theorem dX12_changes_39 : decode cX12_changes 39 = .ok (.iload 4, 2) := by decide +kernel
theorem dX12_changes_41 : decode cX12_changes 41 = .ok (.sipush 600, 3) := by decide +kernel
theorem dX12_changes_44 : decode cX12_changes 44 = .ok (.if_icmp .gt 59, 3) := by decide +kernel
theorem dX12_changes_47 : decode cX12_changes 47 = .ok (.aload_n 0, 1) := by decide +kernel
theorem dX12_changes_48 : decode cX12_changes 48 = .ok (.iconst 0, 1) := by decide +kernel
theorem dX12_changes_49 : decode cX12_changes 49 = .ok (.iload_n 1, 1) := by decide +kernel
theorem dX12_changes_50 : decode cX12_changes 50 = .ok (.iload_n 2, 1) := by decide +kernel
theorem dX12_changes_51 : decode cX12_changes 51 = .ok (.iload 4, 2) := by decide +kernel
theorem dX12_changes_53 : decode cX12_changes 53 = .ok (.iload_n 3, 1) := by decide +kernel
theorem dX12_changes_54 : decode cX12_changes 54 = .ok (.invokevirtual 200, 3) := by decide +kernel
theorem dX12_changes_57 : decode cX12_changes 57 = .ok (.iload 4, 2) := by decide +kernel
theorem dX12_changes_59 : decode cX12_changes 59 = .ok (.ifCond .ne 12, 3) := by decide +kernel
theorem dX12_changes_62 : decode cX12_changes 62 = .ok (.aload_n 0, 1) := by decide +kernel
theorem dX12_changes_63 : decode cX12_changes 63 = .ok (.iconst 1, 1) := by decide +kernel
theorem dX12_changes_64 : decode cX12_changes 64 = .ok (.iload_n 1, 1) := by decide +kernel
theorem dX12_changes_65 : decode cX12_changes 65 = .ok (.invokevirtual 167, 3) := by decide +kernel
theorem dX12_changes_68 : decode cX12_changes 68 = .ok (.goto 15, 3) := by decide +kernel
theorem dX12_changes_71 : decode cX12_changes 71 = .ok (.aload_n 0, 1) := by decide +kernel
theorem dX12_changes_72 : decode cX12_changes 72 = .ok (.iconst 1, 1) := by decide +kernel
theorem dX12_changes_73 : decode cX12_changes 73 = .ok (.iload_n 1, 1) := by decide +kernel
theorem dX12_changes_74 : decode cX12_changes 74 = .ok (.iload_n 2, 1) := by decide +kernel
theorem dX12_changes_75 : decode cX12_changes 75 = .ok (.iload 4, 2) := by decide +kernel
theorem dX12_changes_77 : decode cX12_changes 77 = .ok (.iconst 1, 1) := by decide +kernel
theorem dX12_changes_78 : decode cX12_changes 78 = .ok (.isub, 1) := by decide +kernel
theorem dX12_changes_79 : decode cX12_changes 79 = .ok (.iload_n 3, 1) := by decide +kernel
theorem dX12_changes_80 : decode cX12_changes 80 = .ok (.invokevirtual 200, 3) := by decide +kernel
theorem dX12_changes_83 : decode cX12_changes 83 = .ok (.aload_n 0, 1) := by decide +kernel
theorem dX12_changes_84 : decode cX12_changes 84 = .ok (.invokevirtual 204, 3) := by decide +kernel
theorem dX12_changes_87 : decode cX12_changes 87 = .ok (.ifCond .ne 10, 3) := by decide +kernel
theorem dX12_changes_90 : decode cX12_changes 90 = .ok (.aload_n 0, 1) := by decide +kernel
theorem dX12_changes_91 : decode cX12_changes 91 = .ok (.iload 4, 2) := by decide +kernel
theorem dX12_changes_93 : decode cX12_changes 93 = .ok (.i2l, 1) := by decide +kernel
theorem dX12_changes_94 : decode cX12_changes 94 = .ok (.invokevirtual 18, 3) := by decide +kernel
theorem dX12_changes_97 : decode cX12_changes 97 = .ok (.iinc 4 1, 3) := by decide +kernel
theorem dX12_changes_100 : decode cX12_changes 100 = .ok (.goto (-61), 3) := by decide +kernel
theorem dX12_changes_103 : decode cX12_changes 103 = .ok (.aload_n 0, 1) := by decide +kernel
theorem dX12_changes_104 : decode cX12_changes 104 = .ok (.getfield 11, 3) := by decide +kernel
theorem dX12_changes_107 : decode cX12_changes 107 = .ok (.ireturn, 1) := by decide +kernel
theorem dX12_saysBoth_0 : decode cX12_saysBoth 0 = .ok (.aload_n 0, 1) := by decide +kernel
theorem dX12_saysBoth_1 : decode cX12_saysBoth 1 = .ok (.iconst 0, 1) := by decide +kernel
theorem dX12_saysBoth_2 : decode cX12_saysBoth 2 = .ok (.iload_n 1, 1) := by decide +kernel
theorem dX12_saysBoth_3 : decode cX12_saysBoth 3 = .ok (.iload_n 3, 1) := by decide +kernel
theorem dX12_saysBoth_4 : decode cX12_saysBoth 4 = .ok (.iload 4, 2) := by decide +kernel
theorem dX12_saysBoth_6 : decode cX12_saysBoth 6 = .ok (.iload 5, 2) := by decide +kernel
theorem dX12_saysBoth_8 : decode cX12_saysBoth 8 = .ok (.invokevirtual 200, 3) := by decide +kernel
theorem dX12_saysBoth_11 : decode cX12_saysBoth 11 = .ok (.aload_n 0, 1) := by decide +kernel
theorem dX12_saysBoth_12 : decode cX12_saysBoth 12 = .ok (.iconst 1, 1) := by decide +kernel
theorem dX12_saysBoth_13 : decode cX12_saysBoth 13 = .ok (.iload_n 2, 1) := by decide +kernel
theorem dX12_saysBoth_14 : decode cX12_saysBoth 14 = .ok (.iload_n 3, 1) := by decide +kernel
theorem dX12_saysBoth_15 : decode cX12_saysBoth 15 = .ok (.iload 4, 2) := by decide +kernel
theorem dX12_saysBoth_17 : decode cX12_saysBoth 17 = .ok (.iload 5, 2) := by decide +kernel
theorem dX12_saysBoth_19 : decode cX12_saysBoth 19 = .ok (.invokevirtual 200, 3) := by decide +kernel
theorem dX12_saysBoth_22 : decode cX12_saysBoth 22 = .ok (.return_, 1) := by decide +kernel
theorem dX12_alike_0 : decode cX12_alike 0 = .ok (.aload_n 0, 1) := by decide +kernel
theorem dX12_alike_1 : decode cX12_alike 1 = .ok (.iconst 0, 1) := by decide +kernel
theorem dX12_alike_2 : decode cX12_alike 2 = .ok (.putfield 1, 3) := by decide +kernel
theorem dX12_alike_5 : decode cX12_alike 5 = .ok (.aload_n 0, 1) := by decide +kernel
theorem dX12_alike_6 : decode cX12_alike 6 = .ok (.iload_n 1, 1) := by decide +kernel
theorem dX12_alike_7 : decode cX12_alike 7 = .ok (.invokevirtual 191, 3) := by decide +kernel
theorem dX12_alike_10 : decode cX12_alike 10 = .ok (.ifCond .eq 29, 3) := by decide +kernel
theorem dX12_alike_13 : decode cX12_alike 13 = .ok (.aload_n 0, 1) := by decide +kernel
theorem dX12_alike_14 : decode cX12_alike 14 = .ok (.iload_n 2, 1) := by decide +kernel
theorem dX12_alike_15 : decode cX12_alike 15 = .ok (.invokevirtual 191, 3) := by decide +kernel
theorem dX12_alike_18 : decode cX12_alike 18 = .ok (.ifCond .eq 21, 3) := by decide +kernel
theorem dX12_alike_21 : decode cX12_alike 21 = .ok (.aload_n 0, 1) := by decide +kernel
theorem dX12_alike_22 : decode cX12_alike 22 = .ok (.iload_n 3, 1) := by decide +kernel
theorem dX12_alike_23 : decode cX12_alike 23 = .ok (.invokevirtual 194, 3) := by decide +kernel
theorem dX12_alike_26 : decode cX12_alike 26 = .ok (.ifCond .eq 13, 3) := by decide +kernel
theorem dX12_alike_29 : decode cX12_alike 29 = .ok (.iload 4, 2) := by decide +kernel
theorem dX12_alike_31 : decode cX12_alike 31 = .ok (.iload 5, 2) := by decide +kernel
theorem dX12_alike_33 : decode cX12_alike 33 = .ok (.invokestatic 197, 3) := by decide +kernel
theorem dX12_alike_36 : decode cX12_alike 36 = .ok (.ifCond .ne 5, 3) := by decide +kernel
theorem dX12_alike_39 : decode cX12_alike 39 = .ok (.iconst (-1), 1) := by decide +kernel
theorem dX12_alike_40 : decode cX12_alike 40 = .ok (.ireturn, 1) := by decide +kernel
theorem dX12_alike_41 : decode cX12_alike 41 = .ok (.aload_n 0, 1) := by decide +kernel
theorem dX12_alike_42 : decode cX12_alike 42 = .ok (.iload_n 1, 1) := by decide +kernel
theorem dX12_alike_43 : decode cX12_alike 43 = .ok (.iload_n 2, 1) := by decide +kernel
theorem dX12_alike_44 : decode cX12_alike 44 = .ok (.iload_n 3, 1) := by decide +kernel
theorem dX12_alike_45 : decode cX12_alike 45 = .ok (.iload 4, 2) := by decide +kernel
theorem dX12_alike_47 : decode cX12_alike 47 = .ok (.iload 5, 2) := by decide +kernel
theorem dX12_alike_49 : decode cX12_alike 49 = .ok (.invokevirtual 207, 3) := by decide +kernel
theorem dX12_alike_52 : decode cX12_alike 52 = .ok (.aload_n 0, 1) := by decide +kernel
theorem dX12_alike_53 : decode cX12_alike 53 = .ok (.invokevirtual 204, 3) := by decide +kernel
theorem dX12_alike_56 : decode cX12_alike 56 = .ok (.ifCond .eq 7, 3) := by decide +kernel
theorem dX12_alike_59 : decode cX12_alike 59 = .ok (.iconst 2, 1) := by decide +kernel
theorem dX12_alike_60 : decode cX12_alike 60 = .ok (.goto 10, 3) := by decide +kernel
theorem dX12_alike_63 : decode cX12_alike 63 = .ok (.aload_n 0, 1) := by decide +kernel
theorem dX12_alike_64 : decode cX12_alike 64 = .ok (.invokevirtual 210, 3) := by decide +kernel
theorem dX12_alike_67 : decode cX12_alike 67 = .ok (.invokestatic 39, 3) := by decide +kernel
theorem dX12_alike_70 : decode cX12_alike 70 = .ok (.ireturn, 1) := by decide +kernel
theorem dX12_one_0 : decode cX12_one 0 = .ok (.aload_n 0, 1) := by decide +kernel
theorem dX12_one_1 : decode cX12_one 1 = .ok (.iconst 0, 1) := by decide +kernel
theorem dX12_one_2 : decode cX12_one 2 = .ok (.putfield 1, 3) := by decide +kernel
theorem dX12_one_5 : decode cX12_one 5 = .ok (.aload_n 0, 1) := by decide +kernel
theorem dX12_one_6 : decode cX12_one 6 = .ok (.iload_n 1, 1) := by decide +kernel
theorem dX12_one_7 : decode cX12_one 7 = .ok (.invokevirtual 191, 3) := by decide +kernel
theorem dX12_one_10 : decode cX12_one 10 = .ok (.ifCond .eq 28, 3) := by decide +kernel
theorem dX12_one_13 : decode cX12_one 13 = .ok (.aload_n 0, 1) := by decide +kernel
theorem dX12_one_14 : decode cX12_one 14 = .ok (.iload_n 2, 1) := by decide +kernel
theorem dX12_one_15 : decode cX12_one 15 = .ok (.invokevirtual 191, 3) := by decide +kernel
theorem dX12_one_18 : decode cX12_one 18 = .ok (.ifCond .eq 20, 3) := by decide +kernel
theorem dX12_one_21 : decode cX12_one 21 = .ok (.aload_n 0, 1) := by decide +kernel
theorem dX12_one_22 : decode cX12_one 22 = .ok (.iload_n 3, 1) := by decide +kernel
theorem dX12_one_23 : decode cX12_one 23 = .ok (.invokevirtual 194, 3) := by decide +kernel
theorem dX12_one_26 : decode cX12_one 26 = .ok (.ifCond .eq 12, 3) := by decide +kernel
theorem dX12_one_29 : decode cX12_one 29 = .ok (.iconst 0, 1) := by decide +kernel
theorem dX12_one_30 : decode cX12_one 30 = .ok (.iload 4, 2) := by decide +kernel
theorem dX12_one_32 : decode cX12_one 32 = .ok (.invokestatic 197, 3) := by decide +kernel
theorem dX12_one_35 : decode cX12_one 35 = .ok (.ifCond .ne 5, 3) := by decide +kernel
theorem dX12_one_38 : decode cX12_one 38 = .ok (.iconst (-1), 1) := by decide +kernel
theorem dX12_one_39 : decode cX12_one 39 = .ok (.ireturn, 1) := by decide +kernel
theorem dX12_one_40 : decode cX12_one 40 = .ok (.aload_n 0, 1) := by decide +kernel
theorem dX12_one_41 : decode cX12_one 41 = .ok (.iconst 0, 1) := by decide +kernel
theorem dX12_one_42 : decode cX12_one 42 = .ok (.putfield 11, 3) := by decide +kernel
theorem dX12_one_45 : decode cX12_one 45 = .ok (.iconst 0, 1) := by decide +kernel
theorem dX12_one_46 : decode cX12_one 46 = .ok (.istore 5, 2) := by decide +kernel
theorem dX12_one_48 : decode cX12_one 48 = .ok (.iconst 0, 1) := by decide +kernel
theorem dX12_one_49 : decode cX12_one 49 = .ok (.istore 6, 2) := by decide +kernel
theorem dX12_one_51 : decode cX12_one 51 = .ok (.iconst 0, 1) := by decide +kernel
theorem dX12_one_52 : decode cX12_one 52 = .ok (.istore 7, 2) := by decide +kernel
theorem dX12_one_54 : decode cX12_one 54 = .ok (.iload 7, 2) := by decide +kernel
theorem dX12_one_56 : decode cX12_one 56 = .ok (.sipush 601, 3) := by decide +kernel
theorem dX12_one_59 : decode cX12_one 59 = .ok (.if_icmp .gt 98, 3) := by decide +kernel
theorem dX12_one_62 : decode cX12_one 62 = .ok (.iconst 0, 1) := by decide +kernel
theorem dX12_one_63 : decode cX12_one 63 = .ok (.istore 8, 2) := by decide +kernel
theorem dX12_one_65 : decode cX12_one 65 = .ok (.iload 7, 2) := by decide +kernel
theorem dX12_one_67 : decode cX12_one 67 = .ok (.sipush 600, 3) := by decide +kernel
theorem dX12_one_70 : decode cX12_one 70 = .ok (.if_icmp .gt 20, 3) := by decide +kernel
theorem dX12_one_73 : decode cX12_one 73 = .ok (.aload_n 0, 1) := by decide +kernel
theorem dX12_one_74 : decode cX12_one 74 = .ok (.iload_n 1, 1) := by decide +kernel
theorem dX12_one_75 : decode cX12_one 75 = .ok (.iload_n 2, 1) := by decide +kernel
theorem dX12_one_76 : decode cX12_one 76 = .ok (.iload_n 3, 1) := by decide +kernel
theorem dX12_one_77 : decode cX12_one 77 = .ok (.iload 7, 2) := by decide +kernel
theorem dX12_one_79 : decode cX12_one 79 = .ok (.iload 4, 2) := by decide +kernel
theorem dX12_one_81 : decode cX12_one 81 = .ok (.invokevirtual 207, 3) := by decide +kernel
theorem dX12_one_84 : decode cX12_one 84 = .ok (.aload_n 0, 1) := by decide +kernel
theorem dX12_one_85 : decode cX12_one 85 = .ok (.invokevirtual 204, 3) := by decide +kernel
theorem dX12_one_88 : decode cX12_one 88 = .ok (.istore 8, 2) := by decide +kernel
theorem dX12_one_90 : decode cX12_one 90 = .ok (.iload 5, 2) := by decide +kernel
theorem dX12_one_92 : decode cX12_one 92 = .ok (.iload 8, 2) := by decide +kernel
theorem dX12_one_94 : decode cX12_one 94 = .ok (.ifCond .eq 12, 3) := by decide +kernel
theorem dX12_one_97 : decode cX12_one 97 = .ok (.iload 6, 2) := by decide +kernel
theorem dX12_one_99 : decode cX12_one 99 = .ok (.ifCond .ne 7, 3) := by decide +kernel
theorem dX12_one_102 : decode cX12_one 102 = .ok (.iconst 1, 1) := by decide +kernel
theorem dX12_one_103 : decode cX12_one 103 = .ok (.goto 4, 3) := by decide +kernel
theorem dX12_one_106 : decode cX12_one 106 = .ok (.iconst 0, 1) := by decide +kernel
theorem dX12_one_107 : decode cX12_one 107 = .ok (.invokestatic 39, 3) := by decide +kernel
theorem dX12_one_110 : decode cX12_one 110 = .ok (.iadd, 1) := by decide +kernel
theorem dX12_one_111 : decode cX12_one 111 = .ok (.istore 5, 2) := by decide +kernel
theorem dX12_one_113 : decode cX12_one 113 = .ok (.iload 8, 2) := by decide +kernel
theorem dX12_one_115 : decode cX12_one 115 = .ok (.iload 6, 2) := by decide +kernel
theorem dX12_one_117 : decode cX12_one 117 = .ok (.if_icmp .eq 30, 3) := by decide +kernel
theorem dX12_one_120 : decode cX12_one 120 = .ok (.iload 5, 2) := by decide +kernel
theorem dX12_one_122 : decode cX12_one 122 = .ok (.bipush 12, 2) := by decide +kernel
theorem dX12_one_124 : decode cX12_one 124 = .ok (.if_icmp .gt 23, 3) := by decide +kernel
theorem dX12_one_127 : decode cX12_one 127 = .ok (.aload_n 0, 1) := by decide +kernel
theorem dX12_one_128 : decode cX12_one 128 = .ok (.iload 8, 2) := by decide +kernel
theorem dX12_one_130 : decode cX12_one 130 = .ok (.ifCond .eq 9, 3) := by decide +kernel
theorem dX12_one_133 : decode cX12_one 133 = .ok (.iload 7, 2) := by decide +kernel
theorem dX12_one_135 : decode cX12_one 135 = .ok (.i2l, 1) := by decide +kernel
theorem dX12_one_136 : decode cX12_one 136 = .ok (.goto 8, 3) := by decide +kernel
theorem dX12_one_139 : decode cX12_one 139 = .ok (.iload 7, 2) := by decide +kernel
theorem dX12_one_141 : decode cX12_one 141 = .ok (.iconst 1, 1) := by decide +kernel
theorem dX12_one_142 : decode cX12_one 142 = .ok (.isub, 1) := by decide +kernel
theorem dX12_one_143 : decode cX12_one 143 = .ok (.i2l, 1) := by decide +kernel
theorem dX12_one_144 : decode cX12_one 144 = .ok (.invokevirtual 18, 3) := by decide +kernel
theorem dX12_one_147 : decode cX12_one 147 = .ok (.iload 8, 2) := by decide +kernel
theorem dX12_one_149 : decode cX12_one 149 = .ok (.istore 6, 2) := by decide +kernel
theorem dX12_one_151 : decode cX12_one 151 = .ok (.iinc 7 1, 3) := by decide +kernel
theorem dX12_one_154 : decode cX12_one 154 = .ok (.goto (-100), 3) := by decide +kernel
theorem dX12_one_157 : decode cX12_one 157 = .ok (.iload 5, 2) := by decide +kernel
theorem dX12_one_159 : decode cX12_one 159 = .ok (.ireturn, 1) := by decide +kernel
theorem dX12_rhymes_0 : decode cX12_rhymes 0 = .ok (.aload_n 0, 1) := by decide +kernel
theorem dX12_rhymes_1 : decode cX12_rhymes 1 = .ok (.iconst 0, 1) := by decide +kernel
theorem dX12_rhymes_2 : decode cX12_rhymes 2 = .ok (.putfield 1, 3) := by decide +kernel
theorem dX12_rhymes_5 : decode cX12_rhymes 5 = .ok (.aload_n 0, 1) := by decide +kernel
theorem dX12_rhymes_6 : decode cX12_rhymes 6 = .ok (.iload_n 1, 1) := by decide +kernel
theorem dX12_rhymes_7 : decode cX12_rhymes 7 = .ok (.invokevirtual 191, 3) := by decide +kernel
theorem dX12_rhymes_10 : decode cX12_rhymes 10 = .ok (.ifCond .eq 20, 3) := by decide +kernel
theorem dX12_rhymes_13 : decode cX12_rhymes 13 = .ok (.aload_n 0, 1) := by decide +kernel
theorem dX12_rhymes_14 : decode cX12_rhymes 14 = .ok (.iload_n 2, 1) := by decide +kernel
theorem dX12_rhymes_15 : decode cX12_rhymes 15 = .ok (.invokevirtual 194, 3) := by decide +kernel
theorem dX12_rhymes_18 : decode cX12_rhymes 18 = .ok (.ifCond .eq 12, 3) := by decide +kernel
theorem dX12_rhymes_21 : decode cX12_rhymes 21 = .ok (.iload_n 3, 1) := by decide +kernel
theorem dX12_rhymes_22 : decode cX12_rhymes 22 = .ok (.iload 4, 2) := by decide +kernel
theorem dX12_rhymes_24 : decode cX12_rhymes 24 = .ok (.invokestatic 197, 3) := by decide +kernel
theorem dX12_rhymes_27 : decode cX12_rhymes 27 = .ok (.ifCond .ne 5, 3) := by decide +kernel
theorem dX12_rhymes_30 : decode cX12_rhymes 30 = .ok (.iconst (-1), 1) := by decide +kernel
theorem dX12_rhymes_31 : decode cX12_rhymes 31 = .ok (.ireturn, 1) := by decide +kernel
theorem dX12_rhymes_32 : decode cX12_rhymes 32 = .ok (.aload_n 0, 1) := by decide +kernel
theorem dX12_rhymes_33 : decode cX12_rhymes 33 = .ok (.iconst 0, 1) := by decide +kernel
theorem dX12_rhymes_34 : decode cX12_rhymes 34 = .ok (.putfield 11, 3) := by decide +kernel
theorem dX12_rhymes_37 : decode cX12_rhymes 37 = .ok (.iconst 0, 1) := by decide +kernel
theorem dX12_rhymes_38 : decode cX12_rhymes 38 = .ok (.istore 5, 2) := by decide +kernel
theorem dX12_rhymes_40 : decode cX12_rhymes 40 = .ok (.iload 5, 2) := by decide +kernel
theorem dX12_rhymes_42 : decode cX12_rhymes 42 = .ok (.aload_n 0, 1) := by decide +kernel
theorem dX12_rhymes_43 : decode cX12_rhymes 43 = .ok (.getfield 75, 3) := by decide +kernel
theorem dX12_rhymes_46 : decode cX12_rhymes 46 = .ok (.if_icmp .ge 40, 3) := by decide +kernel
theorem dX12_rhymes_49 : decode cX12_rhymes 49 = .ok (.aload_n 0, 1) := by decide +kernel
theorem dX12_rhymes_50 : decode cX12_rhymes 50 = .ok (.iload_n 1, 1) := by decide +kernel
theorem dX12_rhymes_51 : decode cX12_rhymes 51 = .ok (.iload 5, 2) := by decide +kernel
theorem dX12_rhymes_53 : decode cX12_rhymes 53 = .ok (.iload_n 2, 1) := by decide +kernel
theorem dX12_rhymes_54 : decode cX12_rhymes 54 = .ok (.iload_n 3, 1) := by decide +kernel
theorem dX12_rhymes_55 : decode cX12_rhymes 55 = .ok (.iload 4, 2) := by decide +kernel
theorem dX12_rhymes_57 : decode cX12_rhymes 57 = .ok (.invokevirtual 207, 3) := by decide +kernel
theorem dX12_rhymes_60 : decode cX12_rhymes 60 = .ok (.iload 5, 2) := by decide +kernel
theorem dX12_rhymes_62 : decode cX12_rhymes 62 = .ok (.iload_n 1, 1) := by decide +kernel
theorem dX12_rhymes_63 : decode cX12_rhymes 63 = .ok (.if_icmp .eq 17, 3) := by decide +kernel
theorem dX12_rhymes_66 : decode cX12_rhymes 66 = .ok (.aload_n 0, 1) := by decide +kernel
theorem dX12_rhymes_67 : decode cX12_rhymes 67 = .ok (.invokevirtual 210, 3) := by decide +kernel
theorem dX12_rhymes_70 : decode cX12_rhymes 70 = .ok (.ifCond .eq 10, 3) := by decide +kernel
theorem dX12_rhymes_73 : decode cX12_rhymes 73 = .ok (.aload_n 0, 1) := by decide +kernel
theorem dX12_rhymes_74 : decode cX12_rhymes 74 = .ok (.iload 5, 2) := by decide +kernel
theorem dX12_rhymes_76 : decode cX12_rhymes 76 = .ok (.i2l, 1) := by decide +kernel
theorem dX12_rhymes_77 : decode cX12_rhymes 77 = .ok (.invokevirtual 18, 3) := by decide +kernel
theorem dX12_rhymes_80 : decode cX12_rhymes 80 = .ok (.iinc 5 1, 3) := by decide +kernel
theorem dX12_rhymes_83 : decode cX12_rhymes 83 = .ok (.goto (-43), 3) := by decide +kernel
theorem dX12_rhymes_86 : decode cX12_rhymes 86 = .ok (.aload_n 0, 1) := by decide +kernel
theorem dX12_rhymes_87 : decode cX12_rhymes 87 = .ok (.getfield 11, 3) := by decide +kernel
theorem dX12_rhymes_90 : decode cX12_rhymes 90 = .ok (.ireturn, 1) := by decide +kernel
theorem dX12_chance_0 : decode cX12_chance 0 = .ok (.aload_n 0, 1) := by decide +kernel
theorem dX12_chance_1 : decode cX12_chance 1 = .ok (.iconst 0, 1) := by decide +kernel
theorem dX12_chance_2 : decode cX12_chance 2 = .ok (.putfield 1, 3) := by decide +kernel
theorem dX12_chance_5 : decode cX12_chance 5 = .ok (.aload_n 0, 1) := by decide +kernel
theorem dX12_chance_6 : decode cX12_chance 6 = .ok (.iload_n 1, 1) := by decide +kernel
theorem dX12_chance_7 : decode cX12_chance 7 = .ok (.invokevirtual 194, 3) := by decide +kernel
theorem dX12_chance_10 : decode cX12_chance 10 = .ok (.ifCond .eq 11, 3) := by decide +kernel
theorem dX12_chance_13 : decode cX12_chance 13 = .ok (.iload_n 2, 1) := by decide +kernel
theorem dX12_chance_14 : decode cX12_chance 14 = .ok (.iload_n 3, 1) := by decide +kernel
theorem dX12_chance_15 : decode cX12_chance 15 = .ok (.invokestatic 197, 3) := by decide +kernel
theorem dX12_chance_18 : decode cX12_chance 18 = .ok (.ifCond .ne 5, 3) := by decide +kernel
theorem dX12_chance_21 : decode cX12_chance 21 = .ok (.iconst (-1), 1) := by decide +kernel
theorem dX12_chance_22 : decode cX12_chance 22 = .ok (.ireturn, 1) := by decide +kernel
theorem dX12_chance_23 : decode cX12_chance 23 = .ok (.aload_n 0, 1) := by decide +kernel
theorem dX12_chance_24 : decode cX12_chance 24 = .ok (.getfield 75, 3) := by decide +kernel
theorem dX12_chance_27 : decode cX12_chance 27 = .ok (.iconst 2, 1) := by decide +kernel
theorem dX12_chance_28 : decode cX12_chance 28 = .ok (.if_icmp .ge 6, 3) := by decide +kernel
theorem dX12_chance_31 : decode cX12_chance 31 = .ok (.bipush (-2), 2) := by decide +kernel
theorem dX12_chance_33 : decode cX12_chance 33 = .ok (.ireturn, 1) := by decide +kernel
theorem dX12_chance_34 : decode cX12_chance 34 = .ok (.iconst 0, 1) := by decide +kernel
theorem dX12_chance_35 : decode cX12_chance 35 = .ok (.istore 4, 2) := by decide +kernel
theorem dX12_chance_37 : decode cX12_chance 37 = .ok (.iconst 0, 1) := by decide +kernel
theorem dX12_chance_38 : decode cX12_chance 38 = .ok (.istore 5, 2) := by decide +kernel
theorem dX12_chance_40 : decode cX12_chance 40 = .ok (.iload 5, 2) := by decide +kernel
theorem dX12_chance_42 : decode cX12_chance 42 = .ok (.aload_n 0, 1) := by decide +kernel
theorem dX12_chance_43 : decode cX12_chance 43 = .ok (.getfield 75, 3) := by decide +kernel
theorem dX12_chance_46 : decode cX12_chance 46 = .ok (.if_icmp .ge 48, 3) := by decide +kernel
theorem dX12_chance_49 : decode cX12_chance 49 = .ok (.iconst 0, 1) := by decide +kernel
theorem dX12_chance_50 : decode cX12_chance 50 = .ok (.istore 6, 2) := by decide +kernel
theorem dX12_chance_52 : decode cX12_chance 52 = .ok (.iload 6, 2) := by decide +kernel
theorem dX12_chance_54 : decode cX12_chance 54 = .ok (.iload 5, 2) := by decide +kernel
theorem dX12_chance_56 : decode cX12_chance 56 = .ok (.if_icmp .ge 32, 3) := by decide +kernel
theorem dX12_chance_59 : decode cX12_chance 59 = .ok (.aload_n 0, 1) := by decide +kernel
theorem dX12_chance_60 : decode cX12_chance 60 = .ok (.iload 5, 2) := by decide +kernel
theorem dX12_chance_62 : decode cX12_chance 62 = .ok (.iload 6, 2) := by decide +kernel
theorem dX12_chance_64 : decode cX12_chance 64 = .ok (.iload_n 1, 1) := by decide +kernel
theorem dX12_chance_65 : decode cX12_chance 65 = .ok (.iload_n 2, 1) := by decide +kernel
theorem dX12_chance_66 : decode cX12_chance 66 = .ok (.iload_n 3, 1) := by decide +kernel
theorem dX12_chance_67 : decode cX12_chance 67 = .ok (.invokevirtual 207, 3) := by decide +kernel
theorem dX12_chance_70 : decode cX12_chance 70 = .ok (.iload 4, 2) := by decide +kernel
theorem dX12_chance_72 : decode cX12_chance 72 = .ok (.aload_n 0, 1) := by decide +kernel
theorem dX12_chance_73 : decode cX12_chance 73 = .ok (.invokevirtual 210, 3) := by decide +kernel
theorem dX12_chance_76 : decode cX12_chance 76 = .ok (.invokestatic 39, 3) := by decide +kernel
theorem dX12_chance_79 : decode cX12_chance 79 = .ok (.iadd, 1) := by decide +kernel
theorem dX12_chance_80 : decode cX12_chance 80 = .ok (.istore 4, 2) := by decide +kernel
theorem dX12_chance_82 : decode cX12_chance 82 = .ok (.iinc 6 1, 3) := by decide +kernel
theorem dX12_chance_85 : decode cX12_chance 85 = .ok (.goto (-33), 3) := by decide +kernel
theorem dX12_chance_88 : decode cX12_chance 88 = .ok (.iinc 5 1, 3) := by decide +kernel
theorem dX12_chance_91 : decode cX12_chance 91 = .ok (.goto (-51), 3) := by decide +kernel
theorem dX12_chance_94 : decode cX12_chance 94 = .ok (.aload_n 0, 1) := by decide +kernel
theorem dX12_chance_95 : decode cX12_chance 95 = .ok (.iconst 0, 1) := by decide +kernel
theorem dX12_chance_96 : decode cX12_chance 96 = .ok (.putfield 11, 3) := by decide +kernel
theorem dX12_chance_99 : decode cX12_chance 99 = .ok (.aload_n 0, 1) := by decide +kernel
theorem dX12_chance_100 : decode cX12_chance 100 = .ok (.iload 4, 2) := by decide +kernel
theorem dX12_chance_102 : decode cX12_chance 102 = .ok (.i2l, 1) := by decide +kernel
theorem dX12_chance_103 : decode cX12_chance 103 = .ok (.aload_n 0, 1) := by decide +kernel
theorem dX12_chance_104 : decode cX12_chance 104 = .ok (.getfield 75, 3) := by decide +kernel
theorem dX12_chance_107 : decode cX12_chance 107 = .ok (.aload_n 0, 1) := by decide +kernel
theorem dX12_chance_108 : decode cX12_chance 108 = .ok (.getfield 75, 3) := by decide +kernel
theorem dX12_chance_111 : decode cX12_chance 111 = .ok (.iconst 1, 1) := by decide +kernel
theorem dX12_chance_112 : decode cX12_chance 112 = .ok (.isub, 1) := by decide +kernel
theorem dX12_chance_113 : decode cX12_chance 113 = .ok (.imul, 1) := by decide +kernel
theorem dX12_chance_114 : decode cX12_chance 114 = .ok (.iconst 2, 1) := by decide +kernel
theorem dX12_chance_115 : decode cX12_chance 115 = .ok (.idiv, 1) := by decide +kernel
theorem dX12_chance_116 : decode cX12_chance 116 = .ok (.i2l, 1) := by decide +kernel
theorem dX12_chance_117 : decode cX12_chance 117 = .ok (.invokevirtual 213, 3) := by decide +kernel
theorem dX12_chance_120 : decode cX12_chance 120 = .ok (.iconst 0, 1) := by decide +kernel
theorem dX12_chance_121 : decode cX12_chance 121 = .ok (.ireturn, 1) := by decide +kernel
theorem dX12_works_0 : decode cX12_works 0 = .ok (.aload_n 0, 1) := by decide +kernel
theorem dX12_works_1 : decode cX12_works 1 = .ok (.iconst 0, 1) := by decide +kernel
theorem dX12_works_2 : decode cX12_works 2 = .ok (.putfield 1, 3) := by decide +kernel
theorem dX12_works_5 : decode cX12_works 5 = .ok (.aload_n 0, 1) := by decide +kernel
theorem dX12_works_6 : decode cX12_works 6 = .ok (.iload_n 1, 1) := by decide +kernel
theorem dX12_works_7 : decode cX12_works 7 = .ok (.invokevirtual 217, 3) := by decide +kernel
theorem dX12_works_10 : decode cX12_works 10 = .ok (.ifCond .eq 20, 3) := by decide +kernel
theorem dX12_works_13 : decode cX12_works 13 = .ok (.aload_n 0, 1) := by decide +kernel
theorem dX12_works_14 : decode cX12_works 14 = .ok (.iload_n 2, 1) := by decide +kernel
theorem dX12_works_15 : decode cX12_works 15 = .ok (.invokevirtual 194, 3) := by decide +kernel
theorem dX12_works_18 : decode cX12_works 18 = .ok (.ifCond .eq 12, 3) := by decide +kernel
theorem dX12_works_21 : decode cX12_works 21 = .ok (.iload_n 3, 1) := by decide +kernel
theorem dX12_works_22 : decode cX12_works 22 = .ok (.iload 4, 2) := by decide +kernel
theorem dX12_works_24 : decode cX12_works 24 = .ok (.invokestatic 197, 3) := by decide +kernel
theorem dX12_works_27 : decode cX12_works 27 = .ok (.ifCond .ne 5, 3) := by decide +kernel
theorem dX12_works_30 : decode cX12_works 30 = .ok (.iconst (-1), 1) := by decide +kernel
theorem dX12_works_31 : decode cX12_works 31 = .ok (.ireturn, 1) := by decide +kernel
theorem dX12_works_32 : decode cX12_works 32 = .ok (.iconst 0, 1) := by decide +kernel
theorem dX12_works_33 : decode cX12_works 33 = .ok (.istore 5, 2) := by decide +kernel
theorem dX12_works_35 : decode cX12_works 35 = .ok (.iconst 0, 1) := by decide +kernel
theorem dX12_works_36 : decode cX12_works 36 = .ok (.istore 6, 2) := by decide +kernel
theorem dX12_works_38 : decode cX12_works 38 = .ok (.iload 6, 2) := by decide +kernel
theorem dX12_works_40 : decode cX12_works 40 = .ok (.aload_n 0, 1) := by decide +kernel
theorem dX12_works_41 : decode cX12_works 41 = .ok (.getfield 75, 3) := by decide +kernel
theorem dX12_works_44 : decode cX12_works 44 = .ok (.if_icmp .ge 85, 3) := by decide +kernel
theorem dX12_works_47 : decode cX12_works 47 = .ok (.aload_n 0, 1) := by decide +kernel
theorem dX12_works_48 : decode cX12_works 48 = .ok (.iconst 0, 1) := by decide +kernel
theorem dX12_works_49 : decode cX12_works 49 = .ok (.iload 6, 2) := by decide +kernel
theorem dX12_works_51 : decode cX12_works 51 = .ok (.invokevirtual 167, 3) := by decide +kernel
theorem dX12_works_54 : decode cX12_works 54 = .ok (.aload_n 0, 1) := by decide +kernel
theorem dX12_works_55 : decode cX12_works 55 = .ok (.iload_n 2, 1) := by decide +kernel
theorem dX12_works_56 : decode cX12_works 56 = .ok (.iload_n 3, 1) := by decide +kernel
theorem dX12_works_57 : decode cX12_works 57 = .ok (.iload 4, 2) := by decide +kernel
theorem dX12_works_59 : decode cX12_works 59 = .ok (.invokevirtual 171, 3) := by decide +kernel
theorem dX12_works_62 : decode cX12_works 62 = .ok (.iconst 0, 1) := by decide +kernel
theorem dX12_works_63 : decode cX12_works 63 = .ok (.istore 7, 2) := by decide +kernel
theorem dX12_works_65 : decode cX12_works 65 = .ok (.iload 7, 2) := by decide +kernel
theorem dX12_works_67 : decode cX12_works 67 = .ok (.aload_n 0, 1) := by decide +kernel
theorem dX12_works_68 : decode cX12_works 68 = .ok (.getfield 130, 3) := by decide +kernel
theorem dX12_works_71 : decode cX12_works 71 = .ok (.if_icmp .ge 52, 3) := by decide +kernel
theorem dX12_works_74 : decode cX12_works 74 = .ok (.aload_n 0, 1) := by decide +kernel
theorem dX12_works_75 : decode cX12_works 75 = .ok (.iconst 0, 1) := by decide +kernel
theorem dX12_works_76 : decode cX12_works 76 = .ok (.aload_n 0, 1) := by decide +kernel
theorem dX12_works_77 : decode cX12_works 77 = .ok (.getfield 143, 3) := by decide +kernel
theorem dX12_works_80 : decode cX12_works 80 = .ok (.iload 7, 2) := by decide +kernel
theorem dX12_works_82 : decode cX12_works 82 = .ok (.iaload, 1) := by decide +kernel
theorem dX12_works_83 : decode cX12_works 83 = .ok (.invokevirtual 175, 3) := by decide +kernel
theorem dX12_works_86 : decode cX12_works 86 = .ok (.istore 8, 2) := by decide +kernel
theorem dX12_works_88 : decode cX12_works 88 = .ok (.iload 5, 2) := by decide +kernel
theorem dX12_works_90 : decode cX12_works 90 = .ok (.iload 8, 2) := by decide +kernel
theorem dX12_works_92 : decode cX12_works 92 = .ok (.ifCond .eq 21, 3) := by decide +kernel
theorem dX12_works_95 : decode cX12_works 95 = .ok (.aload_n 0, 1) := by decide +kernel
theorem dX12_works_96 : decode cX12_works 96 = .ok (.getfield 143, 3) := by decide +kernel
theorem dX12_works_99 : decode cX12_works 99 = .ok (.iload 7, 2) := by decide +kernel
theorem dX12_works_101 : decode cX12_works 101 = .ok (.iaload, 1) := by decide +kernel
theorem dX12_works_102 : decode cX12_works 102 = .ok (.iload_n 1, 1) := by decide +kernel
theorem dX12_works_103 : decode cX12_works 103 = .ok (.if_icmp .ne 10, 3) := by decide +kernel
theorem dX12_works_106 : decode cX12_works 106 = .ok (.iconst 1, 1) := by decide +kernel
theorem dX12_works_107 : decode cX12_works 107 = .ok (.iload 6, 2) := by decide +kernel
theorem dX12_works_109 : decode cX12_works 109 = .ok (.ishl, 1) := by decide +kernel
theorem dX12_works_110 : decode cX12_works 110 = .ok (.goto 4, 3) := by decide +kernel
theorem dX12_works_113 : decode cX12_works 113 = .ok (.iconst 0, 1) := by decide +kernel
theorem dX12_works_114 : decode cX12_works 114 = .ok (.ior, 1) := by decide +kernel
theorem dX12_works_115 : decode cX12_works 115 = .ok (.istore 5, 2) := by decide +kernel
theorem dX12_works_117 : decode cX12_works 117 = .ok (.iinc 7 1, 3) := by decide +kernel
theorem dX12_works_120 : decode cX12_works 120 = .ok (.goto (-55), 3) := by decide +kernel
theorem dX12_works_123 : decode cX12_works 123 = .ok (.iinc 6 1, 3) := by decide +kernel
theorem dX12_works_126 : decode cX12_works 126 = .ok (.goto (-88), 3) := by decide +kernel
theorem dX12_works_129 : decode cX12_works 129 = .ok (.iload 5, 2) := by decide +kernel
theorem dX12_works_131 : decode cX12_works 131 = .ok (.ireturn, 1) := by decide +kernel
theorem dX12_isMark_0 : decode cX12_isMark 0 = .ok (.iload_n 1, 1) := by decide +kernel
theorem dX12_isMark_1 : decode cX12_isMark 1 = .ok (.ifCond .eq 13, 3) := by decide +kernel
theorem dX12_isMark_4 : decode cX12_isMark 4 = .ok (.iload_n 1, 1) := by decide +kernel
theorem dX12_isMark_5 : decode cX12_isMark 5 = .ok (.iconst 1, 1) := by decide +kernel
theorem dX12_isMark_6 : decode cX12_isMark 6 = .ok (.if_icmp .eq 8, 3) := by decide +kernel
theorem dX12_isMark_9 : decode cX12_isMark 9 = .ok (.iload_n 1, 1) := by decide +kernel
theorem dX12_isMark_10 : decode cX12_isMark 10 = .ok (.iconst 4, 1) := by decide +kernel
theorem dX12_isMark_11 : decode cX12_isMark 11 = .ok (.if_icmp .ne 7, 3) := by decide +kernel
theorem dX12_isMark_14 : decode cX12_isMark 14 = .ok (.iconst 1, 1) := by decide +kernel
theorem dX12_isMark_15 : decode cX12_isMark 15 = .ok (.goto 4, 3) := by decide +kernel
theorem dX12_isMark_18 : decode cX12_isMark 18 = .ok (.iconst 0, 1) := by decide +kernel
theorem dX12_isMark_19 : decode cX12_isMark 19 = .ok (.istore 7, 2) := by decide +kernel
theorem dX12_isMark_21 : decode cX12_isMark 21 = .ok (.iload_n 1, 1) := by decide +kernel
theorem dX12_isMark_22 : decode cX12_isMark 22 = .ok (.i2l, 1) := by decide +kernel
theorem dX12_isMark_23 : decode cX12_isMark 23 = .ok (.lconst 0, 1) := by decide +kernel
theorem dX12_isMark_24 : decode cX12_isMark 24 = .ok (.ldc2_w 220, 3) := by decide +kernel
theorem dX12_isMark_27 : decode cX12_isMark 27 = .ok (.invokestatic 29, 3) := by decide +kernel
theorem dX12_isMark_30 : decode cX12_isMark 30 = .ok (.ifCond .eq 43, 3) := by decide +kernel
theorem dX12_isMark_33 : decode cX12_isMark 33 = .ok (.aload_n 0, 1) := by decide +kernel
theorem dX12_isMark_34 : decode cX12_isMark 34 = .ok (.iload_n 2, 1) := by decide +kernel
theorem dX12_isMark_35 : decode cX12_isMark 35 = .ok (.invokevirtual 191, 3) := by decide +kernel
theorem dX12_isMark_38 : decode cX12_isMark 38 = .ok (.ifCond .eq 35, 3) := by decide +kernel
theorem dX12_isMark_41 : decode cX12_isMark 41 = .ok (.iload 4, 2) := by decide +kernel
theorem dX12_isMark_43 : decode cX12_isMark 43 = .ok (.iload 5, 2) := by decide +kernel
theorem dX12_isMark_45 : decode cX12_isMark 45 = .ok (.invokestatic 197, 3) := by decide +kernel
theorem dX12_isMark_48 : decode cX12_isMark 48 = .ok (.ifCond .eq 25, 3) := by decide +kernel
theorem dX12_isMark_51 : decode cX12_isMark 51 = .ok (.iload 7, 2) := by decide +kernel
theorem dX12_isMark_53 : decode cX12_isMark 53 = .ok (.ifCond .eq 16, 3) := by decide +kernel
theorem dX12_isMark_56 : decode cX12_isMark 56 = .ok (.aload_n 0, 1) := by decide +kernel
theorem dX12_isMark_57 : decode cX12_isMark 57 = .ok (.iload_n 3, 1) := by decide +kernel
theorem dX12_isMark_58 : decode cX12_isMark 58 = .ok (.invokevirtual 191, 3) := by decide +kernel
theorem dX12_isMark_61 : decode cX12_isMark 61 = .ok (.ifCond .eq 12, 3) := by decide +kernel
theorem dX12_isMark_64 : decode cX12_isMark 64 = .ok (.iload_n 3, 1) := by decide +kernel
theorem dX12_isMark_65 : decode cX12_isMark 65 = .ok (.iload_n 2, 1) := by decide +kernel
theorem dX12_isMark_66 : decode cX12_isMark 66 = .ok (.if_icmp .eq 7, 3) := by decide +kernel
theorem dX12_isMark_69 : decode cX12_isMark 69 = .ok (.iconst 1, 1) := by decide +kernel
theorem dX12_isMark_70 : decode cX12_isMark 70 = .ok (.goto 4, 3) := by decide +kernel
theorem dX12_isMark_73 : decode cX12_isMark 73 = .ok (.iconst 0, 1) := by decide +kernel
theorem dX12_isMark_74 : decode cX12_isMark 74 = .ok (.istore 8, 2) := by decide +kernel
theorem dX12_isMark_76 : decode cX12_isMark 76 = .ok (.iload 8, 2) := by decide +kernel
theorem dX12_isMark_78 : decode cX12_isMark 78 = .ok (.ifCond .eq 43, 3) := by decide +kernel
theorem dX12_isMark_81 : decode cX12_isMark 81 = .ok (.iload_n 1, 1) := by decide +kernel
theorem dX12_isMark_82 : decode cX12_isMark 82 = .ok (.iconst 2, 1) := by decide +kernel
theorem dX12_isMark_83 : decode cX12_isMark 83 = .ok (.if_icmp .ne 16, 3) := by decide +kernel
theorem dX12_isMark_86 : decode cX12_isMark 86 = .ok (.iload 6, 2) := by decide +kernel
theorem dX12_isMark_88 : decode cX12_isMark 88 = .ok (.i2l, 1) := by decide +kernel
theorem dX12_isMark_89 : decode cX12_isMark 89 = .ok (.lconst 0, 1) := by decide +kernel
theorem dX12_isMark_90 : decode cX12_isMark 90 = .ok (.ldc2_w 222, 3) := by decide +kernel
theorem dX12_isMark_93 : decode cX12_isMark 93 = .ok (.invokestatic 29, 3) := by decide +kernel
theorem dX12_isMark_96 : decode cX12_isMark 96 = .ok (.ifCond .eq 25, 3) := by decide +kernel
theorem dX12_isMark_99 : decode cX12_isMark 99 = .ok (.iload_n 1, 1) := by decide +kernel
theorem dX12_isMark_100 : decode cX12_isMark 100 = .ok (.iconst 3, 1) := by decide +kernel
theorem dX12_isMark_101 : decode cX12_isMark 101 = .ok (.if_icmp .ne 16, 3) := by decide +kernel
theorem dX12_isMark_104 : decode cX12_isMark 104 = .ok (.iload 6, 2) := by decide +kernel
theorem dX12_isMark_106 : decode cX12_isMark 106 = .ok (.i2l, 1) := by decide +kernel
theorem dX12_isMark_107 : decode cX12_isMark 107 = .ok (.lconst 0, 1) := by decide +kernel
theorem dX12_isMark_108 : decode cX12_isMark 108 = .ok (.ldc2_w 224, 3) := by decide +kernel
theorem dX12_isMark_111 : decode cX12_isMark 111 = .ok (.invokestatic 29, 3) := by decide +kernel
theorem dX12_isMark_114 : decode cX12_isMark 114 = .ok (.ifCond .eq 7, 3) := by decide +kernel
theorem dX12_isMark_117 : decode cX12_isMark 117 = .ok (.iconst 1, 1) := by decide +kernel
theorem dX12_isMark_118 : decode cX12_isMark 118 = .ok (.goto 4, 3) := by decide +kernel
theorem dX12_isMark_121 : decode cX12_isMark 121 = .ok (.iconst 0, 1) := by decide +kernel
theorem dX12_isMark_122 : decode cX12_isMark 122 = .ok (.ireturn, 1) := by decide +kernel
theorem dX12_lays_0 : decode cX12_lays 0 = .ok (.aload_n 0, 1) := by decide +kernel
theorem dX12_lays_1 : decode cX12_lays 1 = .ok (.getfield 226, 3) := by decide +kernel
theorem dX12_lays_4 : decode cX12_lays 4 = .ok (.iload_n 1, 1) := by decide +kernel
theorem dX12_lays_5 : decode cX12_lays 5 = .ok (.iload_n 2, 1) := by decide +kernel
theorem dX12_lays_6 : decode cX12_lays 6 = .ok (.iastore, 1) := by decide +kernel
theorem dX12_lays_7 : decode cX12_lays 7 = .ok (.aload_n 0, 1) := by decide +kernel
theorem dX12_lays_8 : decode cX12_lays 8 = .ok (.getfield 229, 3) := by decide +kernel
theorem dX12_lays_11 : decode cX12_lays 11 = .ok (.iload_n 1, 1) := by decide +kernel
theorem dX12_lays_12 : decode cX12_lays 12 = .ok (.iload_n 3, 1) := by decide +kernel
theorem dX12_lays_13 : decode cX12_lays 13 = .ok (.iastore, 1) := by decide +kernel
theorem dX12_lays_14 : decode cX12_lays 14 = .ok (.aload_n 0, 1) := by decide +kernel
theorem dX12_lays_15 : decode cX12_lays 15 = .ok (.getfield 232, 3) := by decide +kernel
theorem dX12_lays_18 : decode cX12_lays 18 = .ok (.iload_n 1, 1) := by decide +kernel
theorem dX12_lays_19 : decode cX12_lays 19 = .ok (.iload 4, 2) := by decide +kernel
theorem dX12_lays_21 : decode cX12_lays 21 = .ok (.iastore, 1) := by decide +kernel
theorem dX12_lays_22 : decode cX12_lays 22 = .ok (.aload_n 0, 1) := by decide +kernel
theorem dX12_lays_23 : decode cX12_lays 23 = .ok (.getfield 235, 3) := by decide +kernel
theorem dX12_lays_26 : decode cX12_lays 26 = .ok (.iload_n 1, 1) := by decide +kernel
theorem dX12_lays_27 : decode cX12_lays 27 = .ok (.iload 5, 2) := by decide +kernel
theorem dX12_lays_29 : decode cX12_lays 29 = .ok (.iastore, 1) := by decide +kernel
theorem dX12_lays_30 : decode cX12_lays 30 = .ok (.aload_n 0, 1) := by decide +kernel
theorem dX12_lays_31 : decode cX12_lays 31 = .ok (.getfield 238, 3) := by decide +kernel
theorem dX12_lays_34 : decode cX12_lays 34 = .ok (.iload_n 1, 1) := by decide +kernel
theorem dX12_lays_35 : decode cX12_lays 35 = .ok (.iload 6, 2) := by decide +kernel
theorem dX12_lays_37 : decode cX12_lays 37 = .ok (.iastore, 1) := by decide +kernel
theorem dX12_lays_38 : decode cX12_lays 38 = .ok (.aload_n 0, 1) := by decide +kernel
theorem dX12_lays_39 : decode cX12_lays 39 = .ok (.getfield 241, 3) := by decide +kernel
theorem dX12_lays_42 : decode cX12_lays 42 = .ok (.iload_n 1, 1) := by decide +kernel
theorem dX12_lays_43 : decode cX12_lays 43 = .ok (.iload 7, 2) := by decide +kernel
theorem dX12_lays_45 : decode cX12_lays 45 = .ok (.iastore, 1) := by decide +kernel
theorem dX12_lays_46 : decode cX12_lays 46 = .ok (.aload_n 0, 1) := by decide +kernel
theorem dX12_lays_47 : decode cX12_lays 47 = .ok (.getfield 244, 3) := by decide +kernel
theorem dX12_lays_50 : decode cX12_lays 50 = .ok (.iload_n 1, 1) := by decide +kernel
theorem dX12_lays_51 : decode cX12_lays 51 = .ok (.iconst 0, 1) := by decide +kernel
theorem dX12_lays_52 : decode cX12_lays 52 = .ok (.iastore, 1) := by decide +kernel
theorem dX12_lays_53 : decode cX12_lays 53 = .ok (.aload_n 0, 1) := by decide +kernel
theorem dX12_lays_54 : decode cX12_lays 54 = .ok (.getfield 247, 3) := by decide +kernel
theorem dX12_lays_57 : decode cX12_lays 57 = .ok (.iload_n 1, 1) := by decide +kernel
theorem dX12_lays_58 : decode cX12_lays 58 = .ok (.iconst 5, 1) := by decide +kernel
theorem dX12_lays_59 : decode cX12_lays 59 = .ok (.iastore, 1) := by decide +kernel
theorem dX12_lays_60 : decode cX12_lays 60 = .ok (.aload_n 0, 1) := by decide +kernel
theorem dX12_lays_61 : decode cX12_lays 61 = .ok (.getfield 250, 3) := by decide +kernel
theorem dX12_lays_64 : decode cX12_lays 64 = .ok (.iload_n 1, 1) := by decide +kernel
theorem dX12_lays_65 : decode cX12_lays 65 = .ok (.iconst 1, 1) := by decide +kernel
theorem dX12_lays_66 : decode cX12_lays 66 = .ok (.bastore, 1) := by decide +kernel
theorem dX12_lays_67 : decode cX12_lays 67 = .ok (.return_, 1) := by decide +kernel
theorem dX12_mark_0 : decode cX12_mark 0 = .ok (.aload_n 0, 1) := by decide +kernel
theorem dX12_mark_1 : decode cX12_mark 1 = .ok (.iconst 0, 1) := by decide +kernel
theorem dX12_mark_2 : decode cX12_mark 2 = .ok (.putfield 1, 3) := by decide +kernel
theorem dX12_mark_5 : decode cX12_mark 5 = .ok (.aload_n 0, 1) := by decide +kernel
theorem dX12_mark_6 : decode cX12_mark 6 = .ok (.iload_n 1, 1) := by decide +kernel
theorem dX12_mark_7 : decode cX12_mark 7 = .ok (.iload_n 2, 1) := by decide +kernel
theorem dX12_mark_8 : decode cX12_mark 8 = .ok (.iload_n 3, 1) := by decide +kernel
theorem dX12_mark_9 : decode cX12_mark 9 = .ok (.iload 4, 2) := by decide +kernel
theorem dX12_mark_11 : decode cX12_mark 11 = .ok (.iload 5, 2) := by decide +kernel
theorem dX12_mark_13 : decode cX12_mark 13 = .ok (.iload 6, 2) := by decide +kernel
theorem dX12_mark_15 : decode cX12_mark 15 = .ok (.invokevirtual 254, 3) := by decide +kernel
theorem dX12_mark_18 : decode cX12_mark 18 = .ok (.ifCond .eq 12, 3) := by decide +kernel
theorem dX12_mark_21 : decode cX12_mark 21 = .ok (.aload_n 0, 1) := by decide +kernel
theorem dX12_mark_22 : decode cX12_mark 22 = .ok (.getfield 258, 3) := by decide +kernel
theorem dX12_mark_25 : decode cX12_mark 25 = .ok (.bipush 16, 2) := by decide +kernel
theorem dX12_mark_27 : decode cX12_mark 27 = .ok (.if_icmp .ne 5, 3) := by decide +kernel
theorem dX12_mark_30 : decode cX12_mark 30 = .ok (.iconst (-1), 1) := by decide +kernel
theorem dX12_mark_31 : decode cX12_mark 31 = .ok (.ireturn, 1) := by decide +kernel
theorem dX12_mark_32 : decode cX12_mark 32 = .ok (.aload_n 0, 1) := by decide +kernel
theorem dX12_mark_33 : decode cX12_mark 33 = .ok (.aload_n 0, 1) := by decide +kernel
theorem dX12_mark_34 : decode cX12_mark 34 = .ok (.getfield 258, 3) := by decide +kernel
theorem dX12_mark_37 : decode cX12_mark 37 = .ok (.iload_n 1, 1) := by decide +kernel
theorem dX12_mark_38 : decode cX12_mark 38 = .ok (.iload_n 2, 1) := by decide +kernel
theorem dX12_mark_39 : decode cX12_mark 39 = .ok (.iload_n 3, 1) := by decide +kernel
theorem dX12_mark_40 : decode cX12_mark 40 = .ok (.iload 4, 2) := by decide +kernel
theorem dX12_mark_42 : decode cX12_mark 42 = .ok (.iload 5, 2) := by decide +kernel
theorem dX12_mark_44 : decode cX12_mark 44 = .ok (.iload 6, 2) := by decide +kernel
theorem dX12_mark_46 : decode cX12_mark 46 = .ok (.invokevirtual 261, 3) := by decide +kernel
theorem dX12_mark_49 : decode cX12_mark 49 = .ok (.aload_n 0, 1) := by decide +kernel
theorem dX12_mark_50 : decode cX12_mark 50 = .ok (.dup, 1) := by decide +kernel
theorem dX12_mark_51 : decode cX12_mark 51 = .ok (.getfield 258, 3) := by decide +kernel
theorem dX12_mark_54 : decode cX12_mark 54 = .ok (.iconst 1, 1) := by decide +kernel
theorem dX12_mark_55 : decode cX12_mark 55 = .ok (.iadd, 1) := by decide +kernel
theorem dX12_mark_56 : decode cX12_mark 56 = .ok (.putfield 258, 3) := by decide +kernel
theorem dX12_mark_59 : decode cX12_mark 59 = .ok (.aload_n 0, 1) := by decide +kernel
theorem dX12_mark_60 : decode cX12_mark 60 = .ok (.getfield 258, 3) := by decide +kernel
theorem dX12_mark_63 : decode cX12_mark 63 = .ok (.iconst 1, 1) := by decide +kernel
theorem dX12_mark_64 : decode cX12_mark 64 = .ok (.isub, 1) := by decide +kernel
theorem dX12_mark_65 : decode cX12_mark 65 = .ok (.ireturn, 1) := by decide +kernel
theorem dX12_isSign_0 : decode cX12_isSign 0 = .ok (.iload_n 1, 1) := by decide +kernel
theorem dX12_isSign_1 : decode cX12_isSign 1 = .ok (.i2l, 1) := by decide +kernel
theorem dX12_isSign_2 : decode cX12_isSign 2 = .ok (.lconst 0, 1) := by decide +kernel
theorem dX12_isSign_3 : decode cX12_isSign 3 = .ok (.aload_n 0, 1) := by decide +kernel
theorem dX12_isSign_4 : decode cX12_isSign 4 = .ok (.getfield 258, 3) := by decide +kernel
theorem dX12_isSign_7 : decode cX12_isSign 7 = .ok (.iconst 1, 1) := by decide +kernel
theorem dX12_isSign_8 : decode cX12_isSign 8 = .ok (.isub, 1) := by decide +kernel
theorem dX12_isSign_9 : decode cX12_isSign 9 = .ok (.i2l, 1) := by decide +kernel
theorem dX12_isSign_10 : decode cX12_isSign 10 = .ok (.invokestatic 29, 3) := by decide +kernel
theorem dX12_isSign_13 : decode cX12_isSign 13 = .ok (.ireturn, 1) := by decide +kernel
theorem dX12_by_0 : decode cX12_by 0 = .ok (.aload_n 0, 1) := by decide +kernel
theorem dX12_by_1 : decode cX12_by 1 = .ok (.iconst 0, 1) := by decide +kernel
theorem dX12_by_2 : decode cX12_by 2 = .ok (.putfield 1, 3) := by decide +kernel
theorem dX12_by_5 : decode cX12_by 5 = .ok (.aload_n 0, 1) := by decide +kernel
theorem dX12_by_6 : decode cX12_by 6 = .ok (.iload_n 1, 1) := by decide +kernel
theorem dX12_by_7 : decode cX12_by 7 = .ok (.invokevirtual 265, 3) := by decide +kernel
theorem dX12_by_10 : decode cX12_by 10 = .ok (.ifCond .eq 27, 3) := by decide +kernel
theorem dX12_by_13 : decode cX12_by 13 = .ok (.iload_n 2, 1) := by decide +kernel
theorem dX12_by_14 : decode cX12_by 14 = .ok (.i2l, 1) := by decide +kernel
theorem dX12_by_15 : decode cX12_by 15 = .ok (.lconst 0, 1) := by decide +kernel
theorem dX12_by_16 : decode cX12_by 16 = .ok (.ldc2_w 62, 3) := by decide +kernel
theorem dX12_by_19 : decode cX12_by 19 = .ok (.invokestatic 29, 3) := by decide +kernel
theorem dX12_by_22 : decode cX12_by 22 = .ok (.ifCond .eq 15, 3) := by decide +kernel
theorem dX12_by_25 : decode cX12_by 25 = .ok (.iload_n 3, 1) := by decide +kernel
theorem dX12_by_26 : decode cX12_by 26 = .ok (.i2l, 1) := by decide +kernel
theorem dX12_by_27 : decode cX12_by 27 = .ok (.lconst 1, 1) := by decide +kernel
theorem dX12_by_28 : decode cX12_by 28 = .ok (.ldc2_w 268, 3) := by decide +kernel
theorem dX12_by_31 : decode cX12_by 31 = .ok (.invokestatic 29, 3) := by decide +kernel
theorem dX12_by_34 : decode cX12_by 34 = .ok (.ifCond .ne 5, 3) := by decide +kernel
theorem dX12_by_37 : decode cX12_by 37 = .ok (.iconst 0, 1) := by decide +kernel
theorem dX12_by_38 : decode cX12_by 38 = .ok (.ireturn, 1) := by decide +kernel
theorem dX12_by_39 : decode cX12_by 39 = .ok (.aload_n 0, 1) := by decide +kernel
theorem dX12_by_40 : decode cX12_by 40 = .ok (.getfield 244, 3) := by decide +kernel
theorem dX12_by_43 : decode cX12_by 43 = .ok (.iload_n 1, 1) := by decide +kernel
theorem dX12_by_44 : decode cX12_by 44 = .ok (.iload_n 2, 1) := by decide +kernel
theorem dX12_by_45 : decode cX12_by 45 = .ok (.iastore, 1) := by decide +kernel
theorem dX12_by_46 : decode cX12_by 46 = .ok (.aload_n 0, 1) := by decide +kernel
theorem dX12_by_47 : decode cX12_by 47 = .ok (.getfield 247, 3) := by decide +kernel
theorem dX12_by_50 : decode cX12_by 50 = .ok (.iload_n 1, 1) := by decide +kernel
theorem dX12_by_51 : decode cX12_by 51 = .ok (.iload_n 3, 1) := by decide +kernel
theorem dX12_by_52 : decode cX12_by 52 = .ok (.iastore, 1) := by decide +kernel
theorem dX12_by_53 : decode cX12_by 53 = .ok (.iconst 1, 1) := by decide +kernel
theorem dX12_by_54 : decode cX12_by 54 = .ok (.ireturn, 1) := by decide +kernel
theorem dX12_turn_0 : decode cX12_turn 0 = .ok (.aload_n 0, 1) := by decide +kernel
theorem dX12_turn_1 : decode cX12_turn 1 = .ok (.iconst 0, 1) := by decide +kernel
theorem dX12_turn_2 : decode cX12_turn 2 = .ok (.putfield 1, 3) := by decide +kernel
theorem dX12_turn_5 : decode cX12_turn 5 = .ok (.aload_n 0, 1) := by decide +kernel
theorem dX12_turn_6 : decode cX12_turn 6 = .ok (.iload_n 1, 1) := by decide +kernel
theorem dX12_turn_7 : decode cX12_turn 7 = .ok (.invokevirtual 265, 3) := by decide +kernel
theorem dX12_turn_10 : decode cX12_turn 10 = .ok (.ifCond .ne 5, 3) := by decide +kernel
theorem dX12_turn_13 : decode cX12_turn 13 = .ok (.iconst 0, 1) := by decide +kernel
theorem dX12_turn_14 : decode cX12_turn 14 = .ok (.ireturn, 1) := by decide +kernel
theorem dX12_turn_15 : decode cX12_turn 15 = .ok (.aload_n 0, 1) := by decide +kernel
theorem dX12_turn_16 : decode cX12_turn 16 = .ok (.getfield 250, 3) := by decide +kernel
theorem dX12_turn_19 : decode cX12_turn 19 = .ok (.iload_n 1, 1) := by decide +kernel
theorem dX12_turn_20 : decode cX12_turn 20 = .ok (.iload_n 2, 1) := by decide +kernel
theorem dX12_turn_21 : decode cX12_turn 21 = .ok (.bastore, 1) := by decide +kernel
theorem dX12_turn_22 : decode cX12_turn 22 = .ok (.iconst 1, 1) := by decide +kernel
theorem dX12_turn_23 : decode cX12_turn 23 = .ok (.ireturn, 1) := by decide +kernel
theorem dX12_isHeld_0 : decode cX12_isHeld 0 = .ok (.aload_n 0, 1) := by decide +kernel
theorem dX12_isHeld_1 : decode cX12_isHeld 1 = .ok (.iconst 0, 1) := by decide +kernel
theorem dX12_isHeld_2 : decode cX12_isHeld 2 = .ok (.aload_n 0, 1) := by decide +kernel
theorem dX12_isHeld_3 : decode cX12_isHeld 3 = .ok (.getfield 229, 3) := by decide +kernel
theorem dX12_isHeld_6 : decode cX12_isHeld 6 = .ok (.iload_n 1, 1) := by decide +kernel
theorem dX12_isHeld_7 : decode cX12_isHeld 7 = .ok (.iaload, 1) := by decide +kernel
theorem dX12_isHeld_8 : decode cX12_isHeld 8 = .ok (.iload_n 2, 1) := by decide +kernel
theorem dX12_isHeld_9 : decode cX12_isHeld 9 = .ok (.aload_n 0, 1) := by decide +kernel
theorem dX12_isHeld_10 : decode cX12_isHeld 10 = .ok (.getfield 235, 3) := by decide +kernel
theorem dX12_isHeld_13 : decode cX12_isHeld 13 = .ok (.iload_n 1, 1) := by decide +kernel
theorem dX12_isHeld_14 : decode cX12_isHeld 14 = .ok (.iaload, 1) := by decide +kernel
theorem dX12_isHeld_15 : decode cX12_isHeld 15 = .ok (.aload_n 0, 1) := by decide +kernel
theorem dX12_isHeld_16 : decode cX12_isHeld 16 = .ok (.getfield 238, 3) := by decide +kernel
theorem dX12_isHeld_19 : decode cX12_isHeld 19 = .ok (.iload_n 1, 1) := by decide +kernel
theorem dX12_isHeld_20 : decode cX12_isHeld 20 = .ok (.iaload, 1) := by decide +kernel
theorem dX12_isHeld_21 : decode cX12_isHeld 21 = .ok (.invokevirtual 200, 3) := by decide +kernel
theorem dX12_isHeld_24 : decode cX12_isHeld 24 = .ok (.aload_n 0, 1) := by decide +kernel
theorem dX12_isHeld_25 : decode cX12_isHeld 25 = .ok (.getfield 226, 3) := by decide +kernel
theorem dX12_isHeld_28 : decode cX12_isHeld 28 = .ok (.iload_n 1, 1) := by decide +kernel
theorem dX12_isHeld_29 : decode cX12_isHeld 29 = .ok (.iaload, 1) := by decide +kernel
theorem dX12_isHeld_30 : decode cX12_isHeld 30 = .ok (.iconst 2, 1) := by decide +kernel
theorem dX12_isHeld_31 : decode cX12_isHeld 31 = .ok (.if_icmp .ne 63, 3) := by decide +kernel
theorem dX12_isHeld_34 : decode cX12_isHeld 34 = .ok (.iconst 0, 1) := by decide +kernel
theorem dX12_isHeld_35 : decode cX12_isHeld 35 = .ok (.istore_n 3, 1) := by decide +kernel
theorem dX12_isHeld_36 : decode cX12_isHeld 36 = .ok (.iconst 0, 1) := by decide +kernel
theorem dX12_isHeld_37 : decode cX12_isHeld 37 = .ok (.istore 4, 2) := by decide +kernel
theorem dX12_isHeld_39 : decode cX12_isHeld 39 = .ok (.iload 4, 2) := by decide +kernel
theorem dX12_isHeld_41 : decode cX12_isHeld 41 = .ok (.aload_n 0, 1) := by decide +kernel
theorem dX12_isHeld_42 : decode cX12_isHeld 42 = .ok (.getfield 155, 3) := by decide +kernel
theorem dX12_isHeld_45 : decode cX12_isHeld 45 = .ok (.iconst 0, 1) := by decide +kernel
theorem dX12_isHeld_46 : decode cX12_isHeld 46 = .ok (.iaload, 1) := by decide +kernel
theorem dX12_isHeld_47 : decode cX12_isHeld 47 = .ok (.if_icmp .ge 31, 3) := by decide +kernel
theorem dX12_isHeld_50 : decode cX12_isHeld 50 = .ok (.iload_n 3, 1) := by decide +kernel
theorem dX12_isHeld_51 : decode cX12_isHeld 51 = .ok (.aload_n 0, 1) := by decide +kernel
theorem dX12_isHeld_52 : decode cX12_isHeld 52 = .ok (.getfield 66, 3) := by decide +kernel
theorem dX12_isHeld_55 : decode cX12_isHeld 55 = .ok (.iconst 0, 1) := by decide +kernel
theorem dX12_isHeld_56 : decode cX12_isHeld 56 = .ok (.iaload, 1) := by decide +kernel
theorem dX12_isHeld_57 : decode cX12_isHeld 57 = .ok (.aload_n 0, 1) := by decide +kernel
theorem dX12_isHeld_58 : decode cX12_isHeld 58 = .ok (.getfield 158, 3) := by decide +kernel
theorem dX12_isHeld_61 : decode cX12_isHeld 61 = .ok (.iload 4, 2) := by decide +kernel
theorem dX12_isHeld_63 : decode cX12_isHeld 63 = .ok (.iaload, 1) := by decide +kernel
theorem dX12_isHeld_64 : decode cX12_isHeld 64 = .ok (.invokestatic 136, 3) := by decide +kernel
theorem dX12_isHeld_67 : decode cX12_isHeld 67 = .ok (.invokestatic 39, 3) := by decide +kernel
theorem dX12_isHeld_70 : decode cX12_isHeld 70 = .ok (.iadd, 1) := by decide +kernel
theorem dX12_isHeld_71 : decode cX12_isHeld 71 = .ok (.istore_n 3, 1) := by decide +kernel
theorem dX12_isHeld_72 : decode cX12_isHeld 72 = .ok (.iinc 4 1, 3) := by decide +kernel
theorem dX12_isHeld_75 : decode cX12_isHeld 75 = .ok (.goto (-36), 3) := by decide +kernel
theorem dX12_isHeld_78 : decode cX12_isHeld 78 = .ok (.iload_n 3, 1) := by decide +kernel
theorem dX12_isHeld_79 : decode cX12_isHeld 79 = .ok (.aload_n 0, 1) := by decide +kernel
theorem dX12_isHeld_80 : decode cX12_isHeld 80 = .ok (.getfield 241, 3) := by decide +kernel
theorem dX12_isHeld_83 : decode cX12_isHeld 83 = .ok (.iload_n 1, 1) := by decide +kernel
theorem dX12_isHeld_84 : decode cX12_isHeld 84 = .ok (.iaload, 1) := by decide +kernel
theorem dX12_isHeld_85 : decode cX12_isHeld 85 = .ok (.if_icmp .ne 7, 3) := by decide +kernel
theorem dX12_isHeld_88 : decode cX12_isHeld 88 = .ok (.iconst 1, 1) := by decide +kernel
theorem dX12_isHeld_89 : decode cX12_isHeld 89 = .ok (.goto 4, 3) := by decide +kernel
theorem dX12_isHeld_92 : decode cX12_isHeld 92 = .ok (.iconst 0, 1) := by decide +kernel
theorem dX12_isHeld_93 : decode cX12_isHeld 93 = .ok (.ireturn, 1) := by decide +kernel
theorem dX12_isHeld_94 : decode cX12_isHeld 94 = .ok (.aload_n 0, 1) := by decide +kernel
theorem dX12_isHeld_95 : decode cX12_isHeld 95 = .ok (.getfield 226, 3) := by decide +kernel
theorem dX12_isHeld_98 : decode cX12_isHeld 98 = .ok (.iload_n 1, 1) := by decide +kernel
theorem dX12_isHeld_99 : decode cX12_isHeld 99 = .ok (.iaload, 1) := by decide +kernel
theorem dX12_isHeld_100 : decode cX12_isHeld 100 = .ok (.iconst 3, 1) := by decide +kernel
theorem dX12_isHeld_101 : decode cX12_isHeld 101 = .ok (.if_icmp .ne 47, 3) := by decide +kernel
theorem dX12_isHeld_104 : decode cX12_isHeld 104 = .ok (.aload_n 0, 1) := by decide +kernel
theorem dX12_isHeld_105 : decode cX12_isHeld 105 = .ok (.getfield 241, 3) := by decide +kernel
theorem dX12_isHeld_108 : decode cX12_isHeld 108 = .ok (.iload_n 1, 1) := by decide +kernel
theorem dX12_isHeld_109 : decode cX12_isHeld 109 = .ok (.iaload, 1) := by decide +kernel
theorem dX12_isHeld_110 : decode cX12_isHeld 110 = .ok (.bipush 16, 2) := by decide +kernel
theorem dX12_isHeld_112 : decode cX12_isHeld 112 = .ok (.idiv, 1) := by decide +kernel
theorem dX12_isHeld_113 : decode cX12_isHeld 113 = .ok (.istore_n 3, 1) := by decide +kernel
theorem dX12_isHeld_114 : decode cX12_isHeld 114 = .ok (.iload_n 3, 1) := by decide +kernel
theorem dX12_isHeld_115 : decode cX12_isHeld 115 = .ok (.aload_n 0, 1) := by decide +kernel
theorem dX12_isHeld_116 : decode cX12_isHeld 116 = .ok (.getfield 155, 3) := by decide +kernel
theorem dX12_isHeld_119 : decode cX12_isHeld 119 = .ok (.iconst 0, 1) := by decide +kernel
theorem dX12_isHeld_120 : decode cX12_isHeld 120 = .ok (.iaload, 1) := by decide +kernel
theorem dX12_isHeld_121 : decode cX12_isHeld 121 = .ok (.if_icmp .ge 25, 3) := by decide +kernel
theorem dX12_isHeld_124 : decode cX12_isHeld 124 = .ok (.aload_n 0, 1) := by decide +kernel
theorem dX12_isHeld_125 : decode cX12_isHeld 125 = .ok (.getfield 158, 3) := by decide +kernel
theorem dX12_isHeld_128 : decode cX12_isHeld 128 = .ok (.iload_n 3, 1) := by decide +kernel
theorem dX12_isHeld_129 : decode cX12_isHeld 129 = .ok (.iaload, 1) := by decide +kernel
theorem dX12_isHeld_130 : decode cX12_isHeld 130 = .ok (.aload_n 0, 1) := by decide +kernel
theorem dX12_isHeld_131 : decode cX12_isHeld 131 = .ok (.getfield 241, 3) := by decide +kernel
theorem dX12_isHeld_134 : decode cX12_isHeld 134 = .ok (.iload_n 1, 1) := by decide +kernel
theorem dX12_isHeld_135 : decode cX12_isHeld 135 = .ok (.iaload, 1) := by decide +kernel
theorem dX12_isHeld_136 : decode cX12_isHeld 136 = .ok (.bipush 16, 2) := by decide +kernel
theorem dX12_isHeld_138 : decode cX12_isHeld 138 = .ok (.irem, 1) := by decide +kernel
theorem dX12_isHeld_139 : decode cX12_isHeld 139 = .ok (.if_icmp .ne 7, 3) := by decide +kernel
theorem dX12_isHeld_142 : decode cX12_isHeld 142 = .ok (.iconst 1, 1) := by decide +kernel
theorem dX12_isHeld_143 : decode cX12_isHeld 143 = .ok (.goto 4, 3) := by decide +kernel
theorem dX12_isHeld_146 : decode cX12_isHeld 146 = .ok (.iconst 0, 1) := by decide +kernel
theorem dX12_isHeld_147 : decode cX12_isHeld 147 = .ok (.ireturn, 1) := by decide +kernel
theorem dX12_isHeld_148 : decode cX12_isHeld 148 = .ok (.aload_n 0, 1) := by decide +kernel
theorem dX12_isHeld_149 : decode cX12_isHeld 149 = .ok (.iconst 1, 1) := by decide +kernel
theorem dX12_isHeld_150 : decode cX12_isHeld 150 = .ok (.aload_n 0, 1) := by decide +kernel
theorem dX12_isHeld_151 : decode cX12_isHeld 151 = .ok (.getfield 232, 3) := by decide +kernel
theorem dX12_isHeld_154 : decode cX12_isHeld 154 = .ok (.iload_n 1, 1) := by decide +kernel
theorem dX12_isHeld_155 : decode cX12_isHeld 155 = .ok (.iaload, 1) := by decide +kernel
theorem dX12_isHeld_156 : decode cX12_isHeld 156 = .ok (.iload_n 2, 1) := by decide +kernel
theorem dX12_isHeld_157 : decode cX12_isHeld 157 = .ok (.aload_n 0, 1) := by decide +kernel
theorem dX12_isHeld_158 : decode cX12_isHeld 158 = .ok (.getfield 235, 3) := by decide +kernel
theorem dX12_isHeld_161 : decode cX12_isHeld 161 = .ok (.iload_n 1, 1) := by decide +kernel
theorem dX12_isHeld_162 : decode cX12_isHeld 162 = .ok (.iaload, 1) := by decide +kernel
theorem dX12_isHeld_163 : decode cX12_isHeld 163 = .ok (.aload_n 0, 1) := by decide +kernel
theorem dX12_isHeld_164 : decode cX12_isHeld 164 = .ok (.getfield 238, 3) := by decide +kernel
theorem dX12_isHeld_167 : decode cX12_isHeld 167 = .ok (.iload_n 1, 1) := by decide +kernel
theorem dX12_isHeld_168 : decode cX12_isHeld 168 = .ok (.iaload, 1) := by decide +kernel
theorem dX12_isHeld_169 : decode cX12_isHeld 169 = .ok (.invokevirtual 200, 3) := by decide +kernel
theorem dX12_isHeld_172 : decode cX12_isHeld 172 = .ok (.aload_n 0, 1) := by decide +kernel
theorem dX12_isHeld_173 : decode cX12_isHeld 173 = .ok (.getfield 226, 3) := by decide +kernel
theorem dX12_isHeld_176 : decode cX12_isHeld 176 = .ok (.iload_n 1, 1) := by decide +kernel
theorem dX12_isHeld_177 : decode cX12_isHeld 177 = .ok (.iaload, 1) := by decide +kernel
theorem dX12_isHeld_178 : decode cX12_isHeld 178 = .ok (.iconst 1, 1) := by decide +kernel
theorem dX12_isHeld_179 : decode cX12_isHeld 179 = .ok (.if_icmp .ne 10, 3) := by decide +kernel
theorem dX12_isHeld_182 : decode cX12_isHeld 182 = .ok (.aload_n 0, 1) := by decide +kernel
theorem dX12_isHeld_183 : decode cX12_isHeld 183 = .ok (.invokevirtual 204, 3) := by decide +kernel
theorem dX12_isHeld_186 : decode cX12_isHeld 186 = .ok (.goto 36, 3) := by decide +kernel
theorem dX12_isHeld_189 : decode cX12_isHeld 189 = .ok (.aload_n 0, 1) := by decide +kernel
theorem dX12_isHeld_190 : decode cX12_isHeld 190 = .ok (.invokevirtual 182, 3) := by decide +kernel
theorem dX12_isHeld_193 : decode cX12_isHeld 193 = .ok (.ifCond .eq 28, 3) := by decide +kernel
theorem dX12_isHeld_196 : decode cX12_isHeld 196 = .ok (.aload_n 0, 1) := by decide +kernel
theorem dX12_isHeld_197 : decode cX12_isHeld 197 = .ok (.invokevirtual 186, 3) := by decide +kernel
theorem dX12_isHeld_200 : decode cX12_isHeld 200 = .ok (.aload_n 0, 1) := by decide +kernel
theorem dX12_isHeld_201 : decode cX12_isHeld 201 = .ok (.getfield 226, 3) := by decide +kernel
theorem dX12_isHeld_204 : decode cX12_isHeld 204 = .ok (.iload_n 1, 1) := by decide +kernel
theorem dX12_isHeld_205 : decode cX12_isHeld 205 = .ok (.iaload, 1) := by decide +kernel
theorem dX12_isHeld_206 : decode cX12_isHeld 206 = .ok (.ifCond .ne 7, 3) := by decide +kernel
theorem dX12_isHeld_209 : decode cX12_isHeld 209 = .ok (.iconst 1, 1) := by decide +kernel
theorem dX12_isHeld_210 : decode cX12_isHeld 210 = .ok (.goto 4, 3) := by decide +kernel
theorem dX12_isHeld_213 : decode cX12_isHeld 213 = .ok (.iconst 0, 1) := by decide +kernel
theorem dX12_isHeld_214 : decode cX12_isHeld 214 = .ok (.if_icmp .ne 7, 3) := by decide +kernel
theorem dX12_isHeld_217 : decode cX12_isHeld 217 = .ok (.iconst 1, 1) := by decide +kernel
theorem dX12_isHeld_218 : decode cX12_isHeld 218 = .ok (.goto 4, 3) := by decide +kernel
theorem dX12_isHeld_221 : decode cX12_isHeld 221 = .ok (.iconst 0, 1) := by decide +kernel
theorem dX12_isHeld_222 : decode cX12_isHeld 222 = .ok (.ireturn, 1) := by decide +kernel
theorem dX12_holds_0 : decode cX12_holds 0 = .ok (.aload_n 0, 1) := by decide +kernel
theorem dX12_holds_1 : decode cX12_holds 1 = .ok (.iconst 0, 1) := by decide +kernel
theorem dX12_holds_2 : decode cX12_holds 2 = .ok (.putfield 1, 3) := by decide +kernel
theorem dX12_holds_5 : decode cX12_holds 5 = .ok (.aload_n 0, 1) := by decide +kernel
theorem dX12_holds_6 : decode cX12_holds 6 = .ok (.iload_n 1, 1) := by decide +kernel
theorem dX12_holds_7 : decode cX12_holds 7 = .ok (.invokevirtual 265, 3) := by decide +kernel
theorem dX12_holds_10 : decode cX12_holds 10 = .ok (.ifCond .eq 23, 3) := by decide +kernel
theorem dX12_holds_13 : decode cX12_holds 13 = .ok (.aload_n 0, 1) := by decide +kernel
theorem dX12_holds_14 : decode cX12_holds 14 = .ok (.iload_n 2, 1) := by decide +kernel
theorem dX12_holds_15 : decode cX12_holds 15 = .ok (.invokevirtual 194, 3) := by decide +kernel
theorem dX12_holds_18 : decode cX12_holds 18 = .ok (.ifCond .eq 15, 3) := by decide +kernel
theorem dX12_holds_21 : decode cX12_holds 21 = .ok (.aload_n 0, 1) := by decide +kernel
theorem dX12_holds_22 : decode cX12_holds 22 = .ok (.iload_n 1, 1) := by decide +kernel
theorem dX12_holds_23 : decode cX12_holds 23 = .ok (.iload_n 2, 1) := by decide +kernel
theorem dX12_holds_24 : decode cX12_holds 24 = .ok (.invokevirtual 270, 3) := by decide +kernel
theorem dX12_holds_27 : decode cX12_holds 27 = .ok (.invokestatic 39, 3) := by decide +kernel
theorem dX12_holds_30 : decode cX12_holds 30 = .ok (.goto 4, 3) := by decide +kernel
theorem dX12_holds_33 : decode cX12_holds 33 = .ok (.iconst (-1), 1) := by decide +kernel
