theorem dX12_holds_34 : decode cX12_holds 34 = .ok (.ireturn, 1) := by decide +kernel
theorem dX12_isFit_0 : decode cX12_isFit 0 = .ok (.iconst 0, 1) := by decide +kernel
theorem dX12_isFit_1 : decode cX12_isFit 1 = .ok (.istore_n 2, 1) := by decide +kernel
theorem dX12_isFit_2 : decode cX12_isFit 2 = .ok (.iload_n 2, 1) := by decide +kernel
theorem dX12_isFit_3 : decode cX12_isFit 3 = .ok (.aload_n 0, 1) := by decide +kernel
theorem dX12_isFit_4 : decode cX12_isFit 4 = .ok (.getfield 258, 3) := by decide +kernel
theorem dX12_isFit_7 : decode cX12_isFit 7 = .ok (.if_icmp .ge 29, 3) := by decide +kernel
theorem dX12_isFit_10 : decode cX12_isFit 10 = .ok (.aload_n 0, 1) := by decide +kernel
theorem dX12_isFit_11 : decode cX12_isFit 11 = .ok (.getfield 250, 3) := by decide +kernel
theorem dX12_isFit_14 : decode cX12_isFit 14 = .ok (.iload_n 2, 1) := by decide +kernel
theorem dX12_isFit_15 : decode cX12_isFit 15 = .ok (.baload, 1) := by decide +kernel
theorem dX12_isFit_16 : decode cX12_isFit 16 = .ok (.ifCond .eq 14, 3) := by decide +kernel
theorem dX12_isFit_19 : decode cX12_isFit 19 = .ok (.aload_n 0, 1) := by decide +kernel
theorem dX12_isFit_20 : decode cX12_isFit 20 = .ok (.iload_n 2, 1) := by decide +kernel
theorem dX12_isFit_21 : decode cX12_isFit 21 = .ok (.iload_n 1, 1) := by decide +kernel
theorem dX12_isFit_22 : decode cX12_isFit 22 = .ok (.invokevirtual 270, 3) := by decide +kernel
theorem dX12_isFit_25 : decode cX12_isFit 25 = .ok (.ifCond .ne 5, 3) := by decide +kernel
theorem dX12_isFit_28 : decode cX12_isFit 28 = .ok (.iconst 0, 1) := by decide +kernel
theorem dX12_isFit_29 : decode cX12_isFit 29 = .ok (.ireturn, 1) := by decide +kernel
theorem dX12_isFit_30 : decode cX12_isFit 30 = .ok (.iinc 2 1, 3) := by decide +kernel
theorem dX12_isFit_33 : decode cX12_isFit 33 = .ok (.goto (-31), 3) := by decide +kernel
theorem dX12_isFit_36 : decode cX12_isFit 36 = .ok (.iconst 1, 1) := by decide +kernel
theorem dX12_isFit_37 : decode cX12_isFit 37 = .ok (.ireturn, 1) := by decide +kernel
theorem dX12_wrongs_0 : decode cX12_wrongs 0 = .ok (.iconst 0, 1) := by decide +kernel
theorem dX12_wrongs_1 : decode cX12_wrongs 1 = .ok (.istore_n 2, 1) := by decide +kernel
theorem dX12_wrongs_2 : decode cX12_wrongs 2 = .ok (.iconst 0, 1) := by decide +kernel
theorem dX12_wrongs_3 : decode cX12_wrongs 3 = .ok (.istore_n 3, 1) := by decide +kernel
theorem dX12_wrongs_4 : decode cX12_wrongs 4 = .ok (.iload_n 3, 1) := by decide +kernel
theorem dX12_wrongs_5 : decode cX12_wrongs 5 = .ok (.aload_n 0, 1) := by decide +kernel
theorem dX12_wrongs_6 : decode cX12_wrongs 6 = .ok (.getfield 258, 3) := by decide +kernel
theorem dX12_wrongs_9 : decode cX12_wrongs 9 = .ok (.if_icmp .ge 37, 3) := by decide +kernel
theorem dX12_wrongs_12 : decode cX12_wrongs 12 = .ok (.iload_n 2, 1) := by decide +kernel
theorem dX12_wrongs_13 : decode cX12_wrongs 13 = .ok (.aload_n 0, 1) := by decide +kernel
theorem dX12_wrongs_14 : decode cX12_wrongs 14 = .ok (.getfield 250, 3) := by decide +kernel
theorem dX12_wrongs_17 : decode cX12_wrongs 17 = .ok (.iload_n 3, 1) := by decide +kernel
theorem dX12_wrongs_18 : decode cX12_wrongs 18 = .ok (.baload, 1) := by decide +kernel
theorem dX12_wrongs_19 : decode cX12_wrongs 19 = .ok (.ifCond .eq 18, 3) := by decide +kernel
theorem dX12_wrongs_22 : decode cX12_wrongs 22 = .ok (.aload_n 0, 1) := by decide +kernel
theorem dX12_wrongs_23 : decode cX12_wrongs 23 = .ok (.iload_n 3, 1) := by decide +kernel
theorem dX12_wrongs_24 : decode cX12_wrongs 24 = .ok (.iload_n 1, 1) := by decide +kernel
theorem dX12_wrongs_25 : decode cX12_wrongs 25 = .ok (.invokevirtual 270, 3) := by decide +kernel
theorem dX12_wrongs_28 : decode cX12_wrongs 28 = .ok (.ifCond .ne 9, 3) := by decide +kernel
theorem dX12_wrongs_31 : decode cX12_wrongs 31 = .ok (.iconst 1, 1) := by decide +kernel
theorem dX12_wrongs_32 : decode cX12_wrongs 32 = .ok (.iload_n 3, 1) := by decide +kernel
theorem dX12_wrongs_33 : decode cX12_wrongs 33 = .ok (.ishl, 1) := by decide +kernel
theorem dX12_wrongs_34 : decode cX12_wrongs 34 = .ok (.goto 4, 3) := by decide +kernel
theorem dX12_wrongs_37 : decode cX12_wrongs 37 = .ok (.iconst 0, 1) := by decide +kernel
theorem dX12_wrongs_38 : decode cX12_wrongs 38 = .ok (.ior, 1) := by decide +kernel
theorem dX12_wrongs_39 : decode cX12_wrongs 39 = .ok (.istore_n 2, 1) := by decide +kernel
theorem dX12_wrongs_40 : decode cX12_wrongs 40 = .ok (.iinc 3 1, 3) := by decide +kernel
theorem dX12_wrongs_43 : decode cX12_wrongs 43 = .ok (.goto (-39), 3) := by decide +kernel
theorem dX12_wrongs_46 : decode cX12_wrongs 46 = .ok (.iload_n 2, 1) := by decide +kernel
theorem dX12_wrongs_47 : decode cX12_wrongs 47 = .ok (.ireturn, 1) := by decide +kernel
theorem dX12_gathers_0 : decode cX12_gathers 0 = .ok (.aload_n 0, 1) := by decide +kernel
theorem dX12_gathers_1 : decode cX12_gathers 1 = .ok (.iconst 0, 1) := by decide +kernel
theorem dX12_gathers_2 : decode cX12_gathers 2 = .ok (.putfield 273, 3) := by decide +kernel
theorem dX12_gathers_5 : decode cX12_gathers 5 = .ok (.aload_n 0, 1) := by decide +kernel
theorem dX12_gathers_6 : decode cX12_gathers 6 = .ok (.invokevirtual 107, 3) := by decide +kernel
theorem dX12_gathers_9 : decode cX12_gathers 9 = .ok (.istore_n 1, 1) := by decide +kernel
theorem dX12_gathers_10 : decode cX12_gathers 10 = .ok (.iconst 0, 1) := by decide +kernel
theorem dX12_gathers_11 : decode cX12_gathers 11 = .ok (.istore_n 2, 1) := by decide +kernel
theorem dX12_gathers_12 : decode cX12_gathers 12 = .ok (.iload_n 2, 1) := by decide +kernel
theorem dX12_gathers_13 : decode cX12_gathers 13 = .ok (.iload_n 1, 1) := by decide +kernel
theorem dX12_gathers_14 : decode cX12_gathers 14 = .ok (.if_icmp .ge 37, 3) := by decide +kernel
theorem dX12_gathers_17 : decode cX12_gathers 17 = .ok (.aload_n 0, 1) := by decide +kernel
theorem dX12_gathers_18 : decode cX12_gathers 18 = .ok (.iload_n 2, 1) := by decide +kernel
theorem dX12_gathers_19 : decode cX12_gathers 19 = .ok (.invokevirtual 276, 3) := by decide +kernel
theorem dX12_gathers_22 : decode cX12_gathers 22 = .ok (.ifCond .eq 23, 3) := by decide +kernel
theorem dX12_gathers_25 : decode cX12_gathers 25 = .ok (.aload_n 0, 1) := by decide +kernel
theorem dX12_gathers_26 : decode cX12_gathers 26 = .ok (.getfield 279, 3) := by decide +kernel
theorem dX12_gathers_29 : decode cX12_gathers 29 = .ok (.aload_n 0, 1) := by decide +kernel
theorem dX12_gathers_30 : decode cX12_gathers 30 = .ok (.getfield 273, 3) := by decide +kernel
theorem dX12_gathers_33 : decode cX12_gathers 33 = .ok (.iload_n 2, 1) := by decide +kernel
theorem dX12_gathers_34 : decode cX12_gathers 34 = .ok (.iastore, 1) := by decide +kernel
theorem dX12_gathers_35 : decode cX12_gathers 35 = .ok (.aload_n 0, 1) := by decide +kernel
theorem dX12_gathers_36 : decode cX12_gathers 36 = .ok (.dup, 1) := by decide +kernel
theorem dX12_gathers_37 : decode cX12_gathers 37 = .ok (.getfield 273, 3) := by decide +kernel
theorem dX12_gathers_40 : decode cX12_gathers 40 = .ok (.iconst 1, 1) := by decide +kernel
theorem dX12_gathers_41 : decode cX12_gathers 41 = .ok (.iadd, 1) := by decide +kernel
theorem dX12_gathers_42 : decode cX12_gathers 42 = .ok (.putfield 273, 3) := by decide +kernel
theorem dX12_gathers_45 : decode cX12_gathers 45 = .ok (.iinc 2 1, 3) := by decide +kernel
theorem dX12_gathers_48 : decode cX12_gathers 48 = .ok (.goto (-36), 3) := by decide +kernel
theorem dX12_gathers_51 : decode cX12_gathers 51 = .ok (.return_, 1) := by decide +kernel
theorem dX12_fits_0 : decode cX12_fits 0 = .ok (.aload_n 0, 1) := by decide +kernel
theorem dX12_fits_1 : decode cX12_fits 1 = .ok (.iconst 0, 1) := by decide +kernel
theorem dX12_fits_2 : decode cX12_fits 2 = .ok (.putfield 1, 3) := by decide +kernel
theorem dX12_fits_5 : decode cX12_fits 5 = .ok (.aload_n 0, 1) := by decide +kernel
theorem dX12_fits_6 : decode cX12_fits 6 = .ok (.invokevirtual 282, 3) := by decide +kernel
theorem dX12_fits_9 : decode cX12_fits 9 = .ok (.aload_n 0, 1) := by decide +kernel
theorem dX12_fits_10 : decode cX12_fits 10 = .ok (.iconst 0, 1) := by decide +kernel
theorem dX12_fits_11 : decode cX12_fits 11 = .ok (.putfield 11, 3) := by decide +kernel
theorem dX12_fits_14 : decode cX12_fits 14 = .ok (.aload_n 0, 1) := by decide +kernel
theorem dX12_fits_15 : decode cX12_fits 15 = .ok (.getfield 273, 3) := by decide +kernel
theorem dX12_fits_18 : decode cX12_fits 18 = .ok (.ifCond .le 14, 3) := by decide +kernel
theorem dX12_fits_21 : decode cX12_fits 21 = .ok (.aload_n 0, 1) := by decide +kernel
theorem dX12_fits_22 : decode cX12_fits 22 = .ok (.aload_n 0, 1) := by decide +kernel
theorem dX12_fits_23 : decode cX12_fits 23 = .ok (.getfield 279, 3) := by decide +kernel
theorem dX12_fits_26 : decode cX12_fits 26 = .ok (.iconst 0, 1) := by decide +kernel
theorem dX12_fits_27 : decode cX12_fits 27 = .ok (.iaload, 1) := by decide +kernel
theorem dX12_fits_28 : decode cX12_fits 28 = .ok (.i2l, 1) := by decide +kernel
theorem dX12_fits_29 : decode cX12_fits 29 = .ok (.invokevirtual 18, 3) := by decide +kernel
theorem dX12_fits_32 : decode cX12_fits 32 = .ok (.aload_n 0, 1) := by decide +kernel
theorem dX12_fits_33 : decode cX12_fits 33 = .ok (.getfield 273, 3) := by decide +kernel
theorem dX12_fits_36 : decode cX12_fits 36 = .ok (.ireturn, 1) := by decide +kernel
theorem dX12_span_0 : decode cX12_span 0 = .ok (.aload_n 0, 1) := by decide +kernel
theorem dX12_span_1 : decode cX12_span 1 = .ok (.iconst 0, 1) := by decide +kernel
theorem dX12_span_2 : decode cX12_span 2 = .ok (.putfield 1, 3) := by decide +kernel
theorem dX12_span_5 : decode cX12_span 5 = .ok (.aload_n 0, 1) := by decide +kernel
theorem dX12_span_6 : decode cX12_span 6 = .ok (.iload_n 1, 1) := by decide +kernel
theorem dX12_span_7 : decode cX12_span 7 = .ok (.invokevirtual 217, 3) := by decide +kernel
theorem dX12_span_10 : decode cX12_span 10 = .ok (.ifCond .eq 13, 3) := by decide +kernel
theorem dX12_span_13 : decode cX12_span 13 = .ok (.iload_n 2, 1) := by decide +kernel
theorem dX12_span_14 : decode cX12_span 14 = .ok (.i2l, 1) := by decide +kernel
theorem dX12_span_15 : decode cX12_span 15 = .ok (.lconst 0, 1) := by decide +kernel
theorem dX12_span_16 : decode cX12_span 16 = .ok (.lconst 1, 1) := by decide +kernel
theorem dX12_span_17 : decode cX12_span 17 = .ok (.invokestatic 29, 3) := by decide +kernel
theorem dX12_span_20 : decode cX12_span 20 = .ok (.ifCond .ne 5, 3) := by decide +kernel
theorem dX12_span_23 : decode cX12_span 23 = .ok (.iconst (-1), 1) := by decide +kernel
theorem dX12_span_24 : decode cX12_span 24 = .ok (.ireturn, 1) := by decide +kernel
theorem dX12_span_25 : decode cX12_span 25 = .ok (.aload_n 0, 1) := by decide +kernel
theorem dX12_span_26 : decode cX12_span 26 = .ok (.invokevirtual 282, 3) := by decide +kernel
theorem dX12_span_29 : decode cX12_span 29 = .ok (.bipush (-2), 2) := by decide +kernel
theorem dX12_span_31 : decode cX12_span 31 = .ok (.istore_n 3, 1) := by decide +kernel
theorem dX12_span_32 : decode cX12_span 32 = .ok (.iconst 0, 1) := by decide +kernel
theorem dX12_span_33 : decode cX12_span 33 = .ok (.istore 4, 2) := by decide +kernel
theorem dX12_span_35 : decode cX12_span 35 = .ok (.iload 4, 2) := by decide +kernel
theorem dX12_span_37 : decode cX12_span 37 = .ok (.aload_n 0, 1) := by decide +kernel
theorem dX12_span_38 : decode cX12_span 38 = .ok (.getfield 273, 3) := by decide +kernel
theorem dX12_span_41 : decode cX12_span 41 = .ok (.if_icmp .ge 52, 3) := by decide +kernel
theorem dX12_span_44 : decode cX12_span 44 = .ok (.aload_n 0, 1) := by decide +kernel
theorem dX12_span_45 : decode cX12_span 45 = .ok (.iload_n 1, 1) := by decide +kernel
theorem dX12_span_46 : decode cX12_span 46 = .ok (.aload_n 0, 1) := by decide +kernel
theorem dX12_span_47 : decode cX12_span 47 = .ok (.getfield 279, 3) := by decide +kernel
theorem dX12_span_50 : decode cX12_span 50 = .ok (.iload 4, 2) := by decide +kernel
theorem dX12_span_52 : decode cX12_span 52 = .ok (.iaload, 1) := by decide +kernel
theorem dX12_span_53 : decode cX12_span 53 = .ok (.invokevirtual 140, 3) := by decide +kernel
theorem dX12_span_56 : decode cX12_span 56 = .ok (.istore 5, 2) := by decide +kernel
theorem dX12_span_58 : decode cX12_span 58 = .ok (.iload_n 3, 1) := by decide +kernel
theorem dX12_span_59 : decode cX12_span 59 = .ok (.ifCond .ge 8, 3) := by decide +kernel
theorem dX12_span_62 : decode cX12_span 62 = .ok (.iload 5, 2) := by decide +kernel
theorem dX12_span_64 : decode cX12_span 64 = .ok (.goto 22, 3) := by decide +kernel
theorem dX12_span_67 : decode cX12_span 67 = .ok (.iload_n 2, 1) := by decide +kernel
theorem dX12_span_68 : decode cX12_span 68 = .ok (.ifCond .ne 12, 3) := by decide +kernel
theorem dX12_span_71 : decode cX12_span 71 = .ok (.iload_n 3, 1) := by decide +kernel
theorem dX12_span_72 : decode cX12_span 72 = .ok (.iload 5, 2) := by decide +kernel
theorem dX12_span_74 : decode cX12_span 74 = .ok (.invokestatic 69, 3) := by decide +kernel
theorem dX12_span_77 : decode cX12_span 77 = .ok (.goto 9, 3) := by decide +kernel
theorem dX12_span_80 : decode cX12_span 80 = .ok (.iload_n 3, 1) := by decide +kernel
theorem dX12_span_81 : decode cX12_span 81 = .ok (.iload 5, 2) := by decide +kernel
theorem dX12_span_83 : decode cX12_span 83 = .ok (.invokestatic 127, 3) := by decide +kernel
theorem dX12_span_86 : decode cX12_span 86 = .ok (.istore_n 3, 1) := by decide +kernel
theorem dX12_span_87 : decode cX12_span 87 = .ok (.iinc 4 1, 3) := by decide +kernel
theorem dX12_span_90 : decode cX12_span 90 = .ok (.goto (-55), 3) := by decide +kernel
theorem dX12_span_93 : decode cX12_span 93 = .ok (.iload_n 3, 1) := by decide +kernel
theorem dX12_span_94 : decode cX12_span 94 = .ok (.ireturn, 1) := by decide +kernel
theorem dX12_order_0 : decode cX12_order 0 = .ok (.aload_n 0, 1) := by decide +kernel
theorem dX12_order_1 : decode cX12_order 1 = .ok (.iconst 0, 1) := by decide +kernel
theorem dX12_order_2 : decode cX12_order 2 = .ok (.putfield 1, 3) := by decide +kernel
theorem dX12_order_5 : decode cX12_order 5 = .ok (.aload_n 0, 1) := by decide +kernel
theorem dX12_order_6 : decode cX12_order 6 = .ok (.iload_n 1, 1) := by decide +kernel
theorem dX12_order_7 : decode cX12_order 7 = .ok (.invokevirtual 217, 3) := by decide +kernel
theorem dX12_order_10 : decode cX12_order 10 = .ok (.ifCond .eq 16, 3) := by decide +kernel
theorem dX12_order_13 : decode cX12_order 13 = .ok (.aload_n 0, 1) := by decide +kernel
theorem dX12_order_14 : decode cX12_order 14 = .ok (.iload_n 2, 1) := by decide +kernel
theorem dX12_order_15 : decode cX12_order 15 = .ok (.invokevirtual 217, 3) := by decide +kernel
theorem dX12_order_18 : decode cX12_order 18 = .ok (.ifCond .eq 8, 3) := by decide +kernel
theorem dX12_order_21 : decode cX12_order 21 = .ok (.iload_n 1, 1) := by decide +kernel
theorem dX12_order_22 : decode cX12_order 22 = .ok (.iload_n 2, 1) := by decide +kernel
theorem dX12_order_23 : decode cX12_order 23 = .ok (.if_icmp .ne 5, 3) := by decide +kernel
theorem dX12_order_26 : decode cX12_order 26 = .ok (.iconst (-1), 1) := by decide +kernel
theorem dX12_order_27 : decode cX12_order 27 = .ok (.ireturn, 1) := by decide +kernel
theorem dX12_order_28 : decode cX12_order 28 = .ok (.aload_n 0, 1) := by decide +kernel
theorem dX12_order_29 : decode cX12_order 29 = .ok (.invokevirtual 282, 3) := by decide +kernel
theorem dX12_order_32 : decode cX12_order 32 = .ok (.iconst 0, 1) := by decide +kernel
theorem dX12_order_33 : decode cX12_order 33 = .ok (.istore_n 3, 1) := by decide +kernel
theorem dX12_order_34 : decode cX12_order 34 = .ok (.iconst 0, 1) := by decide +kernel
theorem dX12_order_35 : decode cX12_order 35 = .ok (.istore 4, 2) := by decide +kernel
theorem dX12_order_37 : decode cX12_order 37 = .ok (.iload 4, 2) := by decide +kernel
theorem dX12_order_39 : decode cX12_order 39 = .ok (.aload_n 0, 1) := by decide +kernel
theorem dX12_order_40 : decode cX12_order 40 = .ok (.getfield 273, 3) := by decide +kernel
theorem dX12_order_43 : decode cX12_order 43 = .ok (.if_icmp .ge 67, 3) := by decide +kernel
theorem dX12_order_46 : decode cX12_order 46 = .ok (.aload_n 0, 1) := by decide +kernel
theorem dX12_order_47 : decode cX12_order 47 = .ok (.iload_n 1, 1) := by decide +kernel
theorem dX12_order_48 : decode cX12_order 48 = .ok (.aload_n 0, 1) := by decide +kernel
theorem dX12_order_49 : decode cX12_order 49 = .ok (.getfield 279, 3) := by decide +kernel
theorem dX12_order_52 : decode cX12_order 52 = .ok (.iload 4, 2) := by decide +kernel
theorem dX12_order_54 : decode cX12_order 54 = .ok (.iaload, 1) := by decide +kernel
theorem dX12_order_55 : decode cX12_order 55 = .ok (.invokevirtual 140, 3) := by decide +kernel
theorem dX12_order_58 : decode cX12_order 58 = .ok (.istore 5, 2) := by decide +kernel
theorem dX12_order_60 : decode cX12_order 60 = .ok (.aload_n 0, 1) := by decide +kernel
theorem dX12_order_61 : decode cX12_order 61 = .ok (.iload_n 2, 1) := by decide +kernel
theorem dX12_order_62 : decode cX12_order 62 = .ok (.aload_n 0, 1) := by decide +kernel
theorem dX12_order_63 : decode cX12_order 63 = .ok (.getfield 279, 3) := by decide +kernel
theorem dX12_order_66 : decode cX12_order 66 = .ok (.iload 4, 2) := by decide +kernel
theorem dX12_order_68 : decode cX12_order 68 = .ok (.iaload, 1) := by decide +kernel
theorem dX12_order_69 : decode cX12_order 69 = .ok (.invokevirtual 140, 3) := by decide +kernel
theorem dX12_order_72 : decode cX12_order 72 = .ok (.istore 6, 2) := by decide +kernel
theorem dX12_order_74 : decode cX12_order 74 = .ok (.iload_n 3, 1) := by decide +kernel
theorem dX12_order_75 : decode cX12_order 75 = .ok (.iload 5, 2) := by decide +kernel
theorem dX12_order_77 : decode cX12_order 77 = .ok (.iload 6, 2) := by decide +kernel
theorem dX12_order_79 : decode cX12_order 79 = .ok (.if_icmp .lt 15, 3) := by decide +kernel
theorem dX12_order_82 : decode cX12_order 82 = .ok (.iload 5, 2) := by decide +kernel
theorem dX12_order_84 : decode cX12_order 84 = .ok (.iload 6, 2) := by decide +kernel
theorem dX12_order_86 : decode cX12_order 86 = .ok (.if_icmp .ne 12, 3) := by decide +kernel
theorem dX12_order_89 : decode cX12_order 89 = .ok (.iload_n 1, 1) := by decide +kernel
theorem dX12_order_90 : decode cX12_order 90 = .ok (.iload_n 2, 1) := by decide +kernel
theorem dX12_order_91 : decode cX12_order 91 = .ok (.if_icmp .ge 7, 3) := by decide +kernel
theorem dX12_order_94 : decode cX12_order 94 = .ok (.iconst 1, 1) := by decide +kernel
theorem dX12_order_95 : decode cX12_order 95 = .ok (.goto 4, 3) := by decide +kernel
theorem dX12_order_98 : decode cX12_order 98 = .ok (.iconst 0, 1) := by decide +kernel
theorem dX12_order_99 : decode cX12_order 99 = .ok (.invokestatic 39, 3) := by decide +kernel
theorem dX12_order_102 : decode cX12_order 102 = .ok (.iadd, 1) := by decide +kernel
theorem dX12_order_103 : decode cX12_order 103 = .ok (.istore_n 3, 1) := by decide +kernel
theorem dX12_order_104 : decode cX12_order 104 = .ok (.iinc 4 1, 3) := by decide +kernel
theorem dX12_order_107 : decode cX12_order 107 = .ok (.goto (-70), 3) := by decide +kernel
theorem dX12_order_110 : decode cX12_order 110 = .ok (.aload_n 0, 1) := by decide +kernel
theorem dX12_order_111 : decode cX12_order 111 = .ok (.getfield 273, 3) := by decide +kernel
theorem dX12_order_114 : decode cX12_order 114 = .ok (.ifCond .ne 8, 3) := by decide +kernel
theorem dX12_order_117 : decode cX12_order 117 = .ok (.bipush (-2), 2) := by decide +kernel
theorem dX12_order_119 : decode cX12_order 119 = .ok (.goto 24, 3) := by decide +kernel
theorem dX12_order_122 : decode cX12_order 122 = .ok (.iload_n 3, 1) := by decide +kernel
theorem dX12_order_123 : decode cX12_order 123 = .ok (.aload_n 0, 1) := by decide +kernel
theorem dX12_order_124 : decode cX12_order 124 = .ok (.getfield 273, 3) := by decide +kernel
theorem dX12_order_127 : decode cX12_order 127 = .ok (.if_icmp .ne 7, 3) := by decide +kernel
theorem dX12_order_130 : decode cX12_order 130 = .ok (.iconst 1, 1) := by decide +kernel
theorem dX12_order_131 : decode cX12_order 131 = .ok (.goto 12, 3) := by decide +kernel
theorem dX12_order_134 : decode cX12_order 134 = .ok (.iload_n 3, 1) := by decide +kernel
theorem dX12_order_135 : decode cX12_order 135 = .ok (.ifCond .ne 7, 3) := by decide +kernel
theorem dX12_order_138 : decode cX12_order 138 = .ok (.iconst 2, 1) := by decide +kernel
theorem dX12_order_139 : decode cX12_order 139 = .ok (.goto 4, 3) := by decide +kernel
theorem dX12_order_142 : decode cX12_order 142 = .ok (.iconst 0, 1) := by decide +kernel
theorem dX12_order_143 : decode cX12_order 143 = .ok (.ireturn, 1) := by decide +kernel
theorem dX12_wrong_0 : decode cX12_wrong 0 = .ok (.aload_n 0, 1) := by decide +kernel
theorem dX12_wrong_1 : decode cX12_wrong 1 = .ok (.iconst 0, 1) := by decide +kernel
theorem dX12_wrong_2 : decode cX12_wrong 2 = .ok (.putfield 1, 3) := by decide +kernel
theorem dX12_wrong_5 : decode cX12_wrong 5 = .ok (.iconst (-1), 1) := by decide +kernel
theorem dX12_wrong_6 : decode cX12_wrong 6 = .ok (.istore_n 1, 1) := by decide +kernel
theorem dX12_wrong_7 : decode cX12_wrong 7 = .ok (.iconst 0, 1) := by decide +kernel
theorem dX12_wrong_8 : decode cX12_wrong 8 = .ok (.istore_n 2, 1) := by decide +kernel
theorem dX12_wrong_9 : decode cX12_wrong 9 = .ok (.aload_n 0, 1) := by decide +kernel
theorem dX12_wrong_10 : decode cX12_wrong 10 = .ok (.invokevirtual 107, 3) := by decide +kernel
theorem dX12_wrong_13 : decode cX12_wrong 13 = .ok (.istore_n 3, 1) := by decide +kernel
theorem dX12_wrong_14 : decode cX12_wrong 14 = .ok (.iconst 0, 1) := by decide +kernel
theorem dX12_wrong_15 : decode cX12_wrong 15 = .ok (.istore 4, 2) := by decide +kernel
theorem dX12_wrong_17 : decode cX12_wrong 17 = .ok (.iload 4, 2) := by decide +kernel
theorem dX12_wrong_19 : decode cX12_wrong 19 = .ok (.iload_n 3, 1) := by decide +kernel
theorem dX12_wrong_20 : decode cX12_wrong 20 = .ok (.if_icmp .ge 39, 3) := by decide +kernel
theorem dX12_wrong_23 : decode cX12_wrong 23 = .ok (.aload_n 0, 1) := by decide +kernel
theorem dX12_wrong_24 : decode cX12_wrong 24 = .ok (.iload 4, 2) := by decide +kernel
theorem dX12_wrong_26 : decode cX12_wrong 26 = .ok (.invokevirtual 286, 3) := by decide +kernel
theorem dX12_wrong_29 : decode cX12_wrong 29 = .ok (.istore 5, 2) := by decide +kernel
theorem dX12_wrong_31 : decode cX12_wrong 31 = .ok (.iload_n 1, 1) := by decide +kernel
theorem dX12_wrong_32 : decode cX12_wrong 32 = .ok (.ifCond .lt 15, 3) := by decide +kernel
theorem dX12_wrong_35 : decode cX12_wrong 35 = .ok (.iload 5, 2) := by decide +kernel
theorem dX12_wrong_37 : decode cX12_wrong 37 = .ok (.invokestatic 289, 3) := by decide +kernel
theorem dX12_wrong_40 : decode cX12_wrong 40 = .ok (.iload_n 2, 1) := by decide +kernel
theorem dX12_wrong_41 : decode cX12_wrong 41 = .ok (.invokestatic 289, 3) := by decide +kernel
theorem dX12_wrong_44 : decode cX12_wrong 44 = .ok (.if_icmp .ge 9, 3) := by decide +kernel
theorem dX12_wrong_47 : decode cX12_wrong 47 = .ok (.iload 4, 2) := by decide +kernel
theorem dX12_wrong_49 : decode cX12_wrong 49 = .ok (.istore_n 1, 1) := by decide +kernel
theorem dX12_wrong_50 : decode cX12_wrong 50 = .ok (.iload 5, 2) := by decide +kernel
theorem dX12_wrong_52 : decode cX12_wrong 52 = .ok (.istore_n 2, 1) := by decide +kernel
theorem dX12_wrong_53 : decode cX12_wrong 53 = .ok (.iinc 4 1, 3) := by decide +kernel
theorem dX12_wrong_56 : decode cX12_wrong 56 = .ok (.goto (-39), 3) := by decide +kernel
theorem dX12_wrong_59 : decode cX12_wrong 59 = .ok (.aload_n 0, 1) := by decide +kernel
theorem dX12_wrong_60 : decode cX12_wrong 60 = .ok (.iconst 0, 1) := by decide +kernel
theorem dX12_wrong_61 : decode cX12_wrong 61 = .ok (.putfield 11, 3) := by decide +kernel
theorem dX12_wrong_64 : decode cX12_wrong 64 = .ok (.aload_n 0, 1) := by decide +kernel
theorem dX12_wrong_65 : decode cX12_wrong 65 = .ok (.iload_n 1, 1) := by decide +kernel
theorem dX12_wrong_66 : decode cX12_wrong 66 = .ok (.i2l, 1) := by decide +kernel
theorem dX12_wrong_67 : decode cX12_wrong 67 = .ok (.invokevirtual 18, 3) := by decide +kernel
theorem dX12_wrong_70 : decode cX12_wrong 70 = .ok (.aload_n 0, 1) := by decide +kernel
theorem dX12_wrong_71 : decode cX12_wrong 71 = .ok (.iload_n 2, 1) := by decide +kernel
theorem dX12_wrong_72 : decode cX12_wrong 72 = .ok (.i2l, 1) := by decide +kernel
theorem dX12_wrong_73 : decode cX12_wrong 73 = .ok (.invokevirtual 18, 3) := by decide +kernel
theorem dX12_wrong_76 : decode cX12_wrong 76 = .ok (.iload_n 2, 1) := by decide +kernel
theorem dX12_wrong_77 : decode cX12_wrong 77 = .ok (.invokestatic 289, 3) := by decide +kernel
theorem dX12_wrong_80 : decode cX12_wrong 80 = .ok (.ireturn, 1) := by decide +kernel
theorem dX12_blunder_0 : decode cX12_blunder 0 = .ok (.aload_n 0, 1) := by decide +kernel
theorem dX12_blunder_1 : decode cX12_blunder 1 = .ok (.iconst 0, 1) := by decide +kernel
theorem dX12_blunder_2 : decode cX12_blunder 2 = .ok (.putfield 1, 3) := by decide +kernel
theorem dX12_blunder_5 : decode cX12_blunder 5 = .ok (.iconst 0, 1) := by decide +kernel
theorem dX12_blunder_6 : decode cX12_blunder 6 = .ok (.istore_n 1, 1) := by decide +kernel
theorem dX12_blunder_7 : decode cX12_blunder 7 = .ok (.aload_n 0, 1) := by decide +kernel
theorem dX12_blunder_8 : decode cX12_blunder 8 = .ok (.invokevirtual 107, 3) := by decide +kernel
theorem dX12_blunder_11 : decode cX12_blunder 11 = .ok (.istore_n 2, 1) := by decide +kernel
theorem dX12_blunder_12 : decode cX12_blunder 12 = .ok (.iconst 0, 1) := by decide +kernel
theorem dX12_blunder_13 : decode cX12_blunder 13 = .ok (.istore_n 3, 1) := by decide +kernel
theorem dX12_blunder_14 : decode cX12_blunder 14 = .ok (.iload_n 3, 1) := by decide +kernel
theorem dX12_blunder_15 : decode cX12_blunder 15 = .ok (.iload_n 2, 1) := by decide +kernel
theorem dX12_blunder_16 : decode cX12_blunder 16 = .ok (.if_icmp .ge 41, 3) := by decide +kernel
theorem dX12_blunder_19 : decode cX12_blunder 19 = .ok (.aload_n 0, 1) := by decide +kernel
theorem dX12_blunder_20 : decode cX12_blunder 20 = .ok (.iload_n 3, 1) := by decide +kernel
theorem dX12_blunder_21 : decode cX12_blunder 21 = .ok (.invokevirtual 286, 3) := by decide +kernel
theorem dX12_blunder_24 : decode cX12_blunder 24 = .ok (.istore 4, 2) := by decide +kernel
theorem dX12_blunder_26 : decode cX12_blunder 26 = .ok (.iload 4, 2) := by decide +kernel
theorem dX12_blunder_28 : decode cX12_blunder 28 = .ok (.ifCond .ne 5, 3) := by decide +kernel
theorem dX12_blunder_31 : decode cX12_blunder 31 = .ok (.iconst 0, 1) := by decide +kernel
theorem dX12_blunder_32 : decode cX12_blunder 32 = .ok (.ireturn, 1) := by decide +kernel
theorem dX12_blunder_33 : decode cX12_blunder 33 = .ok (.iload_n 1, 1) := by decide +kernel
theorem dX12_blunder_34 : decode cX12_blunder 34 = .ok (.iload 4, 2) := by decide +kernel
theorem dX12_blunder_36 : decode cX12_blunder 36 = .ok (.invokestatic 289, 3) := by decide +kernel
theorem dX12_blunder_39 : decode cX12_blunder 39 = .ok (.iconst 1, 1) := by decide +kernel
theorem dX12_blunder_40 : decode cX12_blunder 40 = .ok (.if_icmp .ne 8, 3) := by decide +kernel
theorem dX12_blunder_43 : decode cX12_blunder 43 = .ok (.iload 4, 2) := by decide +kernel
theorem dX12_blunder_45 : decode cX12_blunder 45 = .ok (.goto 4, 3) := by decide +kernel
theorem dX12_blunder_48 : decode cX12_blunder 48 = .ok (.iconst 0, 1) := by decide +kernel
theorem dX12_blunder_49 : decode cX12_blunder 49 = .ok (.ior, 1) := by decide +kernel
theorem dX12_blunder_50 : decode cX12_blunder 50 = .ok (.istore_n 1, 1) := by decide +kernel
theorem dX12_blunder_51 : decode cX12_blunder 51 = .ok (.iinc 3 1, 3) := by decide +kernel
theorem dX12_blunder_54 : decode cX12_blunder 54 = .ok (.goto (-40), 3) := by decide +kernel
theorem dX12_blunder_57 : decode cX12_blunder 57 = .ok (.iload_n 1, 1) := by decide +kernel
theorem dX12_blunder_58 : decode cX12_blunder 58 = .ok (.ireturn, 1) := by decide +kernel
theorem dX12_packs_0 : decode cX12_packs 0 = .ok (.lconst 1, 1) := by decide +kernel
theorem dX12_packs_1 : decode cX12_packs 1 = .ok (.lstore_n 2, 1) := by decide +kernel
theorem dX12_packs_2 : decode cX12_packs 2 = .ok (.iconst 0, 1) := by decide +kernel
theorem dX12_packs_3 : decode cX12_packs 3 = .ok (.istore 4, 2) := by decide +kernel
theorem dX12_packs_5 : decode cX12_packs 5 = .ok (.iload 4, 2) := by decide +kernel
theorem dX12_packs_7 : decode cX12_packs 7 = .ok (.aload_n 0, 1) := by decide +kernel
theorem dX12_packs_8 : decode cX12_packs 8 = .ok (.getfield 155, 3) := by decide +kernel
theorem dX12_packs_11 : decode cX12_packs 11 = .ok (.iload_n 1, 1) := by decide +kernel
theorem dX12_packs_12 : decode cX12_packs 12 = .ok (.iaload, 1) := by decide +kernel
theorem dX12_packs_13 : decode cX12_packs 13 = .ok (.if_icmp .ge 27, 3) := by decide +kernel
theorem dX12_packs_16 : decode cX12_packs 16 = .ok (.lload_n 2, 1) := by decide +kernel
theorem dX12_packs_17 : decode cX12_packs 17 = .ok (.iconst 4, 1) := by decide +kernel
theorem dX12_packs_18 : decode cX12_packs 18 = .ok (.lshl, 1) := by decide +kernel
theorem dX12_packs_19 : decode cX12_packs 19 = .ok (.aload_n 0, 1) := by decide +kernel
theorem dX12_packs_20 : decode cX12_packs 20 = .ok (.getfield 158, 3) := by decide +kernel
theorem dX12_packs_23 : decode cX12_packs 23 = .ok (.bipush 8, 2) := by decide +kernel
theorem dX12_packs_25 : decode cX12_packs 25 = .ok (.iload_n 1, 1) := by decide +kernel
theorem dX12_packs_26 : decode cX12_packs 26 = .ok (.imul, 1) := by decide +kernel
theorem dX12_packs_27 : decode cX12_packs 27 = .ok (.iload 4, 2) := by decide +kernel
theorem dX12_packs_29 : decode cX12_packs 29 = .ok (.iadd, 1) := by decide +kernel
theorem dX12_packs_30 : decode cX12_packs 30 = .ok (.iaload, 1) := by decide +kernel
theorem dX12_packs_31 : decode cX12_packs 31 = .ok (.i2l, 1) := by decide +kernel
theorem dX12_packs_32 : decode cX12_packs 32 = .ok (.lor, 1) := by decide +kernel
theorem dX12_packs_33 : decode cX12_packs 33 = .ok (.lstore_n 2, 1) := by decide +kernel
theorem dX12_packs_34 : decode cX12_packs 34 = .ok (.iinc 4 1, 3) := by decide +kernel
theorem dX12_packs_37 : decode cX12_packs 37 = .ok (.goto (-32), 3) := by decide +kernel
theorem dX12_packs_40 : decode cX12_packs 40 = .ok (.lload_n 2, 1) := by decide +kernel
theorem dX12_packs_41 : decode cX12_packs 41 = .ok (.lreturn, 1) := by decide +kernel
theorem dX12_longOf_0 : decode cX12_longOf 0 = .ok (.iconst 0, 1) := by decide +kernel
theorem dX12_longOf_1 : decode cX12_longOf 1 = .ok (.istore_n 2, 1) := by decide +kernel
theorem dX12_longOf_2 : decode cX12_longOf 2 = .ok (.lload_n 0, 1) := by decide +kernel
theorem dX12_longOf_3 : decode cX12_longOf 3 = .ok (.lstore_n 3, 1) := by decide +kernel
theorem dX12_longOf_4 : decode cX12_longOf 4 = .ok (.lload_n 3, 1) := by decide +kernel
theorem dX12_longOf_5 : decode cX12_longOf 5 = .ok (.lconst 1, 1) := by decide +kernel
theorem dX12_longOf_6 : decode cX12_longOf 6 = .ok (.lcmp, 1) := by decide +kernel
theorem dX12_longOf_7 : decode cX12_longOf 7 = .ok (.ifCond .le 13, 3) := by decide +kernel
theorem dX12_longOf_10 : decode cX12_longOf 10 = .ok (.iinc 2 1, 3) := by decide +kernel
theorem dX12_longOf_13 : decode cX12_longOf 13 = .ok (.lload_n 3, 1) := by decide +kernel
theorem dX12_longOf_14 : decode cX12_longOf 14 = .ok (.iconst 4, 1) := by decide +kernel
theorem dX12_longOf_15 : decode cX12_longOf 15 = .ok (.lshr, 1) := by decide +kernel
theorem dX12_longOf_16 : decode cX12_longOf 16 = .ok (.lstore_n 3, 1) := by decide +kernel
theorem dX12_longOf_17 : decode cX12_longOf 17 = .ok (.goto (-13), 3) := by decide +kernel
theorem dX12_longOf_20 : decode cX12_longOf 20 = .ok (.iload_n 2, 1) := by decide +kernel
theorem dX12_longOf_21 : decode cX12_longOf 21 = .ok (.ireturn, 1) := by decide +kernel
theorem dX12_notes_0 : decode cX12_notes 0 = .ok (.iconst 0, 1) := by decide +kernel
theorem dX12_notes_1 : decode cX12_notes 1 = .ok (.istore 5, 2) := by decide +kernel
theorem dX12_notes_3 : decode cX12_notes 3 = .ok (.iload 5, 2) := by decide +kernel
theorem dX12_notes_5 : decode cX12_notes 5 = .ok (.aload_n 0, 1) := by decide +kernel
theorem dX12_notes_6 : decode cX12_notes 6 = .ok (.getfield 294, 3) := by decide +kernel
theorem dX12_notes_9 : decode cX12_notes 9 = .ok (.if_icmp .ge 21, 3) := by decide +kernel
theorem dX12_notes_12 : decode cX12_notes 12 = .ok (.aload_n 0, 1) := by decide +kernel
theorem dX12_notes_13 : decode cX12_notes 13 = .ok (.getfield 297, 3) := by decide +kernel
theorem dX12_notes_16 : decode cX12_notes 16 = .ok (.iload 5, 2) := by decide +kernel
theorem dX12_notes_18 : decode cX12_notes 18 = .ok (.laload, 1) := by decide +kernel
theorem dX12_notes_19 : decode cX12_notes 19 = .ok (.lload_n 1, 1) := by decide +kernel
theorem dX12_notes_20 : decode cX12_notes 20 = .ok (.lcmp, 1) := by decide +kernel
theorem dX12_notes_21 : decode cX12_notes 21 = .ok (.ifCond .eq 9, 3) := by decide +kernel
theorem dX12_notes_24 : decode cX12_notes 24 = .ok (.iinc 5 1, 3) := by decide +kernel
theorem dX12_notes_27 : decode cX12_notes 27 = .ok (.goto (-24), 3) := by decide +kernel
theorem dX12_notes_30 : decode cX12_notes 30 = .ok (.iload 5, 2) := by decide +kernel
theorem dX12_notes_32 : decode cX12_notes 32 = .ok (.aload_n 0, 1) := by decide +kernel
theorem dX12_notes_33 : decode cX12_notes 33 = .ok (.getfield 294, 3) := by decide +kernel
theorem dX12_notes_36 : decode cX12_notes 36 = .ok (.if_icmp .ne 29, 3) := by decide +kernel
theorem dX12_notes_39 : decode cX12_notes 39 = .ok (.aload_n 0, 1) := by decide +kernel
theorem dX12_notes_40 : decode cX12_notes 40 = .ok (.getfield 297, 3) := by decide +kernel
theorem dX12_notes_43 : decode cX12_notes 43 = .ok (.iload 5, 2) := by decide +kernel
theorem dX12_notes_45 : decode cX12_notes 45 = .ok (.lload_n 1, 1) := by decide +kernel
theorem dX12_notes_46 : decode cX12_notes 46 = .ok (.lastore, 1) := by decide +kernel
theorem dX12_notes_47 : decode cX12_notes 47 = .ok (.aload_n 0, 1) := by decide +kernel
theorem dX12_notes_48 : decode cX12_notes 48 = .ok (.getfield 300, 3) := by decide +kernel
theorem dX12_notes_51 : decode cX12_notes 51 = .ok (.iload 5, 2) := by decide +kernel
theorem dX12_notes_53 : decode cX12_notes 53 = .ok (.lconst 0, 1) := by decide +kernel
theorem dX12_notes_54 : decode cX12_notes 54 = .ok (.lastore, 1) := by decide +kernel
theorem dX12_notes_55 : decode cX12_notes 55 = .ok (.aload_n 0, 1) := by decide +kernel
theorem dX12_notes_56 : decode cX12_notes 56 = .ok (.dup, 1) := by decide +kernel
theorem dX12_notes_57 : decode cX12_notes 57 = .ok (.getfield 294, 3) := by decide +kernel
theorem dX12_notes_60 : decode cX12_notes 60 = .ok (.iconst 1, 1) := by decide +kernel
theorem dX12_notes_61 : decode cX12_notes 61 = .ok (.iadd, 1) := by decide +kernel
theorem dX12_notes_62 : decode cX12_notes 62 = .ok (.putfield 294, 3) := by decide +kernel
theorem dX12_notes_65 : decode cX12_notes 65 = .ok (.aload_n 0, 1) := by decide +kernel
theorem dX12_notes_66 : decode cX12_notes 66 = .ok (.getfield 300, 3) := by decide +kernel
theorem dX12_notes_69 : decode cX12_notes 69 = .ok (.iload 5, 2) := by decide +kernel
theorem dX12_notes_71 : decode cX12_notes 71 = .ok (.dup2, 1) := by decide +kernel
theorem dX12_notes_72 : decode cX12_notes 72 = .ok (.laload, 1) := by decide +kernel
theorem dX12_notes_73 : decode cX12_notes 73 = .ok (.lload_n 3, 1) := by decide +kernel
theorem dX12_notes_74 : decode cX12_notes 74 = .ok (.ladd, 1) := by decide +kernel
theorem dX12_notes_75 : decode cX12_notes 75 = .ok (.lastore, 1) := by decide +kernel
theorem dX12_notes_76 : decode cX12_notes 76 = .ok (.return_, 1) := by decide +kernel
theorem dX12_sure_0 : decode cX12_sure 0 = .ok (.aload_n 0, 1) := by decide +kernel
theorem dX12_sure_1 : decode cX12_sure 1 = .ok (.iconst 0, 1) := by decide +kernel
theorem dX12_sure_2 : decode cX12_sure 2 = .ok (.putfield 1, 3) := by decide +kernel
theorem dX12_sure_5 : decode cX12_sure 5 = .ok (.aload_n 0, 1) := by decide +kernel
theorem dX12_sure_6 : decode cX12_sure 6 = .ok (.iload_n 1, 1) := by decide +kernel
theorem dX12_sure_7 : decode cX12_sure 7 = .ok (.invokevirtual 191, 3) := by decide +kernel
theorem dX12_sure_10 : decode cX12_sure 10 = .ok (.ifCond .eq 11, 3) := by decide +kernel
theorem dX12_sure_13 : decode cX12_sure 13 = .ok (.iload_n 2, 1) := by decide +kernel
theorem dX12_sure_14 : decode cX12_sure 14 = .ok (.iload_n 3, 1) := by decide +kernel
theorem dX12_sure_15 : decode cX12_sure 15 = .ok (.invokestatic 197, 3) := by decide +kernel
theorem dX12_sure_18 : decode cX12_sure 18 = .ok (.ifCond .ne 5, 3) := by decide +kernel
theorem dX12_sure_21 : decode cX12_sure 21 = .ok (.iconst (-1), 1) := by decide +kernel
theorem dX12_sure_22 : decode cX12_sure 22 = .ok (.ireturn, 1) := by decide +kernel
theorem dX12_sure_23 : decode cX12_sure 23 = .ok (.aload_n 0, 1) := by decide +kernel
theorem dX12_sure_24 : decode cX12_sure 24 = .ok (.invokevirtual 282, 3) := by decide +kernel
theorem dX12_sure_27 : decode cX12_sure 27 = .ok (.aload_n 0, 1) := by decide +kernel
theorem dX12_sure_28 : decode cX12_sure 28 = .ok (.getfield 273, 3) := by decide +kernel
theorem dX12_sure_31 : decode cX12_sure 31 = .ok (.ifCond .ne 6, 3) := by decide +kernel
theorem dX12_sure_34 : decode cX12_sure 34 = .ok (.bipush (-2), 2) := by decide +kernel
theorem dX12_sure_36 : decode cX12_sure 36 = .ok (.ireturn, 1) := by decide +kernel
theorem dX12_sure_37 : decode cX12_sure 37 = .ok (.aload_n 0, 1) := by decide +kernel
theorem dX12_sure_38 : decode cX12_sure 38 = .ok (.iconst 0, 1) := by decide +kernel
theorem dX12_sure_39 : decode cX12_sure 39 = .ok (.putfield 294, 3) := by decide +kernel
theorem dX12_sure_42 : decode cX12_sure 42 = .ok (.bipush 8, 2) := by decide +kernel
theorem dX12_sure_44 : decode cX12_sure 44 = .ok (.istore 4, 2) := by decide +kernel
theorem dX12_sure_46 : decode cX12_sure 46 = .ok (.iconst 0, 1) := by decide +kernel
theorem dX12_sure_47 : decode cX12_sure 47 = .ok (.istore 5, 2) := by decide +kernel
theorem dX12_sure_49 : decode cX12_sure 49 = .ok (.iconst 0, 1) := by decide +kernel
theorem dX12_sure_50 : decode cX12_sure 50 = .ok (.istore 6, 2) := by decide +kernel
theorem dX12_sure_52 : decode cX12_sure 52 = .ok (.iload 6, 2) := by decide +kernel
theorem dX12_sure_54 : decode cX12_sure 54 = .ok (.aload_n 0, 1) := by decide +kernel
theorem dX12_sure_55 : decode cX12_sure 55 = .ok (.getfield 273, 3) := by decide +kernel
theorem dX12_sure_58 : decode cX12_sure 58 = .ok (.if_icmp .ge 60, 3) := by decide +kernel
theorem dX12_sure_61 : decode cX12_sure 61 = .ok (.aload_n 0, 1) := by decide +kernel
theorem dX12_sure_62 : decode cX12_sure 62 = .ok (.iconst 0, 1) := by decide +kernel
theorem dX12_sure_63 : decode cX12_sure 63 = .ok (.iload_n 1, 1) := by decide +kernel
theorem dX12_sure_64 : decode cX12_sure 64 = .ok (.aload_n 0, 1) := by decide +kernel
theorem dX12_sure_65 : decode cX12_sure 65 = .ok (.getfield 279, 3) := by decide +kernel
theorem dX12_sure_68 : decode cX12_sure 68 = .ok (.iload 6, 2) := by decide +kernel
theorem dX12_sure_70 : decode cX12_sure 70 = .ok (.iaload, 1) := by decide +kernel
theorem dX12_sure_71 : decode cX12_sure 71 = .ok (.iload_n 2, 1) := by decide +kernel
theorem dX12_sure_72 : decode cX12_sure 72 = .ok (.iload_n 3, 1) := by decide +kernel
theorem dX12_sure_73 : decode cX12_sure 73 = .ok (.invokevirtual 200, 3) := by decide +kernel
theorem dX12_sure_76 : decode cX12_sure 76 = .ok (.aload_n 0, 1) := by decide +kernel
theorem dX12_sure_77 : decode cX12_sure 77 = .ok (.aload_n 0, 1) := by decide +kernel
theorem dX12_sure_78 : decode cX12_sure 78 = .ok (.iconst 0, 1) := by decide +kernel
theorem dX12_sure_79 : decode cX12_sure 79 = .ok (.invokevirtual 303, 3) := by decide +kernel
theorem dX12_sure_82 : decode cX12_sure 82 = .ok (.lconst 1, 1) := by decide +kernel
theorem dX12_sure_83 : decode cX12_sure 83 = .ok (.invokevirtual 307, 3) := by decide +kernel
theorem dX12_sure_86 : decode cX12_sure 86 = .ok (.iload 4, 2) := by decide +kernel
theorem dX12_sure_88 : decode cX12_sure 88 = .ok (.aload_n 0, 1) := by decide +kernel
theorem dX12_sure_89 : decode cX12_sure 89 = .ok (.getfield 155, 3) := by decide +kernel
theorem dX12_sure_92 : decode cX12_sure 92 = .ok (.iconst 0, 1) := by decide +kernel
theorem dX12_sure_93 : decode cX12_sure 93 = .ok (.iaload, 1) := by decide +kernel
theorem dX12_sure_94 : decode cX12_sure 94 = .ok (.invokestatic 69, 3) := by decide +kernel
theorem dX12_sure_97 : decode cX12_sure 97 = .ok (.istore 4, 2) := by decide +kernel
theorem dX12_sure_99 : decode cX12_sure 99 = .ok (.iload 5, 2) := by decide +kernel
theorem dX12_sure_101 : decode cX12_sure 101 = .ok (.aload_n 0, 1) := by decide +kernel
theorem dX12_sure_102 : decode cX12_sure 102 = .ok (.getfield 155, 3) := by decide +kernel
theorem dX12_sure_105 : decode cX12_sure 105 = .ok (.iconst 0, 1) := by decide +kernel
theorem dX12_sure_106 : decode cX12_sure 106 = .ok (.iaload, 1) := by decide +kernel
theorem dX12_sure_107 : decode cX12_sure 107 = .ok (.invokestatic 127, 3) := by decide +kernel
theorem dX12_sure_110 : decode cX12_sure 110 = .ok (.istore 5, 2) := by decide +kernel
theorem dX12_sure_112 : decode cX12_sure 112 = .ok (.iinc 6 1, 3) := by decide +kernel
theorem dX12_sure_115 : decode cX12_sure 115 = .ok (.goto (-63), 3) := by decide +kernel
theorem dX12_sure_118 : decode cX12_sure 118 = .ok (.aload_n 0, 1) := by decide +kernel
theorem dX12_sure_119 : decode cX12_sure 119 = .ok (.iconst 0, 1) := by decide +kernel
theorem dX12_sure_120 : decode cX12_sure 120 = .ok (.putfield 11, 3) := by decide +kernel
theorem dX12_sure_123 : decode cX12_sure 123 = .ok (.aload_n 0, 1) := by decide +kernel
theorem dX12_sure_124 : decode cX12_sure 124 = .ok (.iload 4, 2) := by decide +kernel
theorem dX12_sure_126 : decode cX12_sure 126 = .ok (.i2l, 1) := by decide +kernel
theorem dX12_sure_127 : decode cX12_sure 127 = .ok (.invokevirtual 18, 3) := by decide +kernel
theorem dX12_sure_130 : decode cX12_sure 130 = .ok (.aload_n 0, 1) := by decide +kernel
theorem dX12_sure_131 : decode cX12_sure 131 = .ok (.iload 5, 2) := by decide +kernel
theorem dX12_sure_133 : decode cX12_sure 133 = .ok (.i2l, 1) := by decide +kernel
theorem dX12_sure_134 : decode cX12_sure 134 = .ok (.invokevirtual 18, 3) := by decide +kernel
theorem dX12_sure_137 : decode cX12_sure 137 = .ok (.aload_n 0, 1) := by decide +kernel
theorem dX12_sure_138 : decode cX12_sure 138 = .ok (.getfield 294, 3) := by decide +kernel
theorem dX12_sure_141 : decode cX12_sure 141 = .ok (.ireturn, 1) := by decide +kernel
theorem dX12_shows_0 : decode cX12_shows 0 = .ok (.aload_n 0, 1) := by decide +kernel
theorem dX12_shows_1 : decode cX12_shows 1 = .ok (.iconst 0, 1) := by decide +kernel
theorem dX12_shows_2 : decode cX12_shows 2 = .ok (.putfield 1, 3) := by decide +kernel
theorem dX12_shows_5 : decode cX12_shows 5 = .ok (.aload_n 0, 1) := by decide +kernel
theorem dX12_shows_6 : decode cX12_shows 6 = .ok (.iload_n 1, 1) := by decide +kernel
theorem dX12_shows_7 : decode cX12_shows 7 = .ok (.invokevirtual 217, 3) := by decide +kernel
theorem dX12_shows_10 : decode cX12_shows 10 = .ok (.ifCond .eq 11, 3) := by decide +kernel
theorem dX12_shows_13 : decode cX12_shows 13 = .ok (.aload_n 0, 1) := by decide +kernel
theorem dX12_shows_14 : decode cX12_shows 14 = .ok (.iload_n 2, 1) := by decide +kernel
theorem dX12_shows_15 : decode cX12_shows 15 = .ok (.invokevirtual 194, 3) := by decide +kernel
theorem dX12_shows_18 : decode cX12_shows 18 = .ok (.ifCond .ne 5, 3) := by decide +kernel
theorem dX12_shows_21 : decode cX12_shows 21 = .ok (.iconst (-1), 1) := by decide +kernel
theorem dX12_shows_22 : decode cX12_shows 22 = .ok (.ireturn, 1) := by decide +kernel
theorem dX12_shows_23 : decode cX12_shows 23 = .ok (.aload_n 0, 1) := by decide +kernel
theorem dX12_shows_24 : decode cX12_shows 24 = .ok (.iload_n 2, 1) := by decide +kernel
theorem dX12_shows_25 : decode cX12_shows 25 = .ok (.invokevirtual 286, 3) := by decide +kernel
theorem dX12_shows_28 : decode cX12_shows 28 = .ok (.istore_n 3, 1) := by decide +kernel
theorem dX12_shows_29 : decode cX12_shows 29 = .ok (.aload_n 0, 1) := by decide +kernel
theorem dX12_shows_30 : decode cX12_shows 30 = .ok (.iconst 1, 1) := by decide +kernel
theorem dX12_shows_31 : decode cX12_shows 31 = .ok (.iload_n 1, 1) := by decide +kernel
theorem dX12_shows_32 : decode cX12_shows 32 = .ok (.ishl, 1) := by decide +kernel
theorem dX12_shows_33 : decode cX12_shows 33 = .ok (.putfield 133, 3) := by decide +kernel
theorem dX12_shows_36 : decode cX12_shows 36 = .ok (.aload_n 0, 1) := by decide +kernel
theorem dX12_shows_37 : decode cX12_shows 37 = .ok (.iload_n 2, 1) := by decide +kernel
theorem dX12_shows_38 : decode cX12_shows 38 = .ok (.invokevirtual 286, 3) := by decide +kernel
theorem dX12_shows_41 : decode cX12_shows 41 = .ok (.istore 4, 2) := by decide +kernel
theorem dX12_shows_43 : decode cX12_shows 43 = .ok (.aload_n 0, 1) := by decide +kernel
theorem dX12_shows_44 : decode cX12_shows 44 = .ok (.iconst 0, 1) := by decide +kernel
theorem dX12_shows_45 : decode cX12_shows 45 = .ok (.putfield 133, 3) := by decide +kernel
theorem dX12_shows_48 : decode cX12_shows 48 = .ok (.iload 4, 2) := by decide +kernel
theorem dX12_shows_50 : decode cX12_shows 50 = .ok (.iload_n 3, 1) := by decide +kernel
theorem dX12_shows_51 : decode cX12_shows 51 = .ok (.iconst (-1), 1) := by decide +kernel
theorem dX12_shows_52 : decode cX12_shows 52 = .ok (.ixor, 1) := by decide +kernel
theorem dX12_shows_53 : decode cX12_shows 53 = .ok (.iand, 1) := by decide +kernel
theorem dX12_shows_54 : decode cX12_shows 54 = .ok (.ireturn, 1) := by decide +kernel
theorem dX12_least_0 : decode cX12_least 0 = .ok (.aload_n 0, 1) := by decide +kernel
theorem dX12_least_1 : decode cX12_least 1 = .ok (.iconst 0, 1) := by decide +kernel
theorem dX12_least_2 : decode cX12_least 2 = .ok (.putfield 1, 3) := by decide +kernel
theorem dX12_least_5 : decode cX12_least 5 = .ok (.iconst (-1), 1) := by decide +kernel
theorem dX12_least_6 : decode cX12_least 6 = .ok (.istore_n 1, 1) := by decide +kernel
theorem dX12_least_7 : decode cX12_least 7 = .ok (.iconst 0, 1) := by decide +kernel
theorem dX12_least_8 : decode cX12_least 8 = .ok (.istore_n 2, 1) := by decide +kernel
theorem dX12_least_9 : decode cX12_least 9 = .ok (.aload_n 0, 1) := by decide +kernel
theorem dX12_least_10 : decode cX12_least 10 = .ok (.invokevirtual 107, 3) := by decide +kernel
theorem dX12_least_13 : decode cX12_least 13 = .ok (.istore_n 3, 1) := by decide +kernel
theorem dX12_least_14 : decode cX12_least 14 = .ok (.iconst 0, 1) := by decide +kernel
theorem dX12_least_15 : decode cX12_least 15 = .ok (.istore 4, 2) := by decide +kernel
theorem dX12_least_17 : decode cX12_least 17 = .ok (.iload 4, 2) := by decide +kernel
theorem dX12_least_19 : decode cX12_least 19 = .ok (.iconst 1, 1) := by decide +kernel
theorem dX12_least_20 : decode cX12_least 20 = .ok (.aload_n 0, 1) := by decide +kernel
theorem dX12_least_21 : decode cX12_least 21 = .ok (.getfield 99, 3) := by decide +kernel
theorem dX12_least_24 : decode cX12_least 24 = .ok (.ishl, 1) := by decide +kernel
theorem dX12_least_25 : decode cX12_least 25 = .ok (.if_icmp .ge 69, 3) := by decide +kernel
theorem dX12_least_28 : decode cX12_least 28 = .ok (.iload_n 1, 1) := by decide +kernel
theorem dX12_least_29 : decode cX12_least 29 = .ok (.ifCond .lt 18, 3) := by decide +kernel
theorem dX12_least_32 : decode cX12_least 32 = .ok (.iload 4, 2) := by decide +kernel
theorem dX12_least_34 : decode cX12_least 34 = .ok (.invokestatic 289, 3) := by decide +kernel
theorem dX12_least_37 : decode cX12_least 37 = .ok (.iload_n 1, 1) := by decide +kernel
theorem dX12_least_38 : decode cX12_least 38 = .ok (.invokestatic 289, 3) := by decide +kernel
theorem dX12_least_41 : decode cX12_least 41 = .ok (.if_icmp .lt 6, 3) := by decide +kernel
theorem dX12_least_44 : decode cX12_least 44 = .ok (.goto 44, 3) := by decide +kernel
theorem dX12_least_47 : decode cX12_least 47 = .ok (.aload_n 0, 1) := by decide +kernel
theorem dX12_least_48 : decode cX12_least 48 = .ok (.iload 4, 2) := by decide +kernel
theorem dX12_least_50 : decode cX12_least 50 = .ok (.iconst (-1), 1) := by decide +kernel
theorem dX12_least_51 : decode cX12_least 51 = .ok (.ixor, 1) := by decide +kernel
theorem dX12_least_52 : decode cX12_least 52 = .ok (.putfield 133, 3) := by decide +kernel
theorem dX12_least_55 : decode cX12_least 55 = .ok (.iconst 0, 1) := by decide +kernel
theorem dX12_least_56 : decode cX12_least 56 = .ok (.istore 5, 2) := by decide +kernel
theorem dX12_least_58 : decode cX12_least 58 = .ok (.iload 5, 2) := by decide +kernel
theorem dX12_least_60 : decode cX12_least 60 = .ok (.iload_n 3, 1) := by decide +kernel
theorem dX12_least_61 : decode cX12_least 61 = .ok (.if_icmp .ge 27, 3) := by decide +kernel
theorem dX12_least_64 : decode cX12_least 64 = .ok (.aload_n 0, 1) := by decide +kernel
theorem dX12_least_65 : decode cX12_least 65 = .ok (.iload 5, 2) := by decide +kernel
theorem dX12_least_67 : decode cX12_least 67 = .ok (.invokevirtual 276, 3) := by decide +kernel
theorem dX12_least_70 : decode cX12_least 70 = .ok (.ifCond .eq 12, 3) := by decide +kernel
theorem dX12_least_73 : decode cX12_least 73 = .ok (.iload 4, 2) := by decide +kernel
theorem dX12_least_75 : decode cX12_least 75 = .ok (.istore_n 1, 1) := by decide +kernel
theorem dX12_least_76 : decode cX12_least 76 = .ok (.iload 5, 2) := by decide +kernel
theorem dX12_least_78 : decode cX12_least 78 = .ok (.istore_n 2, 1) := by decide +kernel
theorem dX12_least_79 : decode cX12_least 79 = .ok (.goto 9, 3) := by decide +kernel
theorem dX12_least_82 : decode cX12_least 82 = .ok (.iinc 5 1, 3) := by decide +kernel
theorem dX12_least_85 : decode cX12_least 85 = .ok (.goto (-27), 3) := by decide +kernel
theorem dX12_least_88 : decode cX12_least 88 = .ok (.iinc 4 1, 3) := by decide +kernel
theorem dX12_least_91 : decode cX12_least 91 = .ok (.goto (-74), 3) := by decide +kernel
theorem dX12_least_94 : decode cX12_least 94 = .ok (.aload_n 0, 1) := by decide +kernel
theorem dX12_least_95 : decode cX12_least 95 = .ok (.iconst 0, 1) := by decide +kernel
theorem dX12_least_96 : decode cX12_least 96 = .ok (.putfield 133, 3) := by decide +kernel
theorem dX12_least_99 : decode cX12_least 99 = .ok (.iload_n 1, 1) := by decide +kernel
theorem dX12_least_100 : decode cX12_least 100 = .ok (.ifCond .ge 6, 3) := by decide +kernel
theorem dX12_least_103 : decode cX12_least 103 = .ok (.bipush (-2), 2) := by decide +kernel
theorem dX12_least_105 : decode cX12_least 105 = .ok (.ireturn, 1) := by decide +kernel
theorem dX12_least_106 : decode cX12_least 106 = .ok (.aload_n 0, 1) := by decide +kernel
theorem dX12_least_107 : decode cX12_least 107 = .ok (.iconst 0, 1) := by decide +kernel
theorem dX12_least_108 : decode cX12_least 108 = .ok (.putfield 11, 3) := by decide +kernel
theorem dX12_least_111 : decode cX12_least 111 = .ok (.aload_n 0, 1) := by decide +kernel
theorem dX12_least_112 : decode cX12_least 112 = .ok (.iload_n 1, 1) := by decide +kernel
theorem dX12_least_113 : decode cX12_least 113 = .ok (.i2l, 1) := by decide +kernel
theorem dX12_least_114 : decode cX12_least 114 = .ok (.invokevirtual 18, 3) := by decide +kernel
theorem dX12_least_117 : decode cX12_least 117 = .ok (.aload_n 0, 1) := by decide +kernel
theorem dX12_least_118 : decode cX12_least 118 = .ok (.iload_n 2, 1) := by decide +kernel
theorem dX12_least_119 : decode cX12_least 119 = .ok (.i2l, 1) := by decide +kernel
theorem dX12_least_120 : decode cX12_least 120 = .ok (.invokevirtual 18, 3) := by decide +kernel
theorem dX12_least_123 : decode cX12_least 123 = .ok (.iload_n 1, 1) := by decide +kernel
theorem dX12_least_124 : decode cX12_least 124 = .ok (.invokestatic 289, 3) := by decide +kernel
theorem dX12_least_127 : decode cX12_least 127 = .ok (.ireturn, 1) := by decide +kernel
theorem dX12_onMany_0 : decode cX12_onMany 0 = .ok (.iconst 0, 1) := by decide +kernel
theorem dX12_onMany_1 : decode cX12_onMany 1 = .ok (.istore_n 2, 1) := by decide +kernel
theorem dX12_onMany_2 : decode cX12_onMany 2 = .ok (.iconst 0, 1) := by decide +kernel
theorem dX12_onMany_3 : decode cX12_onMany 3 = .ok (.istore_n 3, 1) := by decide +kernel
theorem dX12_onMany_4 : decode cX12_onMany 4 = .ok (.iload_n 3, 1) := by decide +kernel
theorem dX12_onMany_5 : decode cX12_onMany 5 = .ok (.aload_n 0, 1) := by decide +kernel
theorem dX12_onMany_6 : decode cX12_onMany 6 = .ok (.getfield 258, 3) := by decide +kernel
theorem dX12_onMany_9 : decode cX12_onMany 9 = .ok (.if_icmp .ge 34, 3) := by decide +kernel
theorem dX12_onMany_12 : decode cX12_onMany 12 = .ok (.iload_n 2, 1) := by decide +kernel
theorem dX12_onMany_13 : decode cX12_onMany 13 = .ok (.aload_n 0, 1) := by decide +kernel
theorem dX12_onMany_14 : decode cX12_onMany 14 = .ok (.getfield 250, 3) := by decide +kernel
theorem dX12_onMany_17 : decode cX12_onMany 17 = .ok (.iload_n 3, 1) := by decide +kernel
theorem dX12_onMany_18 : decode cX12_onMany 18 = .ok (.baload, 1) := by decide +kernel
theorem dX12_onMany_19 : decode cX12_onMany 19 = .ok (.ifCond .eq 12, 3) := by decide +kernel
theorem dX12_onMany_22 : decode cX12_onMany 22 = .ok (.iload_n 3, 1) := by decide +kernel
theorem dX12_onMany_23 : decode cX12_onMany 23 = .ok (.iload_n 1, 1) := by decide +kernel
theorem dX12_onMany_24 : decode cX12_onMany 24 = .ok (.if_icmp .eq 7, 3) := by decide +kernel
theorem dX12_onMany_27 : decode cX12_onMany 27 = .ok (.iconst 1, 1) := by decide +kernel
theorem dX12_onMany_28 : decode cX12_onMany 28 = .ok (.goto 4, 3) := by decide +kernel
theorem dX12_onMany_31 : decode cX12_onMany 31 = .ok (.iconst 0, 1) := by decide +kernel
theorem dX12_onMany_32 : decode cX12_onMany 32 = .ok (.invokestatic 39, 3) := by decide +kernel
theorem dX12_onMany_35 : decode cX12_onMany 35 = .ok (.iadd, 1) := by decide +kernel
theorem dX12_onMany_36 : decode cX12_onMany 36 = .ok (.istore_n 2, 1) := by decide +kernel
theorem dX12_onMany_37 : decode cX12_onMany 37 = .ok (.iinc 3 1, 3) := by decide +kernel
theorem dX12_onMany_40 : decode cX12_onMany 40 = .ok (.goto (-36), 3) := by decide +kernel
theorem dX12_onMany_43 : decode cX12_onMany 43 = .ok (.iload_n 2, 1) := by decide +kernel
theorem dX12_onMany_44 : decode cX12_onMany 44 = .ok (.ireturn, 1) := by decide +kernel
theorem dX12_weightOf_0 : decode cX12_weightOf 0 = .ok (.lconst 1, 1) := by decide +kernel
theorem dX12_weightOf_1 : decode cX12_weightOf 1 = .ok (.lstore_n 3, 1) := by decide +kernel
theorem dX12_weightOf_2 : decode cX12_weightOf 2 = .ok (.iconst 0, 1) := by decide +kernel
theorem dX12_weightOf_3 : decode cX12_weightOf 3 = .ok (.istore 5, 2) := by decide +kernel
theorem dX12_weightOf_5 : decode cX12_weightOf 5 = .ok (.iload 5, 2) := by decide +kernel
theorem dX12_weightOf_7 : decode cX12_weightOf 7 = .ok (.aload_n 0, 1) := by decide +kernel
theorem dX12_weightOf_8 : decode cX12_weightOf 8 = .ok (.getfield 258, 3) := by decide +kernel
theorem dX12_weightOf_11 : decode cX12_weightOf 11 = .ok (.if_icmp .ge 60, 3) := by decide +kernel
theorem dX12_weightOf_14 : decode cX12_weightOf 14 = .ok (.aload_n 0, 1) := by decide +kernel
theorem dX12_weightOf_15 : decode cX12_weightOf 15 = .ok (.getfield 250, 3) := by decide +kernel
theorem dX12_weightOf_18 : decode cX12_weightOf 18 = .ok (.iload 5, 2) := by decide +kernel
theorem dX12_weightOf_20 : decode cX12_weightOf 20 = .ok (.baload, 1) := by decide +kernel
theorem dX12_weightOf_21 : decode cX12_weightOf 21 = .ok (.ifCond .eq 44, 3) := by decide +kernel
theorem dX12_weightOf_24 : decode cX12_weightOf 24 = .ok (.iload 5, 2) := by decide +kernel
theorem dX12_weightOf_26 : decode cX12_weightOf 26 = .ok (.iload_n 2, 1) := by decide +kernel
theorem dX12_weightOf_27 : decode cX12_weightOf 27 = .ok (.if_icmp .eq 38, 3) := by decide +kernel
theorem dX12_weightOf_30 : decode cX12_weightOf 30 = .ok (.lload_n 3, 1) := by decide +kernel
theorem dX12_weightOf_31 : decode cX12_weightOf 31 = .ok (.aload_n 0, 1) := by decide +kernel
theorem dX12_weightOf_32 : decode cX12_weightOf 32 = .ok (.iload 5, 2) := by decide +kernel
theorem dX12_weightOf_34 : decode cX12_weightOf 34 = .ok (.iload_n 1, 1) := by decide +kernel
theorem dX12_weightOf_35 : decode cX12_weightOf 35 = .ok (.invokevirtual 270, 3) := by decide +kernel
theorem dX12_weightOf_38 : decode cX12_weightOf 38 = .ok (.ifCond .eq 14, 3) := by decide +kernel
theorem dX12_weightOf_41 : decode cX12_weightOf 41 = .ok (.aload_n 0, 1) := by decide +kernel
theorem dX12_weightOf_42 : decode cX12_weightOf 42 = .ok (.getfield 247, 3) := by decide +kernel
theorem dX12_weightOf_45 : decode cX12_weightOf 45 = .ok (.iload 5, 2) := by decide +kernel
theorem dX12_weightOf_47 : decode cX12_weightOf 47 = .ok (.iaload, 1) := by decide +kernel
theorem dX12_weightOf_48 : decode cX12_weightOf 48 = .ok (.i2l, 1) := by decide +kernel
theorem dX12_weightOf_49 : decode cX12_weightOf 49 = .ok (.goto 14, 3) := by decide +kernel
theorem dX12_weightOf_52 : decode cX12_weightOf 52 = .ok (.bipush 10, 2) := by decide +kernel
theorem dX12_weightOf_54 : decode cX12_weightOf 54 = .ok (.aload_n 0, 1) := by decide +kernel
theorem dX12_weightOf_55 : decode cX12_weightOf 55 = .ok (.getfield 247, 3) := by decide +kernel
theorem dX12_weightOf_58 : decode cX12_weightOf 58 = .ok (.iload 5, 2) := by decide +kernel
theorem dX12_weightOf_60 : decode cX12_weightOf 60 = .ok (.iaload, 1) := by decide +kernel
theorem dX12_weightOf_61 : decode cX12_weightOf 61 = .ok (.isub, 1) := by decide +kernel
theorem dX12_weightOf_62 : decode cX12_weightOf 62 = .ok (.i2l, 1) := by decide +kernel
theorem dX12_weightOf_63 : decode cX12_weightOf 63 = .ok (.lmul, 1) := by decide +kernel
theorem dX12_weightOf_64 : decode cX12_weightOf 64 = .ok (.lstore_n 3, 1) := by decide +kernel
theorem dX12_weightOf_65 : decode cX12_weightOf 65 = .ok (.iinc 5 1, 3) := by decide +kernel
theorem dX12_weightOf_68 : decode cX12_weightOf 68 = .ok (.goto (-63), 3) := by decide +kernel
theorem dX12_weightOf_71 : decode cX12_weightOf 71 = .ok (.lload_n 3, 1) := by decide +kernel
theorem dX12_weightOf_72 : decode cX12_weightOf 72 = .ok (.lreturn, 1) := by decide +kernel
theorem dX12_odds_0 : decode cX12_odds 0 = .ok (.aload_n 0, 1) := by decide +kernel
theorem dX12_odds_1 : decode cX12_odds 1 = .ok (.iconst 0, 1) := by decide +kernel
theorem dX12_odds_2 : decode cX12_odds 2 = .ok (.putfield 1, 3) := by decide +kernel
theorem dX12_odds_5 : decode cX12_odds 5 = .ok (.aload_n 0, 1) := by decide +kernel
theorem dX12_odds_6 : decode cX12_odds 6 = .ok (.iload_n 1, 1) := by decide +kernel
theorem dX12_odds_7 : decode cX12_odds 7 = .ok (.invokevirtual 265, 3) := by decide +kernel
theorem dX12_odds_10 : decode cX12_odds 10 = .ok (.ifCond .eq 13, 3) := by decide +kernel
theorem dX12_odds_13 : decode cX12_odds 13 = .ok (.aload_n 0, 1) := by decide +kernel
theorem dX12_odds_14 : decode cX12_odds 14 = .ok (.iload_n 1, 1) := by decide +kernel
theorem dX12_odds_15 : decode cX12_odds 15 = .ok (.invokevirtual 310, 3) := by decide +kernel
theorem dX12_odds_18 : decode cX12_odds 18 = .ok (.bipush 12, 2) := by decide +kernel
theorem dX12_odds_20 : decode cX12_odds 20 = .ok (.if_icmp .le 5, 3) := by decide +kernel
theorem dX12_odds_23 : decode cX12_odds 23 = .ok (.iconst (-1), 1) := by decide +kernel
theorem dX12_odds_24 : decode cX12_odds 24 = .ok (.ireturn, 1) := by decide +kernel
theorem dX12_odds_25 : decode cX12_odds 25 = .ok (.lconst 0, 1) := by decide +kernel
theorem dX12_odds_26 : decode cX12_odds 26 = .ok (.lstore_n 2, 1) := by decide +kernel
theorem dX12_odds_27 : decode cX12_odds 27 = .ok (.lconst 0, 1) := by decide +kernel
theorem dX12_odds_28 : decode cX12_odds 28 = .ok (.lstore 4, 2) := by decide +kernel
theorem dX12_odds_30 : decode cX12_odds 30 = .ok (.aload_n 0, 1) := by decide +kernel
theorem dX12_odds_31 : decode cX12_odds 31 = .ok (.invokevirtual 107, 3) := by decide +kernel
theorem dX12_odds_34 : decode cX12_odds 34 = .ok (.istore 6, 2) := by decide +kernel
theorem dX12_odds_36 : decode cX12_odds 36 = .ok (.iconst 0, 1) := by decide +kernel
theorem dX12_odds_37 : decode cX12_odds 37 = .ok (.istore 7, 2) := by decide +kernel
theorem dX12_odds_39 : decode cX12_odds 39 = .ok (.iload 7, 2) := by decide +kernel
theorem dX12_odds_41 : decode cX12_odds 41 = .ok (.iload 6, 2) := by decide +kernel
theorem dX12_odds_43 : decode cX12_odds 43 = .ok (.if_icmp .ge 44, 3) := by decide +kernel
theorem dX12_odds_46 : decode cX12_odds 46 = .ok (.aload_n 0, 1) := by decide +kernel
theorem dX12_odds_47 : decode cX12_odds 47 = .ok (.iload 7, 2) := by decide +kernel
theorem dX12_odds_49 : decode cX12_odds 49 = .ok (.iload_n 1, 1) := by decide +kernel
theorem dX12_odds_50 : decode cX12_odds 50 = .ok (.invokevirtual 313, 3) := by decide +kernel
theorem dX12_odds_53 : decode cX12_odds 53 = .ok (.lstore 8, 2) := by decide +kernel
theorem dX12_odds_55 : decode cX12_odds 55 = .ok (.lload 4, 2) := by decide +kernel
theorem dX12_odds_57 : decode cX12_odds 57 = .ok (.lload 8, 2) := by decide +kernel
theorem dX12_odds_59 : decode cX12_odds 59 = .ok (.ladd, 1) := by decide +kernel
theorem dX12_odds_60 : decode cX12_odds 60 = .ok (.lstore 4, 2) := by decide +kernel
theorem dX12_odds_62 : decode cX12_odds 62 = .ok (.lload_n 2, 1) := by decide +kernel
theorem dX12_odds_63 : decode cX12_odds 63 = .ok (.aload_n 0, 1) := by decide +kernel
theorem dX12_odds_64 : decode cX12_odds 64 = .ok (.iload_n 1, 1) := by decide +kernel
theorem dX12_odds_65 : decode cX12_odds 65 = .ok (.iload 7, 2) := by decide +kernel
theorem dX12_odds_67 : decode cX12_odds 67 = .ok (.invokevirtual 270, 3) := by decide +kernel
theorem dX12_odds_70 : decode cX12_odds 70 = .ok (.ifCond .eq 8, 3) := by decide +kernel
theorem dX12_odds_73 : decode cX12_odds 73 = .ok (.lload 8, 2) := by decide +kernel
theorem dX12_odds_75 : decode cX12_odds 75 = .ok (.goto 4, 3) := by decide +kernel
theorem dX12_odds_78 : decode cX12_odds 78 = .ok (.lconst 0, 1) := by decide +kernel
theorem dX12_odds_79 : decode cX12_odds 79 = .ok (.ladd, 1) := by decide +kernel
theorem dX12_odds_80 : decode cX12_odds 80 = .ok (.lstore_n 2, 1) := by decide +kernel
theorem dX12_odds_81 : decode cX12_odds 81 = .ok (.iinc 7 1, 3) := by decide +kernel
theorem dX12_odds_84 : decode cX12_odds 84 = .ok (.goto (-45), 3) := by decide +kernel
theorem dX12_odds_87 : decode cX12_odds 87 = .ok (.aload_n 0, 1) := by decide +kernel
theorem dX12_odds_88 : decode cX12_odds 88 = .ok (.iconst 0, 1) := by decide +kernel
theorem dX12_odds_89 : decode cX12_odds 89 = .ok (.putfield 11, 3) := by decide +kernel
theorem dX12_odds_92 : decode cX12_odds 92 = .ok (.aload_n 0, 1) := by decide +kernel
theorem dX12_odds_93 : decode cX12_odds 93 = .ok (.lload_n 2, 1) := by decide +kernel
theorem dX12_odds_94 : decode cX12_odds 94 = .ok (.lload 4, 2) := by decide +kernel
theorem dX12_odds_96 : decode cX12_odds 96 = .ok (.invokevirtual 213, 3) := by decide +kernel
theorem dX12_odds_99 : decode cX12_odds 99 = .ok (.iconst 0, 1) := by decide +kernel
theorem dX12_odds_100 : decode cX12_odds 100 = .ok (.ireturn, 1) := by decide +kernel
theorem dX12_weighsAll_0 : decode cX12_weighsAll 0 = .ok (.lconst 0, 1) := by decide +kernel
theorem dX12_weighsAll_1 : decode cX12_weighsAll 1 = .ok (.lstore_n 1, 1) := by decide +kernel
theorem dX12_weighsAll_2 : decode cX12_weighsAll 2 = .ok (.aload_n 0, 1) := by decide +kernel
theorem dX12_weighsAll_3 : decode cX12_weighsAll 3 = .ok (.invokevirtual 107, 3) := by decide +kernel
theorem dX12_weighsAll_6 : decode cX12_weighsAll 6 = .ok (.istore_n 3, 1) := by decide +kernel
theorem dX12_weighsAll_7 : decode cX12_weighsAll 7 = .ok (.iconst 0, 1) := by decide +kernel
theorem dX12_weighsAll_8 : decode cX12_weighsAll 8 = .ok (.istore 4, 2) := by decide +kernel
theorem dX12_weighsAll_10 : decode cX12_weighsAll 10 = .ok (.iload 4, 2) := by decide +kernel
theorem dX12_weighsAll_12 : decode cX12_weighsAll 12 = .ok (.iload_n 3, 1) := by decide +kernel
theorem dX12_weighsAll_13 : decode cX12_weighsAll 13 = .ok (.if_icmp .ge 33, 3) := by decide +kernel
theorem dX12_weighsAll_16 : decode cX12_weighsAll 16 = .ok (.aload_n 0, 1) := by decide +kernel
theorem dX12_weighsAll_17 : decode cX12_weighsAll 17 = .ok (.getfield 317, 3) := by decide +kernel
theorem dX12_weighsAll_20 : decode cX12_weighsAll 20 = .ok (.iload 4, 2) := by decide +kernel
theorem dX12_weighsAll_22 : decode cX12_weighsAll 22 = .ok (.aload_n 0, 1) := by decide +kernel
theorem dX12_weighsAll_23 : decode cX12_weighsAll 23 = .ok (.iload 4, 2) := by decide +kernel
theorem dX12_weighsAll_25 : decode cX12_weighsAll 25 = .ok (.iconst (-1), 1) := by decide +kernel
theorem dX12_weighsAll_26 : decode cX12_weighsAll 26 = .ok (.invokevirtual 313, 3) := by decide +kernel
theorem dX12_weighsAll_29 : decode cX12_weighsAll 29 = .ok (.lastore, 1) := by decide +kernel
theorem dX12_weighsAll_30 : decode cX12_weighsAll 30 = .ok (.lload_n 1, 1) := by decide +kernel
theorem dX12_weighsAll_31 : decode cX12_weighsAll 31 = .ok (.aload_n 0, 1) := by decide +kernel
theorem dX12_weighsAll_32 : decode cX12_weighsAll 32 = .ok (.getfield 317, 3) := by decide +kernel
theorem dX12_weighsAll_35 : decode cX12_weighsAll 35 = .ok (.iload 4, 2) := by decide +kernel
theorem dX12_weighsAll_37 : decode cX12_weighsAll 37 = .ok (.laload, 1) := by decide +kernel
theorem dX12_weighsAll_38 : decode cX12_weighsAll 38 = .ok (.ladd, 1) := by decide +kernel
theorem dX12_weighsAll_39 : decode cX12_weighsAll 39 = .ok (.lstore_n 1, 1) := by decide +kernel
theorem dX12_weighsAll_40 : decode cX12_weighsAll 40 = .ok (.iinc 4 1, 3) := by decide +kernel
theorem dX12_weighsAll_43 : decode cX12_weighsAll 43 = .ok (.goto (-33), 3) := by decide +kernel
theorem dX12_weighsAll_46 : decode cX12_weighsAll 46 = .ok (.lload_n 1, 1) := by decide +kernel
theorem dX12_weighsAll_47 : decode cX12_weighsAll 47 = .ok (.lreturn, 1) := by decide +kernel
theorem dX12_likeliest_0 : decode cX12_likeliest 0 = .ok (.aload_n 0, 1) := by decide +kernel
theorem dX12_likeliest_1 : decode cX12_likeliest 1 = .ok (.iconst 0, 1) := by decide +kernel
theorem dX12_likeliest_2 : decode cX12_likeliest 2 = .ok (.putfield 294, 3) := by decide +kernel
theorem dX12_likeliest_5 : decode cX12_likeliest 5 = .ok (.aload_n 0, 1) := by decide +kernel
theorem dX12_likeliest_6 : decode cX12_likeliest 6 = .ok (.invokevirtual 107, 3) := by decide +kernel
theorem dX12_likeliest_9 : decode cX12_likeliest 9 = .ok (.istore 4, 2) := by decide +kernel
theorem dX12_likeliest_11 : decode cX12_likeliest 11 = .ok (.iconst 0, 1) := by decide +kernel
theorem dX12_likeliest_12 : decode cX12_likeliest 12 = .ok (.istore 5, 2) := by decide +kernel
theorem dX12_likeliest_14 : decode cX12_likeliest 14 = .ok (.iload 5, 2) := by decide +kernel
theorem dX12_likeliest_16 : decode cX12_likeliest 16 = .ok (.iload 4, 2) := by decide +kernel
theorem dX12_likeliest_18 : decode cX12_likeliest 18 = .ok (.if_icmp .ge 35, 3) := by decide +kernel
theorem dX12_likeliest_21 : decode cX12_likeliest 21 = .ok (.aload_n 0, 1) := by decide +kernel
theorem dX12_likeliest_22 : decode cX12_likeliest 22 = .ok (.iconst 0, 1) := by decide +kernel
theorem dX12_likeliest_23 : decode cX12_likeliest 23 = .ok (.iload_n 1, 1) := by decide +kernel
theorem dX12_likeliest_24 : decode cX12_likeliest 24 = .ok (.iload 5, 2) := by decide +kernel
theorem dX12_likeliest_26 : decode cX12_likeliest 26 = .ok (.iload_n 2, 1) := by decide +kernel
theorem dX12_likeliest_27 : decode cX12_likeliest 27 = .ok (.iload_n 3, 1) := by decide +kernel
theorem dX12_likeliest_28 : decode cX12_likeliest 28 = .ok (.invokevirtual 200, 3) := by decide +kernel
theorem dX12_likeliest_31 : decode cX12_likeliest 31 = .ok (.aload_n 0, 1) := by decide +kernel
theorem dX12_likeliest_32 : decode cX12_likeliest 32 = .ok (.aload_n 0, 1) := by decide +kernel
theorem dX12_likeliest_33 : decode cX12_likeliest 33 = .ok (.iconst 0, 1) := by decide +kernel
theorem dX12_likeliest_34 : decode cX12_likeliest 34 = .ok (.invokevirtual 303, 3) := by decide +kernel
theorem dX12_likeliest_37 : decode cX12_likeliest 37 = .ok (.aload_n 0, 1) := by decide +kernel
theorem dX12_likeliest_38 : decode cX12_likeliest 38 = .ok (.getfield 317, 3) := by decide +kernel
theorem dX12_likeliest_41 : decode cX12_likeliest 41 = .ok (.iload 5, 2) := by decide +kernel
theorem dX12_likeliest_43 : decode cX12_likeliest 43 = .ok (.laload, 1) := by decide +kernel
theorem dX12_likeliest_44 : decode cX12_likeliest 44 = .ok (.invokevirtual 307, 3) := by decide +kernel
theorem dX12_likeliest_47 : decode cX12_likeliest 47 = .ok (.iinc 5 1, 3) := by decide +kernel
theorem dX12_likeliest_50 : decode cX12_likeliest 50 = .ok (.goto (-36), 3) := by decide +kernel
theorem dX12_likeliest_53 : decode cX12_likeliest 53 = .ok (.iconst 0, 1) := by decide +kernel
theorem dX12_likeliest_54 : decode cX12_likeliest 54 = .ok (.istore 5, 2) := by decide +kernel
theorem dX12_likeliest_56 : decode cX12_likeliest 56 = .ok (.iconst 1, 1) := by decide +kernel
theorem dX12_likeliest_57 : decode cX12_likeliest 57 = .ok (.istore 6, 2) := by decide +kernel
theorem dX12_likeliest_59 : decode cX12_likeliest 59 = .ok (.iload 6, 2) := by decide +kernel
theorem dX12_likeliest_61 : decode cX12_likeliest 61 = .ok (.aload_n 0, 1) := by decide +kernel
theorem dX12_likeliest_62 : decode cX12_likeliest 62 = .ok (.getfield 294, 3) := by decide +kernel
theorem dX12_likeliest_65 : decode cX12_likeliest 65 = .ok (.if_icmp .ge 36, 3) := by decide +kernel
theorem dX12_likeliest_68 : decode cX12_likeliest 68 = .ok (.aload_n 0, 1) := by decide +kernel
theorem dX12_likeliest_69 : decode cX12_likeliest 69 = .ok (.getfield 300, 3) := by decide +kernel
theorem dX12_likeliest_72 : decode cX12_likeliest 72 = .ok (.iload 6, 2) := by decide +kernel
theorem dX12_likeliest_74 : decode cX12_likeliest 74 = .ok (.laload, 1) := by decide +kernel
theorem dX12_likeliest_75 : decode cX12_likeliest 75 = .ok (.aload_n 0, 1) := by decide +kernel
theorem dX12_likeliest_76 : decode cX12_likeliest 76 = .ok (.getfield 300, 3) := by decide +kernel
theorem dX12_likeliest_79 : decode cX12_likeliest 79 = .ok (.iload 5, 2) := by decide +kernel
theorem dX12_likeliest_81 : decode cX12_likeliest 81 = .ok (.laload, 1) := by decide +kernel
theorem dX12_likeliest_82 : decode cX12_likeliest 82 = .ok (.lcmp, 1) := by decide +kernel
theorem dX12_likeliest_83 : decode cX12_likeliest 83 = .ok (.ifCond .le 8, 3) := by decide +kernel
theorem dX12_likeliest_86 : decode cX12_likeliest 86 = .ok (.iload 6, 2) := by decide +kernel
theorem dX12_likeliest_88 : decode cX12_likeliest 88 = .ok (.goto 5, 3) := by decide +kernel
theorem dX12_likeliest_91 : decode cX12_likeliest 91 = .ok (.iload 5, 2) := by decide +kernel
theorem dX12_likeliest_93 : decode cX12_likeliest 93 = .ok (.istore 5, 2) := by decide +kernel
theorem dX12_likeliest_95 : decode cX12_likeliest 95 = .ok (.iinc 6 1, 3) := by decide +kernel
theorem dX12_likeliest_98 : decode cX12_likeliest 98 = .ok (.goto (-39), 3) := by decide +kernel
theorem dX12_likeliest_101 : decode cX12_likeliest 101 = .ok (.iload 5, 2) := by decide +kernel
theorem dX12_likeliest_103 : decode cX12_likeliest 103 = .ok (.ireturn, 1) := by decide +kernel
theorem dX12_then_0 : decode cX12_then 0 = .ok (.aload_n 0, 1) := by decide +kernel
theorem dX12_then_1 : decode cX12_then 1 = .ok (.iconst 0, 1) := by decide +kernel
theorem dX12_then_2 : decode cX12_then 2 = .ok (.putfield 1, 3) := by decide +kernel
theorem dX12_then_5 : decode cX12_then 5 = .ok (.aload_n 0, 1) := by decide +kernel
theorem dX12_then_6 : decode cX12_then 6 = .ok (.iload_n 1, 1) := by decide +kernel
theorem dX12_then_7 : decode cX12_then 7 = .ok (.invokevirtual 191, 3) := by decide +kernel
theorem dX12_then_10 : decode cX12_then 10 = .ok (.ifCond .eq 21, 3) := by decide +kernel
theorem dX12_then_13 : decode cX12_then 13 = .ok (.iload_n 2, 1) := by decide +kernel
theorem dX12_then_14 : decode cX12_then 14 = .ok (.iload_n 3, 1) := by decide +kernel
theorem dX12_then_15 : decode cX12_then 15 = .ok (.invokestatic 197, 3) := by decide +kernel
theorem dX12_then_18 : decode cX12_then 18 = .ok (.ifCond .eq 13, 3) := by decide +kernel
theorem dX12_then_21 : decode cX12_then 21 = .ok (.aload_n 0, 1) := by decide +kernel
theorem dX12_then_22 : decode cX12_then 22 = .ok (.iconst (-1), 1) := by decide +kernel
theorem dX12_then_23 : decode cX12_then 23 = .ok (.invokevirtual 310, 3) := by decide +kernel
theorem dX12_then_26 : decode cX12_then 26 = .ok (.bipush 12, 2) := by decide +kernel
theorem dX12_then_28 : decode cX12_then 28 = .ok (.if_icmp .le 5, 3) := by decide +kernel
theorem dX12_then_31 : decode cX12_then 31 = .ok (.iconst (-1), 1) := by decide +kernel
theorem dX12_then_32 : decode cX12_then 32 = .ok (.ireturn, 1) := by decide +kernel
theorem dX12_then_33 : decode cX12_then 33 = .ok (.aload_n 0, 1) := by decide +kernel
theorem dX12_then_34 : decode cX12_then 34 = .ok (.invokevirtual 320, 3) := by decide +kernel
theorem dX12_then_37 : decode cX12_then 37 = .ok (.lstore 4, 2) := by decide +kernel
theorem dX12_then_39 : decode cX12_then 39 = .ok (.aload_n 0, 1) := by decide +kernel
theorem dX12_then_40 : decode cX12_then 40 = .ok (.iload_n 1, 1) := by decide +kernel
theorem dX12_then_41 : decode cX12_then 41 = .ok (.iload_n 2, 1) := by decide +kernel
theorem dX12_then_42 : decode cX12_then 42 = .ok (.iload_n 3, 1) := by decide +kernel
theorem dX12_then_43 : decode cX12_then 43 = .ok (.invokevirtual 324, 3) := by decide +kernel
theorem dX12_then_46 : decode cX12_then 46 = .ok (.istore 6, 2) := by decide +kernel
theorem dX12_then_48 : decode cX12_then 48 = .ok (.aload_n 0, 1) := by decide +kernel
theorem dX12_then_49 : decode cX12_then 49 = .ok (.getfield 297, 3) := by decide +kernel
theorem dX12_then_52 : decode cX12_then 52 = .ok (.iload 6, 2) := by decide +kernel
theorem dX12_then_54 : decode cX12_then 54 = .ok (.laload, 1) := by decide +kernel
theorem dX12_then_55 : decode cX12_then 55 = .ok (.invokestatic 328, 3) := by decide +kernel
theorem dX12_then_58 : decode cX12_then 58 = .ok (.istore 7, 2) := by decide +kernel
theorem dX12_then_60 : decode cX12_then 60 = .ok (.aload_n 0, 1) := by decide +kernel
theorem dX12_then_61 : decode cX12_then 61 = .ok (.iconst 0, 1) := by decide +kernel
theorem dX12_then_62 : decode cX12_then 62 = .ok (.putfield 11, 3) := by decide +kernel
theorem dX12_then_65 : decode cX12_then 65 = .ok (.aload_n 0, 1) := by decide +kernel
theorem dX12_then_66 : decode cX12_then 66 = .ok (.aload_n 0, 1) := by decide +kernel
theorem dX12_then_67 : decode cX12_then 67 = .ok (.getfield 300, 3) := by decide +kernel
theorem dX12_then_70 : decode cX12_then 70 = .ok (.iload 6, 2) := by decide +kernel
theorem dX12_then_72 : decode cX12_then 72 = .ok (.laload, 1) := by decide +kernel
theorem dX12_then_73 : decode cX12_then 73 = .ok (.lload 4, 2) := by decide +kernel
theorem dX12_then_75 : decode cX12_then 75 = .ok (.invokevirtual 213, 3) := by decide +kernel
theorem dX12_then_78 : decode cX12_then 78 = .ok (.iload 7, 2) := by decide +kernel
theorem dX12_then_80 : decode cX12_then 80 = .ok (.iconst 1, 1) := by decide +kernel
theorem dX12_then_81 : decode cX12_then 81 = .ok (.isub, 1) := by decide +kernel
theorem dX12_then_82 : decode cX12_then 82 = .ok (.istore 8, 2) := by decide +kernel
theorem dX12_then_84 : decode cX12_then 84 = .ok (.iload 8, 2) := by decide +kernel
theorem dX12_then_86 : decode cX12_then 86 = .ok (.ifCond .lt 29, 3) := by decide +kernel
theorem dX12_then_89 : decode cX12_then 89 = .ok (.aload_n 0, 1) := by decide +kernel
theorem dX12_then_90 : decode cX12_then 90 = .ok (.aload_n 0, 1) := by decide +kernel
theorem dX12_then_91 : decode cX12_then 91 = .ok (.getfield 297, 3) := by decide +kernel
theorem dX12_then_94 : decode cX12_then 94 = .ok (.iload 6, 2) := by decide +kernel
theorem dX12_then_96 : decode cX12_then 96 = .ok (.laload, 1) := by decide +kernel
theorem dX12_then_97 : decode cX12_then 97 = .ok (.iconst 4, 1) := by decide +kernel
theorem dX12_then_98 : decode cX12_then 98 = .ok (.iload 8, 2) := by decide +kernel
theorem dX12_then_100 : decode cX12_then 100 = .ok (.imul, 1) := by decide +kernel
theorem dX12_then_101 : decode cX12_then 101 = .ok (.lshr, 1) := by decide +kernel
theorem dX12_then_102 : decode cX12_then 102 = .ok (.ldc2_w 332, 3) := by decide +kernel
theorem dX12_then_105 : decode cX12_then 105 = .ok (.land, 1) := by decide +kernel
theorem dX12_then_106 : decode cX12_then 106 = .ok (.invokevirtual 18, 3) := by decide +kernel
theorem dX12_then_109 : decode cX12_then 109 = .ok (.iinc 8 (-1), 3) := by decide +kernel
theorem dX12_then_112 : decode cX12_then 112 = .ok (.goto (-28), 3) := by decide +kernel
theorem dX12_then_115 : decode cX12_then 115 = .ok (.iload 7, 2) := by decide +kernel
theorem dX12_then_117 : decode cX12_then 117 = .ok (.ireturn, 1) := by decide +kernel
theorem dX12_right_0 : decode cX12_right 0 = .ok (.aload_n 0, 1) := by decide +kernel
theorem dX12_right_1 : decode cX12_right 1 = .ok (.iconst 0, 1) := by decide +kernel
theorem dX12_right_2 : decode cX12_right 2 = .ok (.putfield 1, 3) := by decide +kernel
theorem dX12_right_5 : decode cX12_right 5 = .ok (.aload_n 0, 1) := by decide +kernel
theorem dX12_right_6 : decode cX12_right 6 = .ok (.iload_n 1, 1) := by decide +kernel
theorem dX12_right_7 : decode cX12_right 7 = .ok (.invokevirtual 194, 3) := by decide +kernel
theorem dX12_right_10 : decode cX12_right 10 = .ok (.ifCond .eq 21, 3) := by decide +kernel
theorem dX12_right_13 : decode cX12_right 13 = .ok (.iload_n 2, 1) := by decide +kernel
theorem dX12_right_14 : decode cX12_right 14 = .ok (.iload_n 3, 1) := by decide +kernel
theorem dX12_right_15 : decode cX12_right 15 = .ok (.invokestatic 197, 3) := by decide +kernel
theorem dX12_right_18 : decode cX12_right 18 = .ok (.ifCond .eq 13, 3) := by decide +kernel
theorem dX12_right_21 : decode cX12_right 21 = .ok (.aload_n 0, 1) := by decide +kernel
theorem dX12_right_22 : decode cX12_right 22 = .ok (.iconst (-1), 1) := by decide +kernel
theorem dX12_right_23 : decode cX12_right 23 = .ok (.invokevirtual 310, 3) := by decide +kernel
theorem dX12_right_26 : decode cX12_right 26 = .ok (.bipush 12, 2) := by decide +kernel
theorem dX12_right_28 : decode cX12_right 28 = .ok (.if_icmp .le 5, 3) := by decide +kernel
theorem dX12_right_31 : decode cX12_right 31 = .ok (.iconst (-1), 1) := by decide +kernel
theorem dX12_right_32 : decode cX12_right 32 = .ok (.ireturn, 1) := by decide +kernel
theorem dX12_right_33 : decode cX12_right 33 = .ok (.aload_n 0, 1) := by decide +kernel
theorem dX12_right_34 : decode cX12_right 34 = .ok (.invokevirtual 320, 3) := by decide +kernel
theorem dX12_right_37 : decode cX12_right 37 = .ok (.pop2, 1) := by decide +kernel
theorem dX12_right_38 : decode cX12_right 38 = .ok (.iconst 0, 1) := by decide +kernel
theorem dX12_right_39 : decode cX12_right 39 = .ok (.istore 4, 2) := by decide +kernel
theorem dX12_right_41 : decode cX12_right 41 = .ok (.iconst 0, 1) := by decide +kernel
theorem dX12_right_42 : decode cX12_right 42 = .ok (.istore 5, 2) := by decide +kernel
theorem dX12_right_44 : decode cX12_right 44 = .ok (.iload 5, 2) := by decide +kernel
theorem dX12_right_46 : decode cX12_right 46 = .ok (.aload_n 0, 1) := by decide +kernel
theorem dX12_right_47 : decode cX12_right 47 = .ok (.getfield 75, 3) := by decide +kernel
theorem dX12_right_50 : decode cX12_right 50 = .ok (.if_icmp .ge 58, 3) := by decide +kernel
theorem dX12_right_53 : decode cX12_right 53 = .ok (.aload_n 0, 1) := by decide +kernel
theorem dX12_right_54 : decode cX12_right 54 = .ok (.iload 5, 2) := by decide +kernel
theorem dX12_right_56 : decode cX12_right 56 = .ok (.iload_n 2, 1) := by decide +kernel
theorem dX12_right_57 : decode cX12_right 57 = .ok (.iload_n 3, 1) := by decide +kernel
theorem dX12_right_58 : decode cX12_right 58 = .ok (.invokevirtual 324, 3) := by decide +kernel
theorem dX12_right_61 : decode cX12_right 61 = .ok (.istore 6, 2) := by decide +kernel
theorem dX12_right_63 : decode cX12_right 63 = .ok (.aload_n 0, 1) := by decide +kernel
theorem dX12_right_64 : decode cX12_right 64 = .ok (.iconst 0, 1) := by decide +kernel
theorem dX12_right_65 : decode cX12_right 65 = .ok (.iload 5, 2) := by decide +kernel
theorem dX12_right_67 : decode cX12_right 67 = .ok (.iload_n 1, 1) := by decide +kernel
theorem dX12_right_68 : decode cX12_right 68 = .ok (.iload_n 2, 1) := by decide +kernel
theorem dX12_right_69 : decode cX12_right 69 = .ok (.iload_n 3, 1) := by decide +kernel
theorem dX12_right_70 : decode cX12_right 70 = .ok (.invokevirtual 200, 3) := by decide +kernel
theorem dX12_right_73 : decode cX12_right 73 = .ok (.iload 4, 2) := by decide +kernel
theorem dX12_right_75 : decode cX12_right 75 = .ok (.aload_n 0, 1) := by decide +kernel
theorem dX12_right_76 : decode cX12_right 76 = .ok (.iconst 0, 1) := by decide +kernel
theorem dX12_right_77 : decode cX12_right 77 = .ok (.invokevirtual 303, 3) := by decide +kernel
theorem dX12_right_80 : decode cX12_right 80 = .ok (.aload_n 0, 1) := by decide +kernel
theorem dX12_right_81 : decode cX12_right 81 = .ok (.getfield 297, 3) := by decide +kernel
theorem dX12_right_84 : decode cX12_right 84 = .ok (.iload 6, 2) := by decide +kernel
theorem dX12_right_86 : decode cX12_right 86 = .ok (.laload, 1) := by decide +kernel
theorem dX12_right_87 : decode cX12_right 87 = .ok (.lcmp, 1) := by decide +kernel
theorem dX12_right_88 : decode cX12_right 88 = .ok (.ifCond .ne 10, 3) := by decide +kernel
theorem dX12_right_91 : decode cX12_right 91 = .ok (.iconst 1, 1) := by decide +kernel
theorem dX12_right_92 : decode cX12_right 92 = .ok (.iload 5, 2) := by decide +kernel
theorem dX12_right_94 : decode cX12_right 94 = .ok (.ishl, 1) := by decide +kernel
theorem dX12_right_95 : decode cX12_right 95 = .ok (.goto 4, 3) := by decide +kernel
theorem dX12_right_98 : decode cX12_right 98 = .ok (.iconst 0, 1) := by decide +kernel
theorem dX12_right_99 : decode cX12_right 99 = .ok (.ior, 1) := by decide +kernel
theorem dX12_right_100 : decode cX12_right 100 = .ok (.istore 4, 2) := by decide +kernel
theorem dX12_right_102 : decode cX12_right 102 = .ok (.iinc 5 1, 3) := by decide +kernel
theorem dX12_right_105 : decode cX12_right 105 = .ok (.goto (-61), 3) := by decide +kernel
theorem dX12_right_108 : decode cX12_right 108 = .ok (.aload_n 0, 1) := by decide +kernel
theorem dX12_right_109 : decode cX12_right 109 = .ok (.iconst 0, 1) := by decide +kernel
theorem dX12_right_110 : decode cX12_right 110 = .ok (.putfield 11, 3) := by decide +kernel
theorem dX12_right_113 : decode cX12_right 113 = .ok (.aload_n 0, 1) := by decide +kernel
theorem dX12_right_114 : decode cX12_right 114 = .ok (.iload 4, 2) := by decide +kernel
theorem dX12_right_116 : decode cX12_right 116 = .ok (.i2l, 1) := by decide +kernel
theorem dX12_right_117 : decode cX12_right 117 = .ok (.invokevirtual 18, 3) := by decide +kernel
theorem dX12_right_120 : decode cX12_right 120 = .ok (.iload 4, 2) := by decide +kernel
theorem dX12_right_122 : decode cX12_right 122 = .ok (.invokestatic 289, 3) := by decide +kernel
theorem dX12_right_125 : decode cX12_right 125 = .ok (.ireturn, 1) := by decide +kernel
theorem dX12_likely_0 : decode cX12_likely 0 = .ok (.aload_n 0, 1) := by decide +kernel
theorem dX12_likely_1 : decode cX12_likely 1 = .ok (.iconst 0, 1) := by decide +kernel
theorem dX12_likely_2 : decode cX12_likely 2 = .ok (.putfield 1, 3) := by decide +kernel
theorem dX12_likely_5 : decode cX12_likely 5 = .ok (.aload_n 0, 1) := by decide +kernel
theorem dX12_likely_6 : decode cX12_likely 6 = .ok (.iconst (-1), 1) := by decide +kernel
theorem dX12_likely_7 : decode cX12_likely 7 = .ok (.invokevirtual 310, 3) := by decide +kernel
theorem dX12_likely_10 : decode cX12_likely 10 = .ok (.bipush 12, 2) := by decide +kernel
theorem dX12_likely_12 : decode cX12_likely 12 = .ok (.if_icmp .le 5, 3) := by decide +kernel
theorem dX12_likely_15 : decode cX12_likely 15 = .ok (.iconst (-1), 1) := by decide +kernel
theorem dX12_likely_16 : decode cX12_likely 16 = .ok (.ireturn, 1) := by decide +kernel
theorem dX12_likely_17 : decode cX12_likely 17 = .ok (.aload_n 0, 1) := by decide +kernel
theorem dX12_likely_18 : decode cX12_likely 18 = .ok (.invokevirtual 320, 3) := by decide +kernel
theorem dX12_likely_21 : decode cX12_likely 21 = .ok (.lstore_n 1, 1) := by decide +kernel
theorem dX12_likely_22 : decode cX12_likely 22 = .ok (.iconst 0, 1) := by decide +kernel
theorem dX12_likely_23 : decode cX12_likely 23 = .ok (.istore_n 3, 1) := by decide +kernel
theorem dX12_likely_24 : decode cX12_likely 24 = .ok (.aload_n 0, 1) := by decide +kernel
theorem dX12_likely_25 : decode cX12_likely 25 = .ok (.invokevirtual 107, 3) := by decide +kernel
theorem dX12_likely_28 : decode cX12_likely 28 = .ok (.istore 4, 2) := by decide +kernel
theorem dX12_likely_30 : decode cX12_likely 30 = .ok (.iconst 1, 1) := by decide +kernel
theorem dX12_likely_31 : decode cX12_likely 31 = .ok (.istore 5, 2) := by decide +kernel
theorem dX12_likely_33 : decode cX12_likely 33 = .ok (.iload 5, 2) := by decide +kernel
theorem dX12_likely_35 : decode cX12_likely 35 = .ok (.iload 4, 2) := by decide +kernel
theorem dX12_likely_37 : decode cX12_likely 37 = .ok (.if_icmp .ge 33, 3) := by decide +kernel
theorem dX12_likely_40 : decode cX12_likely 40 = .ok (.aload_n 0, 1) := by decide +kernel
theorem dX12_likely_41 : decode cX12_likely 41 = .ok (.getfield 317, 3) := by decide +kernel
theorem dX12_likely_44 : decode cX12_likely 44 = .ok (.iload 5, 2) := by decide +kernel
theorem dX12_likely_46 : decode cX12_likely 46 = .ok (.laload, 1) := by decide +kernel
theorem dX12_likely_47 : decode cX12_likely 47 = .ok (.aload_n 0, 1) := by decide +kernel
theorem dX12_likely_48 : decode cX12_likely 48 = .ok (.getfield 317, 3) := by decide +kernel
theorem dX12_likely_51 : decode cX12_likely 51 = .ok (.iload_n 3, 1) := by decide +kernel
theorem dX12_likely_52 : decode cX12_likely 52 = .ok (.laload, 1) := by decide +kernel
theorem dX12_likely_53 : decode cX12_likely 53 = .ok (.lcmp, 1) := by decide +kernel
theorem dX12_likely_54 : decode cX12_likely 54 = .ok (.ifCond .le 8, 3) := by decide +kernel
theorem dX12_likely_57 : decode cX12_likely 57 = .ok (.iload 5, 2) := by decide +kernel
theorem dX12_likely_59 : decode cX12_likely 59 = .ok (.goto 4, 3) := by decide +kernel
theorem dX12_likely_62 : decode cX12_likely 62 = .ok (.iload_n 3, 1) := by decide +kernel
theorem dX12_likely_63 : decode cX12_likely 63 = .ok (.istore_n 3, 1) := by decide +kernel
theorem dX12_likely_64 : decode cX12_likely 64 = .ok (.iinc 5 1, 3) := by decide +kernel
theorem dX12_likely_67 : decode cX12_likely 67 = .ok (.goto (-34), 3) := by decide +kernel
theorem dX12_likely_70 : decode cX12_likely 70 = .ok (.aload_n 0, 1) := by decide +kernel
theorem dX12_likely_71 : decode cX12_likely 71 = .ok (.iconst 0, 1) := by decide +kernel
theorem dX12_likely_72 : decode cX12_likely 72 = .ok (.putfield 11, 3) := by decide +kernel
theorem dX12_likely_75 : decode cX12_likely 75 = .ok (.aload_n 0, 1) := by decide +kernel
theorem dX12_likely_76 : decode cX12_likely 76 = .ok (.aload_n 0, 1) := by decide +kernel
theorem dX12_likely_77 : decode cX12_likely 77 = .ok (.getfield 317, 3) := by decide +kernel
theorem dX12_likely_80 : decode cX12_likely 80 = .ok (.iload_n 3, 1) := by decide +kernel
theorem dX12_likely_81 : decode cX12_likely 81 = .ok (.laload, 1) := by decide +kernel
theorem dX12_likely_82 : decode cX12_likely 82 = .ok (.lload_n 1, 1) := by decide +kernel
theorem dX12_likely_83 : decode cX12_likely 83 = .ok (.invokevirtual 213, 3) := by decide +kernel
theorem dX12_likely_86 : decode cX12_likely 86 = .ok (.iload_n 3, 1) := by decide +kernel
theorem dX12_likely_87 : decode cX12_likely 87 = .ok (.ireturn, 1) := by decide +kernel
theorem dX12_heldBy_0 : decode cX12_heldBy 0 = .ok (.iconst 0, 1) := by decide +kernel
theorem dX12_heldBy_1 : decode cX12_heldBy 1 = .ok (.istore_n 2, 1) := by decide +kernel
theorem dX12_heldBy_2 : decode cX12_heldBy 2 = .ok (.iconst 0, 1) := by decide +kernel
theorem dX12_heldBy_3 : decode cX12_heldBy 3 = .ok (.istore_n 3, 1) := by decide +kernel
theorem dX12_heldBy_4 : decode cX12_heldBy 4 = .ok (.iload_n 3, 1) := by decide +kernel
theorem dX12_heldBy_5 : decode cX12_heldBy 5 = .ok (.aload_n 0, 1) := by decide +kernel
theorem dX12_heldBy_6 : decode cX12_heldBy 6 = .ok (.getfield 273, 3) := by decide +kernel
theorem dX12_heldBy_9 : decode cX12_heldBy 9 = .ok (.if_icmp .ge 26, 3) := by decide +kernel
theorem dX12_heldBy_12 : decode cX12_heldBy 12 = .ok (.iload_n 2, 1) := by decide +kernel
theorem dX12_heldBy_13 : decode cX12_heldBy 13 = .ok (.aload_n 0, 1) := by decide +kernel
theorem dX12_heldBy_14 : decode cX12_heldBy 14 = .ok (.iload_n 1, 1) := by decide +kernel
theorem dX12_heldBy_15 : decode cX12_heldBy 15 = .ok (.aload_n 0, 1) := by decide +kernel
theorem dX12_heldBy_16 : decode cX12_heldBy 16 = .ok (.getfield 279, 3) := by decide +kernel
theorem dX12_heldBy_19 : decode cX12_heldBy 19 = .ok (.iload_n 3, 1) := by decide +kernel
theorem dX12_heldBy_20 : decode cX12_heldBy 20 = .ok (.iaload, 1) := by decide +kernel
theorem dX12_heldBy_21 : decode cX12_heldBy 21 = .ok (.invokevirtual 270, 3) := by decide +kernel
theorem dX12_heldBy_24 : decode cX12_heldBy 24 = .ok (.invokestatic 39, 3) := by decide +kernel
theorem dX12_heldBy_27 : decode cX12_heldBy 27 = .ok (.iadd, 1) := by decide +kernel
theorem dX12_heldBy_28 : decode cX12_heldBy 28 = .ok (.istore_n 2, 1) := by decide +kernel
theorem dX12_heldBy_29 : decode cX12_heldBy 29 = .ok (.iinc 3 1, 3) := by decide +kernel
theorem dX12_heldBy_32 : decode cX12_heldBy 32 = .ok (.goto (-28), 3) := by decide +kernel
theorem dX12_heldBy_35 : decode cX12_heldBy 35 = .ok (.iload_n 2, 1) := by decide +kernel
theorem dX12_heldBy_36 : decode cX12_heldBy 36 = .ok (.ireturn, 1) := by decide +kernel
theorem dX12_next_0 : decode cX12_next 0 = .ok (.aload_n 0, 1) := by decide +kernel
theorem dX12_next_1 : decode cX12_next 1 = .ok (.iconst 0, 1) := by decide +kernel
theorem dX12_next_2 : decode cX12_next 2 = .ok (.putfield 1, 3) := by decide +kernel
theorem dX12_next_5 : decode cX12_next 5 = .ok (.aload_n 0, 1) := by decide +kernel
theorem dX12_next_6 : decode cX12_next 6 = .ok (.iconst (-1), 1) := by decide +kernel
theorem dX12_next_7 : decode cX12_next 7 = .ok (.invokevirtual 310, 3) := by decide +kernel
theorem dX12_next_10 : decode cX12_next 10 = .ok (.aload_n 0, 1) := by decide +kernel
theorem dX12_next_11 : decode cX12_next 11 = .ok (.getfield 258, 3) := by decide +kernel
theorem dX12_next_14 : decode cX12_next 14 = .ok (.if_icmp .ne 5, 3) := by decide +kernel
theorem dX12_next_17 : decode cX12_next 17 = .ok (.iconst (-1), 1) := by decide +kernel
theorem dX12_next_18 : decode cX12_next 18 = .ok (.ireturn, 1) := by decide +kernel
theorem dX12_next_19 : decode cX12_next 19 = .ok (.aload_n 0, 1) := by decide +kernel
theorem dX12_next_20 : decode cX12_next 20 = .ok (.invokevirtual 282, 3) := by decide +kernel
theorem dX12_next_23 : decode cX12_next 23 = .ok (.aload_n 0, 1) := by decide +kernel
theorem dX12_next_24 : decode cX12_next 24 = .ok (.getfield 273, 3) := by decide +kernel
theorem dX12_next_27 : decode cX12_next 27 = .ok (.ifCond .ne 6, 3) := by decide +kernel
theorem dX12_next_30 : decode cX12_next 30 = .ok (.bipush (-2), 2) := by decide +kernel
theorem dX12_next_32 : decode cX12_next 32 = .ok (.ireturn, 1) := by decide +kernel
theorem dX12_next_33 : decode cX12_next 33 = .ok (.iconst (-1), 1) := by decide +kernel
theorem dX12_next_34 : decode cX12_next 34 = .ok (.istore_n 1, 1) := by decide +kernel
theorem dX12_next_35 : decode cX12_next 35 = .ok (.iconst 0, 1) := by decide +kernel
theorem dX12_next_36 : decode cX12_next 36 = .ok (.istore_n 2, 1) := by decide +kernel
theorem dX12_next_37 : decode cX12_next 37 = .ok (.iconst 0, 1) := by decide +kernel
theorem dX12_next_38 : decode cX12_next 38 = .ok (.istore_n 3, 1) := by decide +kernel
theorem dX12_next_39 : decode cX12_next 39 = .ok (.iload_n 3, 1) := by decide +kernel
theorem dX12_next_40 : decode cX12_next 40 = .ok (.aload_n 0, 1) := by decide +kernel
theorem dX12_next_41 : decode cX12_next 41 = .ok (.getfield 258, 3) := by decide +kernel
theorem dX12_next_44 : decode cX12_next 44 = .ok (.if_icmp .ge 63, 3) := by decide +kernel
theorem dX12_next_47 : decode cX12_next 47 = .ok (.aload_n 0, 1) := by decide +kernel
theorem dX12_next_48 : decode cX12_next 48 = .ok (.getfield 250, 3) := by decide +kernel
theorem dX12_next_51 : decode cX12_next 51 = .ok (.iload_n 3, 1) := by decide +kernel
theorem dX12_next_52 : decode cX12_next 52 = .ok (.baload, 1) := by decide +kernel
theorem dX12_next_53 : decode cX12_next 53 = .ok (.ifCond .eq 6, 3) := by decide +kernel
theorem dX12_next_56 : decode cX12_next 56 = .ok (.goto 45, 3) := by decide +kernel
theorem dX12_next_59 : decode cX12_next 59 = .ok (.aload_n 0, 1) := by decide +kernel
theorem dX12_next_60 : decode cX12_next 60 = .ok (.iload_n 3, 1) := by decide +kernel
theorem dX12_next_61 : decode cX12_next 61 = .ok (.invokevirtual 334, 3) := by decide +kernel
theorem dX12_next_64 : decode cX12_next 64 = .ok (.istore 4, 2) := by decide +kernel
theorem dX12_next_66 : decode cX12_next 66 = .ok (.iload_n 1, 1) := by decide +kernel
theorem dX12_next_67 : decode cX12_next 67 = .ok (.ifCond .lt 29, 3) := by decide +kernel
theorem dX12_next_70 : decode cX12_next 70 = .ok (.iconst 2, 1) := by decide +kernel
theorem dX12_next_71 : decode cX12_next 71 = .ok (.iload 4, 2) := by decide +kernel
theorem dX12_next_73 : decode cX12_next 73 = .ok (.imul, 1) := by decide +kernel
theorem dX12_next_74 : decode cX12_next 74 = .ok (.aload_n 0, 1) := by decide +kernel
theorem dX12_next_75 : decode cX12_next 75 = .ok (.getfield 273, 3) := by decide +kernel
theorem dX12_next_78 : decode cX12_next 78 = .ok (.isub, 1) := by decide +kernel
theorem dX12_next_79 : decode cX12_next 79 = .ok (.invokestatic 337, 3) := by decide +kernel
theorem dX12_next_82 : decode cX12_next 82 = .ok (.iconst 2, 1) := by decide +kernel
theorem dX12_next_83 : decode cX12_next 83 = .ok (.iload_n 2, 1) := by decide +kernel
theorem dX12_next_84 : decode cX12_next 84 = .ok (.imul, 1) := by decide +kernel
theorem dX12_next_85 : decode cX12_next 85 = .ok (.aload_n 0, 1) := by decide +kernel
theorem dX12_next_86 : decode cX12_next 86 = .ok (.getfield 273, 3) := by decide +kernel
theorem dX12_next_89 : decode cX12_next 89 = .ok (.isub, 1) := by decide +kernel
theorem dX12_next_90 : decode cX12_next 90 = .ok (.invokestatic 337, 3) := by decide +kernel
theorem dX12_next_93 : decode cX12_next 93 = .ok (.if_icmp .ge 8, 3) := by decide +kernel
theorem dX12_next_96 : decode cX12_next 96 = .ok (.iload_n 3, 1) := by decide +kernel
theorem dX12_next_97 : decode cX12_next 97 = .ok (.istore_n 1, 1) := by decide +kernel
theorem dX12_next_98 : decode cX12_next 98 = .ok (.iload 4, 2) := by decide +kernel
theorem dX12_next_100 : decode cX12_next 100 = .ok (.istore_n 2, 1) := by decide +kernel
theorem dX12_next_101 : decode cX12_next 101 = .ok (.iinc 3 1, 3) := by decide +kernel
theorem dX12_next_104 : decode cX12_next 104 = .ok (.goto (-65), 3) := by decide +kernel
theorem dX12_next_107 : decode cX12_next 107 = .ok (.aload_n 0, 1) := by decide +kernel
theorem dX12_next_108 : decode cX12_next 108 = .ok (.iconst 0, 1) := by decide +kernel
theorem dX12_next_109 : decode cX12_next 109 = .ok (.putfield 11, 3) := by decide +kernel
theorem dX12_next_112 : decode cX12_next 112 = .ok (.aload_n 0, 1) := by decide +kernel
theorem dX12_next_113 : decode cX12_next 113 = .ok (.iload_n 2, 1) := by decide +kernel
theorem dX12_next_114 : decode cX12_next 114 = .ok (.i2l, 1) := by decide +kernel
theorem dX12_next_115 : decode cX12_next 115 = .ok (.invokevirtual 18, 3) := by decide +kernel
theorem dX12_next_118 : decode cX12_next 118 = .ok (.iload_n 1, 1) := by decide +kernel
theorem dX12_next_119 : decode cX12_next 119 = .ok (.ireturn, 1) := by decide +kernel
theorem dX12_eye_0 : decode cX12_eye 0 = .ok (.aload_n 0, 1) := by decide +kernel
theorem dX12_eye_1 : decode cX12_eye 1 = .ok (.iconst 0, 1) := by decide +kernel
theorem dX12_eye_2 : decode cX12_eye 2 = .ok (.putfield 1, 3) := by decide +kernel
theorem dX12_eye_5 : decode cX12_eye 5 = .ok (.iload_n 1, 1) := by decide +kernel
theorem dX12_eye_6 : decode cX12_eye 6 = .ok (.i2l, 1) := by decide +kernel
theorem dX12_eye_7 : decode cX12_eye 7 = .ok (.lconst 0, 1) := by decide +kernel
theorem dX12_eye_8 : decode cX12_eye 8 = .ok (.ldc2_w 62, 3) := by decide +kernel
theorem dX12_eye_11 : decode cX12_eye 11 = .ok (.invokestatic 29, 3) := by decide +kernel
theorem dX12_eye_14 : decode cX12_eye 14 = .ok (.ifCond .eq 11, 3) := by decide +kernel
theorem dX12_eye_17 : decode cX12_eye 17 = .ok (.aload_n 0, 1) := by decide +kernel
theorem dX12_eye_18 : decode cX12_eye 18 = .ok (.iload_n 2, 1) := by decide +kernel
theorem dX12_eye_19 : decode cX12_eye 19 = .ok (.invokevirtual 194, 3) := by decide +kernel
theorem dX12_eye_22 : decode cX12_eye 22 = .ok (.ifCond .ne 5, 3) := by decide +kernel
theorem dX12_eye_25 : decode cX12_eye 25 = .ok (.iconst (-1), 1) := by decide +kernel
theorem dX12_eye_26 : decode cX12_eye 26 = .ok (.ireturn, 1) := by decide +kernel
theorem dX12_eye_27 : decode cX12_eye 27 = .ok (.aload_n 0, 1) := by decide +kernel
theorem dX12_eye_28 : decode cX12_eye 28 = .ok (.getfield 340, 3) := by decide +kernel
theorem dX12_eye_31 : decode cX12_eye 31 = .ok (.astore_n 3, 1) := by decide +kernel
theorem dX12_eye_32 : decode cX12_eye 32 = .ok (.iconst 0, 1) := by decide +kernel
theorem dX12_eye_33 : decode cX12_eye 33 = .ok (.istore 4, 2) := by decide +kernel
theorem dX12_eye_35 : decode cX12_eye 35 = .ok (.iload 4, 2) := by decide +kernel
theorem dX12_eye_37 : decode cX12_eye 37 = .ok (.iconst 4, 1) := by decide +kernel
theorem dX12_eye_38 : decode cX12_eye 38 = .ok (.if_icmp .ge 14, 3) := by decide +kernel
theorem dX12_eye_41 : decode cX12_eye 41 = .ok (.aload_n 3, 1) := by decide +kernel
theorem dX12_eye_42 : decode cX12_eye 42 = .ok (.iload 4, 2) := by decide +kernel
theorem dX12_eye_44 : decode cX12_eye 44 = .ok (.iconst 0, 1) := by decide +kernel
theorem dX12_eye_45 : decode cX12_eye 45 = .ok (.iastore, 1) := by decide +kernel
theorem dX12_eye_46 : decode cX12_eye 46 = .ok (.iinc 4 1, 3) := by decide +kernel
theorem dX12_eye_49 : decode cX12_eye 49 = .ok (.goto (-14), 3) := by decide +kernel
theorem dX12_eye_52 : decode cX12_eye 52 = .ok (.iconst 0, 1) := by decide +kernel
theorem dX12_eye_53 : decode cX12_eye 53 = .ok (.istore 4, 2) := by decide +kernel
theorem dX12_eye_55 : decode cX12_eye 55 = .ok (.iconst 0, 1) := by decide +kernel
theorem dX12_eye_56 : decode cX12_eye 56 = .ok (.istore 5, 2) := by decide +kernel
theorem dX12_eye_58 : decode cX12_eye 58 = .ok (.iload 5, 2) := by decide +kernel
theorem dX12_eye_60 : decode cX12_eye 60 = .ok (.aload_n 0, 1) := by decide +kernel
theorem dX12_eye_61 : decode cX12_eye 61 = .ok (.getfield 258, 3) := by decide +kernel
theorem dX12_eye_64 : decode cX12_eye 64 = .ok (.if_icmp .ge 109, 3) := by decide +kernel
theorem dX12_eye_67 : decode cX12_eye 67 = .ok (.aload_n 0, 1) := by decide +kernel
theorem dX12_eye_68 : decode cX12_eye 68 = .ok (.getfield 226, 3) := by decide +kernel
theorem dX12_eye_71 : decode cX12_eye 71 = .ok (.iload 5, 2) := by decide +kernel
theorem dX12_eye_73 : decode cX12_eye 73 = .ok (.iaload, 1) := by decide +kernel
theorem dX12_eye_74 : decode cX12_eye 74 = .ok (.ifCond .ne 93, 3) := by decide +kernel
theorem dX12_eye_77 : decode cX12_eye 77 = .ok (.aload_n 0, 1) := by decide +kernel
theorem dX12_eye_78 : decode cX12_eye 78 = .ok (.getfield 244, 3) := by decide +kernel
theorem dX12_eye_81 : decode cX12_eye 81 = .ok (.iload 5, 2) := by decide +kernel
theorem dX12_eye_83 : decode cX12_eye 83 = .ok (.iaload, 1) := by decide +kernel
theorem dX12_eye_84 : decode cX12_eye 84 = .ok (.iload_n 1, 1) := by decide +kernel
theorem dX12_eye_85 : decode cX12_eye 85 = .ok (.if_icmp .eq 6, 3) := by decide +kernel
theorem dX12_eye_88 : decode cX12_eye 88 = .ok (.goto 79, 3) := by decide +kernel
theorem dX12_eye_91 : decode cX12_eye 91 = .ok (.aload_n 0, 1) := by decide +kernel
theorem dX12_eye_92 : decode cX12_eye 92 = .ok (.iload 5, 2) := by decide +kernel
theorem dX12_eye_94 : decode cX12_eye 94 = .ok (.iload_n 2, 1) := by decide +kernel
theorem dX12_eye_95 : decode cX12_eye 95 = .ok (.invokevirtual 270, 3) := by decide +kernel
theorem dX12_eye_98 : decode cX12_eye 98 = .ok (.istore 6, 2) := by decide +kernel
theorem dX12_eye_100 : decode cX12_eye 100 = .ok (.aload_n 0, 1) := by decide +kernel
theorem dX12_eye_101 : decode cX12_eye 101 = .ok (.iconst 0, 1) := by decide +kernel
theorem dX12_eye_102 : decode cX12_eye 102 = .ok (.aload_n 0, 1) := by decide +kernel
theorem dX12_eye_103 : decode cX12_eye 103 = .ok (.getfield 229, 3) := by decide +kernel
theorem dX12_eye_106 : decode cX12_eye 106 = .ok (.iload 5, 2) := by decide +kernel
theorem dX12_eye_108 : decode cX12_eye 108 = .ok (.iaload, 1) := by decide +kernel
theorem dX12_eye_109 : decode cX12_eye 109 = .ok (.invokevirtual 167, 3) := by decide +kernel
theorem dX12_eye_112 : decode cX12_eye 112 = .ok (.aload_n 0, 1) := by decide +kernel
theorem dX12_eye_113 : decode cX12_eye 113 = .ok (.iconst 1, 1) := by decide +kernel
theorem dX12_eye_114 : decode cX12_eye 114 = .ok (.aload_n 0, 1) := by decide +kernel
theorem dX12_eye_115 : decode cX12_eye 115 = .ok (.getfield 232, 3) := by decide +kernel
theorem dX12_eye_118 : decode cX12_eye 118 = .ok (.iload 5, 2) := by decide +kernel
theorem dX12_eye_120 : decode cX12_eye 120 = .ok (.iaload, 1) := by decide +kernel
theorem dX12_eye_121 : decode cX12_eye 121 = .ok (.invokevirtual 167, 3) := by decide +kernel
theorem dX12_eye_124 : decode cX12_eye 124 = .ok (.aload_n 0, 1) := by decide +kernel
theorem dX12_eye_125 : decode cX12_eye 125 = .ok (.invokevirtual 210, 3) := by decide +kernel
theorem dX12_eye_128 : decode cX12_eye 128 = .ok (.istore 7, 2) := by decide +kernel
theorem dX12_eye_130 : decode cX12_eye 130 = .ok (.aload_n 3, 1) := by decide +kernel
theorem dX12_eye_131 : decode cX12_eye 131 = .ok (.iload 6, 2) := by decide +kernel
theorem dX12_eye_133 : decode cX12_eye 133 = .ok (.ifCond .eq 16, 3) := by decide +kernel
theorem dX12_eye_136 : decode cX12_eye 136 = .ok (.iload 7, 2) := by decide +kernel
theorem dX12_eye_138 : decode cX12_eye 138 = .ok (.ifCond .eq 7, 3) := by decide +kernel
theorem dX12_eye_141 : decode cX12_eye 141 = .ok (.iconst 0, 1) := by decide +kernel
theorem dX12_eye_142 : decode cX12_eye 142 = .ok (.goto 17, 3) := by decide +kernel
theorem dX12_eye_145 : decode cX12_eye 145 = .ok (.iconst 1, 1) := by decide +kernel
theorem dX12_eye_146 : decode cX12_eye 146 = .ok (.goto 13, 3) := by decide +kernel
theorem dX12_eye_149 : decode cX12_eye 149 = .ok (.iload 7, 2) := by decide +kernel
theorem dX12_eye_151 : decode cX12_eye 151 = .ok (.ifCond .eq 7, 3) := by decide +kernel
theorem dX12_eye_154 : decode cX12_eye 154 = .ok (.iconst 2, 1) := by decide +kernel
theorem dX12_eye_155 : decode cX12_eye 155 = .ok (.goto 4, 3) := by decide +kernel
theorem dX12_eye_158 : decode cX12_eye 158 = .ok (.iconst 3, 1) := by decide +kernel
theorem dX12_eye_159 : decode cX12_eye 159 = .ok (.dup2, 1) := by decide +kernel
theorem dX12_eye_160 : decode cX12_eye 160 = .ok (.iaload, 1) := by decide +kernel
theorem dX12_eye_161 : decode cX12_eye 161 = .ok (.iconst 1, 1) := by decide +kernel
theorem dX12_eye_162 : decode cX12_eye 162 = .ok (.iadd, 1) := by decide +kernel
theorem dX12_eye_163 : decode cX12_eye 163 = .ok (.iastore, 1) := by decide +kernel
theorem dX12_eye_164 : decode cX12_eye 164 = .ok (.iinc 4 1, 3) := by decide +kernel
theorem dX12_eye_167 : decode cX12_eye 167 = .ok (.iinc 5 1, 3) := by decide +kernel
theorem dX12_eye_170 : decode cX12_eye 170 = .ok (.goto (-112), 3) := by decide +kernel
theorem dX12_eye_173 : decode cX12_eye 173 = .ok (.aload_n 0, 1) := by decide +kernel
theorem dX12_eye_174 : decode cX12_eye 174 = .ok (.iconst 0, 1) := by decide +kernel
theorem dX12_eye_175 : decode cX12_eye 175 = .ok (.putfield 11, 3) := by decide +kernel
theorem dX12_eye_178 : decode cX12_eye 178 = .ok (.iconst 0, 1) := by decide +kernel
theorem dX12_eye_179 : decode cX12_eye 179 = .ok (.istore 5, 2) := by decide +kernel
theorem dX12_eye_181 : decode cX12_eye 181 = .ok (.iload 5, 2) := by decide +kernel
theorem dX12_eye_183 : decode cX12_eye 183 = .ok (.iconst 4, 1) := by decide +kernel
theorem dX12_eye_184 : decode cX12_eye 184 = .ok (.if_icmp .ge 18, 3) := by decide +kernel
theorem dX12_eye_187 : decode cX12_eye 187 = .ok (.aload_n 0, 1) := by decide +kernel
theorem dX12_eye_188 : decode cX12_eye 188 = .ok (.aload_n 3, 1) := by decide +kernel
theorem dX12_eye_189 : decode cX12_eye 189 = .ok (.iload 5, 2) := by decide +kernel
theorem dX12_eye_191 : decode cX12_eye 191 = .ok (.iaload, 1) := by decide +kernel
theorem dX12_eye_192 : decode cX12_eye 192 = .ok (.i2l, 1) := by decide +kernel
theorem dX12_eye_193 : decode cX12_eye 193 = .ok (.invokevirtual 18, 3) := by decide +kernel
theorem dX12_eye_196 : decode cX12_eye 196 = .ok (.iinc 5 1, 3) := by decide +kernel
theorem dX12_eye_199 : decode cX12_eye 199 = .ok (.goto (-18), 3) := by decide +kernel
theorem dX12_eye_202 : decode cX12_eye 202 = .ok (.iload 4, 2) := by decide +kernel
theorem dX12_eye_204 : decode cX12_eye 204 = .ok (.ireturn, 1) := by decide +kernel
theorem dX12_lean_0 : decode cX12_lean 0 = .ok (.aload_n 0, 1) := by decide +kernel
theorem dX12_lean_1 : decode cX12_lean 1 = .ok (.iconst 0, 1) := by decide +kernel
theorem dX12_lean_2 : decode cX12_lean 2 = .ok (.putfield 1, 3) := by decide +kernel
theorem dX12_lean_5 : decode cX12_lean 5 = .ok (.iload_n 1, 1) := by decide +kernel
theorem dX12_lean_6 : decode cX12_lean 6 = .ok (.i2l, 1) := by decide +kernel
theorem dX12_lean_7 : decode cX12_lean 7 = .ok (.lconst 0, 1) := by decide +kernel
theorem dX12_lean_8 : decode cX12_lean 8 = .ok (.ldc2_w 62, 3) := by decide +kernel
theorem dX12_lean_11 : decode cX12_lean 11 = .ok (.invokestatic 29, 3) := by decide +kernel
theorem dX12_lean_14 : decode cX12_lean 14 = .ok (.ifCond .eq 13, 3) := by decide +kernel
theorem dX12_lean_17 : decode cX12_lean 17 = .ok (.iload_n 2, 1) := by decide +kernel
theorem dX12_lean_18 : decode cX12_lean 18 = .ok (.i2l, 1) := by decide +kernel
theorem dX12_lean_19 : decode cX12_lean 19 = .ok (.lconst 0, 1) := by decide +kernel
theorem dX12_lean_20 : decode cX12_lean 20 = .ok (.lconst 1, 1) := by decide +kernel
theorem dX12_lean_21 : decode cX12_lean 21 = .ok (.invokestatic 29, 3) := by decide +kernel
theorem dX12_lean_24 : decode cX12_lean 24 = .ok (.ifCond .ne 5, 3) := by decide +kernel
theorem dX12_lean_27 : decode cX12_lean 27 = .ok (.iconst (-1), 1) := by decide +kernel
theorem dX12_lean_28 : decode cX12_lean 28 = .ok (.ireturn, 1) := by decide +kernel
theorem dX12_lean_29 : decode cX12_lean 29 = .ok (.bipush (-2), 2) := by decide +kernel
theorem dX12_lean_31 : decode cX12_lean 31 = .ok (.istore_n 3, 1) := by decide +kernel
theorem dX12_lean_32 : decode cX12_lean 32 = .ok (.aload_n 0, 1) := by decide +kernel
theorem dX12_lean_33 : decode cX12_lean 33 = .ok (.invokevirtual 107, 3) := by decide +kernel
theorem dX12_lean_36 : decode cX12_lean 36 = .ok (.istore 4, 2) := by decide +kernel
theorem dX12_lean_38 : decode cX12_lean 38 = .ok (.iconst 0, 1) := by decide +kernel
theorem dX12_lean_39 : decode cX12_lean 39 = .ok (.istore 5, 2) := by decide +kernel
theorem dX12_lean_41 : decode cX12_lean 41 = .ok (.iload 5, 2) := by decide +kernel
theorem dX12_lean_43 : decode cX12_lean 43 = .ok (.iload 4, 2) := by decide +kernel
theorem dX12_lean_45 : decode cX12_lean 45 = .ok (.if_icmp .ge 144, 3) := by decide +kernel
theorem dX12_lean_48 : decode cX12_lean 48 = .ok (.iconst 0, 1) := by decide +kernel
theorem dX12_lean_49 : decode cX12_lean 49 = .ok (.istore 6, 2) := by decide +kernel
theorem dX12_lean_51 : decode cX12_lean 51 = .ok (.iconst 1, 1) := by decide +kernel
theorem dX12_lean_52 : decode cX12_lean 52 = .ok (.istore 7, 2) := by decide +kernel
theorem dX12_lean_54 : decode cX12_lean 54 = .ok (.iconst 0, 1) := by decide +kernel
theorem dX12_lean_55 : decode cX12_lean 55 = .ok (.istore 8, 2) := by decide +kernel
theorem dX12_lean_57 : decode cX12_lean 57 = .ok (.iload 8, 2) := by decide +kernel
theorem dX12_lean_59 : decode cX12_lean 59 = .ok (.aload_n 0, 1) := by decide +kernel
theorem dX12_lean_60 : decode cX12_lean 60 = .ok (.getfield 258, 3) := by decide +kernel
theorem dX12_lean_63 : decode cX12_lean 63 = .ok (.if_icmp .ge 86, 3) := by decide +kernel
theorem dX12_lean_66 : decode cX12_lean 66 = .ok (.aload_n 0, 1) := by decide +kernel
theorem dX12_lean_67 : decode cX12_lean 67 = .ok (.getfield 226, 3) := by decide +kernel
theorem dX12_lean_70 : decode cX12_lean 70 = .ok (.iload 8, 2) := by decide +kernel
theorem dX12_lean_72 : decode cX12_lean 72 = .ok (.iaload, 1) := by decide +kernel
theorem dX12_lean_73 : decode cX12_lean 73 = .ok (.ifCond .ne 18, 3) := by decide +kernel
theorem dX12_lean_76 : decode cX12_lean 76 = .ok (.aload_n 0, 1) := by decide +kernel
theorem dX12_lean_77 : decode cX12_lean 77 = .ok (.getfield 244, 3) := by decide +kernel
theorem dX12_lean_80 : decode cX12_lean 80 = .ok (.iload 8, 2) := by decide +kernel
theorem dX12_lean_82 : decode cX12_lean 82 = .ok (.iaload, 1) := by decide +kernel
theorem dX12_lean_83 : decode cX12_lean 83 = .ok (.iload_n 1, 1) := by decide +kernel
theorem dX12_lean_84 : decode cX12_lean 84 = .ok (.if_icmp .ne 7, 3) := by decide +kernel
theorem dX12_lean_87 : decode cX12_lean 87 = .ok (.iconst 1, 1) := by decide +kernel
theorem dX12_lean_88 : decode cX12_lean 88 = .ok (.goto 4, 3) := by decide +kernel
theorem dX12_lean_91 : decode cX12_lean 91 = .ok (.iconst 0, 1) := by decide +kernel
theorem dX12_lean_92 : decode cX12_lean 92 = .ok (.istore 9, 2) := by decide +kernel
theorem dX12_lean_94 : decode cX12_lean 94 = .ok (.iload 9, 2) := by decide +kernel
theorem dX12_lean_96 : decode cX12_lean 96 = .ok (.ifCond .eq 22, 3) := by decide +kernel
theorem dX12_lean_99 : decode cX12_lean 99 = .ok (.iload 6, 2) := by decide +kernel
theorem dX12_lean_101 : decode cX12_lean 101 = .ok (.aload_n 0, 1) := by decide +kernel
theorem dX12_lean_102 : decode cX12_lean 102 = .ok (.iload 8, 2) := by decide +kernel
theorem dX12_lean_104 : decode cX12_lean 104 = .ok (.iload 5, 2) := by decide +kernel
theorem dX12_lean_106 : decode cX12_lean 106 = .ok (.invokevirtual 270, 3) := by decide +kernel
theorem dX12_lean_109 : decode cX12_lean 109 = .ok (.invokestatic 39, 3) := by decide +kernel
theorem dX12_lean_112 : decode cX12_lean 112 = .ok (.iadd, 1) := by decide +kernel
theorem dX12_lean_113 : decode cX12_lean 113 = .ok (.istore 6, 2) := by decide +kernel
theorem dX12_lean_115 : decode cX12_lean 115 = .ok (.goto 28, 3) := by decide +kernel
theorem dX12_lean_118 : decode cX12_lean 118 = .ok (.aload_n 0, 1) := by decide +kernel
theorem dX12_lean_119 : decode cX12_lean 119 = .ok (.getfield 250, 3) := by decide +kernel
theorem dX12_lean_122 : decode cX12_lean 122 = .ok (.iload 8, 2) := by decide +kernel
theorem dX12_lean_124 : decode cX12_lean 124 = .ok (.baload, 1) := by decide +kernel
theorem dX12_lean_125 : decode cX12_lean 125 = .ok (.ifCond .eq 18, 3) := by decide +kernel
theorem dX12_lean_128 : decode cX12_lean 128 = .ok (.iload 7, 2) := by decide +kernel
theorem dX12_lean_130 : decode cX12_lean 130 = .ok (.ifCond .eq 13, 3) := by decide +kernel
theorem dX12_lean_133 : decode cX12_lean 133 = .ok (.aload_n 0, 1) := by decide +kernel
theorem dX12_lean_134 : decode cX12_lean 134 = .ok (.iload 8, 2) := by decide +kernel
theorem dX12_lean_136 : decode cX12_lean 136 = .ok (.iload 5, 2) := by decide +kernel
theorem dX12_lean_138 : decode cX12_lean 138 = .ok (.invokevirtual 270, 3) := by decide +kernel
theorem dX12_lean_141 : decode cX12_lean 141 = .ok (.istore 7, 2) := by decide +kernel
theorem dX12_lean_143 : decode cX12_lean 143 = .ok (.iinc 8 1, 3) := by decide +kernel
theorem dX12_lean_146 : decode cX12_lean 146 = .ok (.goto (-89), 3) := by decide +kernel
theorem dX12_lean_149 : decode cX12_lean 149 = .ok (.iload 7, 2) := by decide +kernel
theorem dX12_lean_151 : decode cX12_lean 151 = .ok (.ifCond .eq 32, 3) := by decide +kernel
theorem dX12_lean_154 : decode cX12_lean 154 = .ok (.iload_n 3, 1) := by decide +kernel
theorem dX12_lean_155 : decode cX12_lean 155 = .ok (.ifCond .ge 8, 3) := by decide +kernel
theorem dX12_lean_158 : decode cX12_lean 158 = .ok (.iload 6, 2) := by decide +kernel
theorem dX12_lean_160 : decode cX12_lean 160 = .ok (.goto 22, 3) := by decide +kernel
theorem dX12_lean_163 : decode cX12_lean 163 = .ok (.iload_n 2, 1) := by decide +kernel
theorem dX12_lean_164 : decode cX12_lean 164 = .ok (.ifCond .ne 12, 3) := by decide +kernel
theorem dX12_lean_167 : decode cX12_lean 167 = .ok (.iload_n 3, 1) := by decide +kernel
theorem dX12_lean_168 : decode cX12_lean 168 = .ok (.iload 6, 2) := by decide +kernel
theorem dX12_lean_170 : decode cX12_lean 170 = .ok (.invokestatic 69, 3) := by decide +kernel
theorem dX12_lean_173 : decode cX12_lean 173 = .ok (.goto 9, 3) := by decide +kernel
theorem dX12_lean_176 : decode cX12_lean 176 = .ok (.iload_n 3, 1) := by decide +kernel
theorem dX12_lean_177 : decode cX12_lean 177 = .ok (.iload 6, 2) := by decide +kernel
theorem dX12_lean_179 : decode cX12_lean 179 = .ok (.invokestatic 127, 3) := by decide +kernel
theorem dX12_lean_182 : decode cX12_lean 182 = .ok (.istore_n 3, 1) := by decide +kernel
theorem dX12_lean_183 : decode cX12_lean 183 = .ok (.iinc 5 1, 3) := by decide +kernel
theorem dX12_lean_186 : decode cX12_lean 186 = .ok (.goto (-145), 3) := by decide +kernel
theorem dX12_lean_189 : decode cX12_lean 189 = .ok (.iload_n 3, 1) := by decide +kernel
theorem dX12_lean_190 : decode cX12_lean 190 = .ok (.ireturn, 1) := by decide +kernel
theorem dX12_isAnyFit_0 : decode cX12_isAnyFit 0 = .ok (.aload_n 0, 1) := by decide +kernel
theorem dX12_isAnyFit_1 : decode cX12_isAnyFit 1 = .ok (.invokevirtual 107, 3) := by decide +kernel
theorem dX12_isAnyFit_4 : decode cX12_isAnyFit 4 = .ok (.istore_n 1, 1) := by decide +kernel
theorem dX12_isAnyFit_5 : decode cX12_isAnyFit 5 = .ok (.iconst 0, 1) := by decide +kernel
theorem dX12_isAnyFit_6 : decode cX12_isAnyFit 6 = .ok (.istore_n 2, 1) := by decide +kernel
theorem dX12_isAnyFit_7 : decode cX12_isAnyFit 7 = .ok (.iload_n 2, 1) := by decide +kernel
theorem dX12_isAnyFit_8 : decode cX12_isAnyFit 8 = .ok (.iload_n 1, 1) := by decide +kernel
theorem dX12_isAnyFit_9 : decode cX12_isAnyFit 9 = .ok (.if_icmp .ge 19, 3) := by decide +kernel
theorem dX12_isAnyFit_12 : decode cX12_isAnyFit 12 = .ok (.aload_n 0, 1) := by decide +kernel
theorem dX12_isAnyFit_13 : decode cX12_isAnyFit 13 = .ok (.iload_n 2, 1) := by decide +kernel
theorem dX12_isAnyFit_14 : decode cX12_isAnyFit 14 = .ok (.invokevirtual 276, 3) := by decide +kernel
theorem dX12_isAnyFit_17 : decode cX12_isAnyFit 17 = .ok (.ifCond .eq 5, 3) := by decide +kernel
theorem dX12_isAnyFit_20 : decode cX12_isAnyFit 20 = .ok (.iconst 1, 1) := by decide +kernel
theorem dX12_isAnyFit_21 : decode cX12_isAnyFit 21 = .ok (.ireturn, 1) := by decide +kernel
theorem dX12_isAnyFit_22 : decode cX12_isAnyFit 22 = .ok (.iinc 2 1, 3) := by decide +kernel
theorem dX12_isAnyFit_25 : decode cX12_isAnyFit 25 = .ok (.goto (-18), 3) := by decide +kernel
theorem dX12_isAnyFit_28 : decode cX12_isAnyFit 28 = .ok (.iconst 0, 1) := by decide +kernel
theorem dX12_isAnyFit_29 : decode cX12_isAnyFit 29 = .ok (.ireturn, 1) := by decide +kernel
theorem dX12_ahead_0 : decode cX12_ahead 0 = .ok (.aload_n 0, 1) := by decide +kernel
theorem dX12_ahead_1 : decode cX12_ahead 1 = .ok (.iconst 0, 1) := by decide +kernel
theorem dX12_ahead_2 : decode cX12_ahead 2 = .ok (.putfield 1, 3) := by decide +kernel
theorem dX12_ahead_5 : decode cX12_ahead 5 = .ok (.iload_n 1, 1) := by decide +kernel
theorem dX12_ahead_6 : decode cX12_ahead 6 = .ok (.i2l, 1) := by decide +kernel
theorem dX12_ahead_7 : decode cX12_ahead 7 = .ok (.lconst 0, 1) := by decide +kernel
theorem dX12_ahead_8 : decode cX12_ahead 8 = .ok (.ldc2_w 62, 3) := by decide +kernel
theorem dX12_ahead_11 : decode cX12_ahead 11 = .ok (.invokestatic 29, 3) := by decide +kernel
theorem dX12_ahead_14 : decode cX12_ahead 14 = .ok (.ifCond .eq 13, 3) := by decide +kernel
theorem dX12_ahead_17 : decode cX12_ahead 17 = .ok (.iload_n 2, 1) := by decide +kernel
theorem dX12_ahead_18 : decode cX12_ahead 18 = .ok (.i2l, 1) := by decide +kernel
theorem dX12_ahead_19 : decode cX12_ahead 19 = .ok (.lconst 0, 1) := by decide +kernel
theorem dX12_ahead_20 : decode cX12_ahead 20 = .ok (.lconst 1, 1) := by decide +kernel
theorem dX12_ahead_21 : decode cX12_ahead 21 = .ok (.invokestatic 29, 3) := by decide +kernel
theorem dX12_ahead_24 : decode cX12_ahead 24 = .ok (.ifCond .ne 5, 3) := by decide +kernel
theorem dX12_ahead_27 : decode cX12_ahead 27 = .ok (.iconst (-1), 1) := by decide +kernel
theorem dX12_ahead_28 : decode cX12_ahead 28 = .ok (.ireturn, 1) := by decide +kernel
theorem dX12_ahead_29 : decode cX12_ahead 29 = .ok (.aload_n 0, 1) := by decide +kernel
theorem dX12_ahead_30 : decode cX12_ahead 30 = .ok (.getfield 122, 3) := by decide +kernel
theorem dX12_ahead_33 : decode cX12_ahead 33 = .ok (.iload_n 1, 1) := by decide +kernel
theorem dX12_ahead_34 : decode cX12_ahead 34 = .ok (.iaload, 1) := by decide +kernel
theorem dX12_ahead_35 : decode cX12_ahead 35 = .ok (.istore_n 3, 1) := by decide +kernel
theorem dX12_ahead_36 : decode cX12_ahead 36 = .ok (.bipush (-2), 2) := by decide +kernel
theorem dX12_ahead_38 : decode cX12_ahead 38 = .ok (.istore 4, 2) := by decide +kernel
theorem dX12_ahead_40 : decode cX12_ahead 40 = .ok (.iconst 0, 1) := by decide +kernel
theorem dX12_ahead_41 : decode cX12_ahead 41 = .ok (.istore 5, 2) := by decide +kernel
theorem dX12_ahead_43 : decode cX12_ahead 43 = .ok (.iload 5, 2) := by decide +kernel
theorem dX12_ahead_45 : decode cX12_ahead 45 = .ok (.sipush 200, 3) := by decide +kernel
theorem dX12_ahead_48 : decode cX12_ahead 48 = .ok (.if_icmp .gt 55, 3) := by decide +kernel
theorem dX12_ahead_51 : decode cX12_ahead 51 = .ok (.aload_n 0, 1) := by decide +kernel
theorem dX12_ahead_52 : decode cX12_ahead 52 = .ok (.getfield 122, 3) := by decide +kernel
theorem dX12_ahead_55 : decode cX12_ahead 55 = .ok (.iload_n 1, 1) := by decide +kernel
theorem dX12_ahead_56 : decode cX12_ahead 56 = .ok (.iload 5, 2) := by decide +kernel
theorem dX12_ahead_58 : decode cX12_ahead 58 = .ok (.iastore, 1) := by decide +kernel
theorem dX12_ahead_59 : decode cX12_ahead 59 = .ok (.iload 4, 2) := by decide +kernel
theorem dX12_ahead_61 : decode cX12_ahead 61 = .ok (.ifCond .lt 8, 3) := by decide +kernel
theorem dX12_ahead_64 : decode cX12_ahead 64 = .ok (.iload_n 2, 1) := by decide +kernel
theorem dX12_ahead_65 : decode cX12_ahead 65 = .ok (.iconst 1, 1) := by decide +kernel
theorem dX12_ahead_66 : decode cX12_ahead 66 = .ok (.if_icmp .ne 7, 3) := by decide +kernel
theorem dX12_ahead_69 : decode cX12_ahead 69 = .ok (.iconst 1, 1) := by decide +kernel
theorem dX12_ahead_70 : decode cX12_ahead 70 = .ok (.goto 4, 3) := by decide +kernel
theorem dX12_ahead_73 : decode cX12_ahead 73 = .ok (.iconst 0, 1) := by decide +kernel
theorem dX12_ahead_74 : decode cX12_ahead 74 = .ok (.istore 6, 2) := by decide +kernel
theorem dX12_ahead_76 : decode cX12_ahead 76 = .ok (.iload 6, 2) := by decide +kernel
theorem dX12_ahead_78 : decode cX12_ahead 78 = .ok (.ifCond .eq 15, 3) := by decide +kernel
theorem dX12_ahead_81 : decode cX12_ahead 81 = .ok (.aload_n 0, 1) := by decide +kernel
theorem dX12_ahead_82 : decode cX12_ahead 82 = .ok (.invokevirtual 343, 3) := by decide +kernel
theorem dX12_ahead_85 : decode cX12_ahead 85 = .ok (.ifCond .eq 8, 3) := by decide +kernel
theorem dX12_ahead_88 : decode cX12_ahead 88 = .ok (.iload 5, 2) := by decide +kernel
theorem dX12_ahead_90 : decode cX12_ahead 90 = .ok (.goto 5, 3) := by decide +kernel
theorem dX12_ahead_93 : decode cX12_ahead 93 = .ok (.iload 4, 2) := by decide +kernel
theorem dX12_ahead_95 : decode cX12_ahead 95 = .ok (.istore 4, 2) := by decide +kernel
theorem dX12_ahead_97 : decode cX12_ahead 97 = .ok (.iinc 5 10, 3) := by decide +kernel
theorem dX12_ahead_100 : decode cX12_ahead 100 = .ok (.goto (-57), 3) := by decide +kernel
theorem dX12_ahead_103 : decode cX12_ahead 103 = .ok (.aload_n 0, 1) := by decide +kernel
theorem dX12_ahead_104 : decode cX12_ahead 104 = .ok (.getfield 122, 3) := by decide +kernel
theorem dX12_ahead_107 : decode cX12_ahead 107 = .ok (.iload_n 1, 1) := by decide +kernel
theorem dX12_ahead_108 : decode cX12_ahead 108 = .ok (.iload_n 3, 1) := by decide +kernel
theorem dX12_ahead_109 : decode cX12_ahead 109 = .ok (.iastore, 1) := by decide +kernel
theorem dX12_ahead_110 : decode cX12_ahead 110 = .ok (.iload 4, 2) := by decide +kernel
theorem dX12_ahead_112 : decode cX12_ahead 112 = .ok (.ireturn, 1) := by decide +kernel
theorem dX12_isOnStage_0 : decode cX12_isOnStage 0 = .ok (.aload_n 0, 1) := by decide +kernel
theorem dX12_isOnStage_1 : decode cX12_isOnStage 1 = .ok (.getfield 250, 3) := by decide +kernel
theorem dX12_isOnStage_4 : decode cX12_isOnStage 4 = .ok (.iload_n 1, 1) := by decide +kernel
theorem dX12_isOnStage_5 : decode cX12_isOnStage 5 = .ok (.baload, 1) := by decide +kernel
theorem dX12_isOnStage_6 : decode cX12_isOnStage 6 = .ok (.ifCond .eq 17, 3) := by decide +kernel
theorem dX12_isOnStage_9 : decode cX12_isOnStage 9 = .ok (.aload_n 0, 1) := by decide +kernel
theorem dX12_isOnStage_10 : decode cX12_isOnStage 10 = .ok (.getfield 226, 3) := by decide +kernel
theorem dX12_isOnStage_13 : decode cX12_isOnStage 13 = .ok (.iload_n 1, 1) := by decide +kernel
theorem dX12_isOnStage_14 : decode cX12_isOnStage 14 = .ok (.iaload, 1) := by decide +kernel
theorem dX12_isOnStage_15 : decode cX12_isOnStage 15 = .ok (.iconst 2, 1) := by decide +kernel
theorem dX12_isOnStage_16 : decode cX12_isOnStage 16 = .ok (.if_icmp .ge 7, 3) := by decide +kernel
theorem dX12_isOnStage_19 : decode cX12_isOnStage 19 = .ok (.iconst 1, 1) := by decide +kernel
theorem dX12_isOnStage_20 : decode cX12_isOnStage 20 = .ok (.goto 4, 3) := by decide +kernel
theorem dX12_isOnStage_23 : decode cX12_isOnStage 23 = .ok (.iconst 0, 1) := by decide +kernel
theorem dX12_isOnStage_24 : decode cX12_isOnStage 24 = .ok (.ireturn, 1) := by decide +kernel
theorem dX12_stagedAt_0 : decode cX12_stagedAt 0 = .ok (.iconst (-1), 1) := by decide +kernel
theorem dX12_stagedAt_1 : decode cX12_stagedAt 1 = .ok (.istore_n 2, 1) := by decide +kernel
theorem dX12_stagedAt_2 : decode cX12_stagedAt 2 = .ok (.iconst 0, 1) := by decide +kernel
theorem dX12_stagedAt_3 : decode cX12_stagedAt 3 = .ok (.istore_n 3, 1) := by decide +kernel
theorem dX12_stagedAt_4 : decode cX12_stagedAt 4 = .ok (.iload_n 3, 1) := by decide +kernel
theorem dX12_stagedAt_5 : decode cX12_stagedAt 5 = .ok (.aload_n 0, 1) := by decide +kernel
theorem dX12_stagedAt_6 : decode cX12_stagedAt 6 = .ok (.getfield 346, 3) := by decide +kernel
theorem dX12_stagedAt_9 : decode cX12_stagedAt 9 = .ok (.if_icmp .ge 25, 3) := by decide +kernel
theorem dX12_stagedAt_12 : decode cX12_stagedAt 12 = .ok (.aload_n 0, 1) := by decide +kernel
theorem dX12_stagedAt_13 : decode cX12_stagedAt 13 = .ok (.getfield 349, 3) := by decide +kernel
theorem dX12_stagedAt_16 : decode cX12_stagedAt 16 = .ok (.iload_n 3, 1) := by decide +kernel
theorem dX12_stagedAt_17 : decode cX12_stagedAt 17 = .ok (.iaload, 1) := by decide +kernel
theorem dX12_stagedAt_18 : decode cX12_stagedAt 18 = .ok (.iload_n 1, 1) := by decide +kernel
theorem dX12_stagedAt_19 : decode cX12_stagedAt 19 = .ok (.if_icmp .ne 7, 3) := by decide +kernel
theorem dX12_stagedAt_22 : decode cX12_stagedAt 22 = .ok (.iload_n 3, 1) := by decide +kernel
theorem dX12_stagedAt_23 : decode cX12_stagedAt 23 = .ok (.goto 4, 3) := by decide +kernel
theorem dX12_stagedAt_26 : decode cX12_stagedAt 26 = .ok (.iload_n 2, 1) := by decide +kernel
theorem dX12_stagedAt_27 : decode cX12_stagedAt 27 = .ok (.istore_n 2, 1) := by decide +kernel
theorem dX12_stagedAt_28 : decode cX12_stagedAt 28 = .ok (.iinc 3 1, 3) := by decide +kernel
theorem dX12_stagedAt_31 : decode cX12_stagedAt 31 = .ok (.goto (-27), 3) := by decide +kernel
theorem dX12_stagedAt_34 : decode cX12_stagedAt 34 = .ok (.iload_n 2, 1) := by decide +kernel
theorem dX12_stagedAt_35 : decode cX12_stagedAt 35 = .ok (.ireturn, 1) := by decide +kernel
theorem dX12_stages_0 : decode cX12_stages 0 = .ok (.iload_n 1, 1) := by decide +kernel
theorem dX12_stages_1 : decode cX12_stages 1 = .ok (.aload_n 0, 1) := by decide +kernel
theorem dX12_stages_2 : decode cX12_stages 2 = .ok (.getfield 346, 3) := by decide +kernel
theorem dX12_stages_5 : decode cX12_stages 5 = .ok (.if_icmp .ge 36, 3) := by decide +kernel
theorem dX12_stages_8 : decode cX12_stages 8 = .ok (.iconst 0, 1) := by decide +kernel
theorem dX12_stages_9 : decode cX12_stages 9 = .ok (.istore 4, 2) := by decide +kernel
theorem dX12_stages_11 : decode cX12_stages 11 = .ok (.iload 4, 2) := by decide +kernel
theorem dX12_stages_13 : decode cX12_stages 13 = .ok (.iconst 3, 1) := by decide +kernel
theorem dX12_stages_14 : decode cX12_stages 14 = .ok (.if_icmp .ge 26, 3) := by decide +kernel
theorem dX12_stages_17 : decode cX12_stages 17 = .ok (.aload_n 0, 1) := by decide +kernel
theorem dX12_stages_18 : decode cX12_stages 18 = .ok (.getfield 352, 3) := by decide +kernel
theorem dX12_stages_21 : decode cX12_stages 21 = .ok (.iload_n 1, 1) := by decide +kernel
theorem dX12_stages_22 : decode cX12_stages 22 = .ok (.iload 4, 2) := by decide +kernel
theorem dX12_stages_24 : decode cX12_stages 24 = .ok (.iastore, 1) := by decide +kernel
theorem dX12_stages_25 : decode cX12_stages 25 = .ok (.aload_n 0, 1) := by decide +kernel
theorem dX12_stages_26 : decode cX12_stages 26 = .ok (.iload_n 1, 1) := by decide +kernel
theorem dX12_stages_27 : decode cX12_stages 27 = .ok (.iconst 1, 1) := by decide +kernel
theorem dX12_stages_28 : decode cX12_stages 28 = .ok (.iadd, 1) := by decide +kernel
theorem dX12_stages_29 : decode cX12_stages 29 = .ok (.iload_n 2, 1) := by decide +kernel
theorem dX12_stages_30 : decode cX12_stages 30 = .ok (.iload_n 3, 1) := by decide +kernel
theorem dX12_stages_31 : decode cX12_stages 31 = .ok (.invokevirtual 355, 3) := by decide +kernel
theorem dX12_stages_34 : decode cX12_stages 34 = .ok (.iinc 4 1, 3) := by decide +kernel
theorem dX12_stages_37 : decode cX12_stages 37 = .ok (.goto (-26), 3) := by decide +kernel
theorem dX12_stages_40 : decode cX12_stages 40 = .ok (.return_, 1) := by decide +kernel
theorem dX12_stages_41 : decode cX12_stages 41 = .ok (.iconst 0, 1) := by decide +kernel
theorem dX12_stages_42 : decode cX12_stages 42 = .ok (.istore 4, 2) := by decide +kernel
theorem dX12_stages_44 : decode cX12_stages 44 = .ok (.iconst 0, 1) := by decide +kernel
theorem dX12_stages_45 : decode cX12_stages 45 = .ok (.istore 5, 2) := by decide +kernel
theorem dX12_stages_47 : decode cX12_stages 47 = .ok (.iload 5, 2) := by decide +kernel
theorem dX12_stages_49 : decode cX12_stages 49 = .ok (.aload_n 0, 1) := by decide +kernel
theorem dX12_stages_50 : decode cX12_stages 50 = .ok (.getfield 258, 3) := by decide +kernel
theorem dX12_stages_53 : decode cX12_stages 53 = .ok (.if_icmp .ge 139, 3) := by decide +kernel
theorem dX12_stages_56 : decode cX12_stages 56 = .ok (.aload_n 0, 1) := by decide +kernel
theorem dX12_stages_57 : decode cX12_stages 57 = .ok (.aload_n 0, 1) := by decide +kernel
theorem dX12_stages_58 : decode cX12_stages 58 = .ok (.getfield 229, 3) := by decide +kernel
theorem dX12_stages_61 : decode cX12_stages 61 = .ok (.iload 5, 2) := by decide +kernel
theorem dX12_stages_63 : decode cX12_stages 63 = .ok (.iaload, 1) := by decide +kernel
theorem dX12_stages_64 : decode cX12_stages 64 = .ok (.invokevirtual 358, 3) := by decide +kernel
theorem dX12_stages_67 : decode cX12_stages 67 = .ok (.istore 6, 2) := by decide +kernel
theorem dX12_stages_69 : decode cX12_stages 69 = .ok (.aload_n 0, 1) := by decide +kernel
theorem dX12_stages_70 : decode cX12_stages 70 = .ok (.iload 5, 2) := by decide +kernel
theorem dX12_stages_72 : decode cX12_stages 72 = .ok (.invokevirtual 361, 3) := by decide +kernel
theorem dX12_stages_75 : decode cX12_stages 75 = .ok (.ifCond .eq 17, 3) := by decide +kernel
theorem dX12_stages_78 : decode cX12_stages 78 = .ok (.aload_n 0, 1) := by decide +kernel
theorem dX12_stages_79 : decode cX12_stages 79 = .ok (.aload_n 0, 1) := by decide +kernel
theorem dX12_stages_80 : decode cX12_stages 80 = .ok (.getfield 232, 3) := by decide +kernel
theorem dX12_stages_83 : decode cX12_stages 83 = .ok (.iload 5, 2) := by decide +kernel
theorem dX12_stages_85 : decode cX12_stages 85 = .ok (.iaload, 1) := by decide +kernel
theorem dX12_stages_86 : decode cX12_stages 86 = .ok (.invokevirtual 358, 3) := by decide +kernel
theorem dX12_stages_89 : decode cX12_stages 89 = .ok (.goto 4, 3) := by decide +kernel
theorem dX12_stages_92 : decode cX12_stages 92 = .ok (.iconst (-1), 1) := by decide +kernel
theorem dX12_stages_93 : decode cX12_stages 93 = .ok (.istore 7, 2) := by decide +kernel
theorem dX12_stages_95 : decode cX12_stages 95 = .ok (.iload 6, 2) := by decide +kernel
theorem dX12_stages_97 : decode cX12_stages 97 = .ok (.ifCond .lt 89, 3) := by decide +kernel
theorem dX12_stages_100 : decode cX12_stages 100 = .ok (.iload 7, 2) := by decide +kernel
theorem dX12_stages_102 : decode cX12_stages 102 = .ok (.ifCond .lt 84, 3) := by decide +kernel
theorem dX12_stages_105 : decode cX12_stages 105 = .ok (.aload_n 0, 1) := by decide +kernel
theorem dX12_stages_106 : decode cX12_stages 106 = .ok (.iconst 0, 1) := by decide +kernel
theorem dX12_stages_107 : decode cX12_stages 107 = .ok (.aload_n 0, 1) := by decide +kernel
theorem dX12_stages_108 : decode cX12_stages 108 = .ok (.getfield 229, 3) := by decide +kernel
theorem dX12_stages_111 : decode cX12_stages 111 = .ok (.iload 5, 2) := by decide +kernel
theorem dX12_stages_113 : decode cX12_stages 113 = .ok (.iaload, 1) := by decide +kernel
theorem dX12_stages_114 : decode cX12_stages 114 = .ok (.iload_n 2, 1) := by decide +kernel
theorem dX12_stages_115 : decode cX12_stages 115 = .ok (.aload_n 0, 1) := by decide +kernel
theorem dX12_stages_116 : decode cX12_stages 116 = .ok (.getfield 364, 3) := by decide +kernel
theorem dX12_stages_119 : decode cX12_stages 119 = .ok (.aload_n 0, 1) := by decide +kernel
theorem dX12_stages_120 : decode cX12_stages 120 = .ok (.getfield 352, 3) := by decide +kernel
theorem dX12_stages_123 : decode cX12_stages 123 = .ok (.iload 6, 2) := by decide +kernel
theorem dX12_stages_125 : decode cX12_stages 125 = .ok (.iaload, 1) := by decide +kernel
theorem dX12_stages_126 : decode cX12_stages 126 = .ok (.iaload, 1) := by decide +kernel
theorem dX12_stages_127 : decode cX12_stages 127 = .ok (.iload_n 3, 1) := by decide +kernel
theorem dX12_stages_128 : decode cX12_stages 128 = .ok (.invokevirtual 200, 3) := by decide +kernel
theorem dX12_stages_131 : decode cX12_stages 131 = .ok (.aload_n 0, 1) := by decide +kernel
theorem dX12_stages_132 : decode cX12_stages 132 = .ok (.iconst 1, 1) := by decide +kernel
theorem dX12_stages_133 : decode cX12_stages 133 = .ok (.aload_n 0, 1) := by decide +kernel
theorem dX12_stages_134 : decode cX12_stages 134 = .ok (.getfield 232, 3) := by decide +kernel
theorem dX12_stages_137 : decode cX12_stages 137 = .ok (.iload 5, 2) := by decide +kernel
theorem dX12_stages_139 : decode cX12_stages 139 = .ok (.iaload, 1) := by decide +kernel
theorem dX12_stages_140 : decode cX12_stages 140 = .ok (.iload_n 2, 1) := by decide +kernel
theorem dX12_stages_141 : decode cX12_stages 141 = .ok (.aload_n 0, 1) := by decide +kernel
theorem dX12_stages_142 : decode cX12_stages 142 = .ok (.getfield 364, 3) := by decide +kernel
theorem dX12_stages_145 : decode cX12_stages 145 = .ok (.aload_n 0, 1) := by decide +kernel
theorem dX12_stages_146 : decode cX12_stages 146 = .ok (.getfield 352, 3) := by decide +kernel
theorem dX12_stages_149 : decode cX12_stages 149 = .ok (.iload 7, 2) := by decide +kernel
theorem dX12_stages_151 : decode cX12_stages 151 = .ok (.iaload, 1) := by decide +kernel
theorem dX12_stages_152 : decode cX12_stages 152 = .ok (.iaload, 1) := by decide +kernel
theorem dX12_stages_153 : decode cX12_stages 153 = .ok (.iload_n 3, 1) := by decide +kernel
theorem dX12_stages_154 : decode cX12_stages 154 = .ok (.invokevirtual 200, 3) := by decide +kernel
theorem dX12_stages_157 : decode cX12_stages 157 = .ok (.iload 4, 2) := by decide +kernel
theorem dX12_stages_159 : decode cX12_stages 159 = .ok (.aload_n 0, 1) := by decide +kernel
theorem dX12_stages_160 : decode cX12_stages 160 = .ok (.getfield 226, 3) := by decide +kernel
theorem dX12_stages_163 : decode cX12_stages 163 = .ok (.iload 5, 2) := by decide +kernel
theorem dX12_stages_165 : decode cX12_stages 165 = .ok (.iaload, 1) := by decide +kernel
theorem dX12_stages_166 : decode cX12_stages 166 = .ok (.ifCond .ne 10, 3) := by decide +kernel
theorem dX12_stages_169 : decode cX12_stages 169 = .ok (.aload_n 0, 1) := by decide +kernel
theorem dX12_stages_170 : decode cX12_stages 170 = .ok (.invokevirtual 210, 3) := by decide +kernel
theorem dX12_stages_173 : decode cX12_stages 173 = .ok (.goto 7, 3) := by decide +kernel
theorem dX12_stages_176 : decode cX12_stages 176 = .ok (.aload_n 0, 1) := by decide +kernel
theorem dX12_stages_177 : decode cX12_stages 177 = .ok (.invokevirtual 204, 3) := by decide +kernel
theorem dX12_stages_180 : decode cX12_stages 180 = .ok (.invokestatic 39, 3) := by decide +kernel
theorem dX12_stages_183 : decode cX12_stages 183 = .ok (.iadd, 1) := by decide +kernel
theorem dX12_stages_184 : decode cX12_stages 184 = .ok (.istore 4, 2) := by decide +kernel
