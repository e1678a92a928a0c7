theorem dX0_lengthOf_0 : decode cX0_lengthOf 0 = .ok (.lload_n 0, 1) := by decide +kernel
theorem dX0_lengthOf_1 : decode cX0_lengthOf 1 = .ok (.bipush 32, 2) := by decide +kernel
theorem dX0_lengthOf_3 : decode cX0_lengthOf 3 = .ok (.lushr, 1) := by decide +kernel
theorem dX0_lengthOf_4 : decode cX0_lengthOf 4 = .ok (.l2i, 1) := by decide +kernel
theorem dX0_lengthOf_5 : decode cX0_lengthOf 5 = .ok (.iconst 1, 1) := by decide +kernel
theorem dX0_lengthOf_6 : decode cX0_lengthOf 6 = .ok (.isub, 1) := by decide +kernel
theorem dX0_lengthOf_7 : decode cX0_lengthOf 7 = .ok (.ireturn, 1) := by decide +kernel
theorem dX0_soundAt_0 : decode cX0_soundAt 0 = .ok (.lload_n 0, 1) := by decide +kernel
theorem dX0_soundAt_1 : decode cX0_soundAt 1 = .ok (.iconst 4, 1) := by decide +kernel
theorem dX0_soundAt_2 : decode cX0_soundAt 2 = .ok (.iload_n 2, 1) := by decide +kernel
theorem dX0_soundAt_3 : decode cX0_soundAt 3 = .ok (.imul, 1) := by decide +kernel
theorem dX0_soundAt_4 : decode cX0_soundAt 4 = .ok (.lushr, 1) := by decide +kernel
theorem dX0_soundAt_5 : decode cX0_soundAt 5 = .ok (.l2i, 1) := by decide +kernel
theorem dX0_soundAt_6 : decode cX0_soundAt 6 = .ok (.bipush 15, 2) := by decide +kernel
theorem dX0_soundAt_8 : decode cX0_soundAt 8 = .ok (.iand, 1) := by decide +kernel
theorem dX0_soundAt_9 : decode cX0_soundAt 9 = .ok (.ireturn, 1) := by decide +kernel
theorem dX0_of_0 : decode cX0_of 0 = .ok (.iload_n 2, 1) := by decide +kernel
theorem dX0_of_1 : decode cX0_of 1 = .ok (.iconst 1, 1) := by decide +kernel
theorem dX0_of_2 : decode cX0_of 2 = .ok (.iadd, 1) := by decide +kernel
theorem dX0_of_3 : decode cX0_of 3 = .ok (.i2l, 1) := by decide +kernel
theorem dX0_of_4 : decode cX0_of 4 = .ok (.bipush 32, 2) := by decide +kernel
theorem dX0_of_6 : decode cX0_of 6 = .ok (.lshl, 1) := by decide +kernel
theorem dX0_of_7 : decode cX0_of 7 = .ok (.lload_n 0, 1) := by decide +kernel
theorem dX0_of_8 : decode cX0_of 8 = .ok (.lor, 1) := by decide +kernel
theorem dX0_of_9 : decode cX0_of 9 = .ok (.lreturn, 1) := by decide +kernel
theorem dX0_tailOf_0 : decode cX0_tailOf 0 = .ok (.lload_n 0, 1) := by decide +kernel
theorem dX0_tailOf_1 : decode cX0_tailOf 1 = .ok (.invokestatic 7, 3) := by decide +kernel
theorem dX0_tailOf_4 : decode cX0_tailOf 4 = .ok (.istore_n 3, 1) := by decide +kernel
theorem dX0_tailOf_5 : decode cX0_tailOf 5 = .ok (.iload_n 3, 1) := by decide +kernel
theorem dX0_tailOf_6 : decode cX0_tailOf 6 = .ok (.iconst 1, 1) := by decide +kernel
theorem dX0_tailOf_7 : decode cX0_tailOf 7 = .ok (.isub, 1) := by decide +kernel
theorem dX0_tailOf_8 : decode cX0_tailOf 8 = .ok (.istore 4, 2) := by decide +kernel
theorem dX0_tailOf_10 : decode cX0_tailOf 10 = .ok (.iload 4, 2) := by decide +kernel
theorem dX0_tailOf_12 : decode cX0_tailOf 12 = .ok (.ifCond .lt 40, 3) := by decide +kernel
theorem dX0_tailOf_15 : decode cX0_tailOf 15 = .ok (.iload_n 2, 1) := by decide +kernel
theorem dX0_tailOf_16 : decode cX0_tailOf 16 = .ok (.lload_n 0, 1) := by decide +kernel
theorem dX0_tailOf_17 : decode cX0_tailOf 17 = .ok (.iload 4, 2) := by decide +kernel
theorem dX0_tailOf_19 : decode cX0_tailOf 19 = .ok (.invokestatic 13, 3) := by decide +kernel
theorem dX0_tailOf_22 : decode cX0_tailOf 22 = .ok (.ishr, 1) := by decide +kernel
theorem dX0_tailOf_23 : decode cX0_tailOf 23 = .ok (.iconst 1, 1) := by decide +kernel
theorem dX0_tailOf_24 : decode cX0_tailOf 24 = .ok (.iand, 1) := by decide +kernel
theorem dX0_tailOf_25 : decode cX0_tailOf 25 = .ok (.ifCond .eq 21, 3) := by decide +kernel
theorem dX0_tailOf_28 : decode cX0_tailOf 28 = .ok (.lload_n 0, 1) := by decide +kernel
theorem dX0_tailOf_29 : decode cX0_tailOf 29 = .ok (.ldc2_w 17, 3) := by decide +kernel
theorem dX0_tailOf_32 : decode cX0_tailOf 32 = .ok (.land, 1) := by decide +kernel
theorem dX0_tailOf_33 : decode cX0_tailOf 33 = .ok (.iconst 4, 1) := by decide +kernel
theorem dX0_tailOf_34 : decode cX0_tailOf 34 = .ok (.iload 4, 2) := by decide +kernel
theorem dX0_tailOf_36 : decode cX0_tailOf 36 = .ok (.imul, 1) := by decide +kernel
theorem dX0_tailOf_37 : decode cX0_tailOf 37 = .ok (.lushr, 1) := by decide +kernel
theorem dX0_tailOf_38 : decode cX0_tailOf 38 = .ok (.iload_n 3, 1) := by decide +kernel
theorem dX0_tailOf_39 : decode cX0_tailOf 39 = .ok (.iload 4, 2) := by decide +kernel
theorem dX0_tailOf_41 : decode cX0_tailOf 41 = .ok (.isub, 1) := by decide +kernel
theorem dX0_tailOf_42 : decode cX0_tailOf 42 = .ok (.invokestatic 19, 3) := by decide +kernel
theorem dX0_tailOf_45 : decode cX0_tailOf 45 = .ok (.lreturn, 1) := by decide +kernel
theorem dX0_tailOf_46 : decode cX0_tailOf 46 = .ok (.iinc 4 (-1), 3) := by decide +kernel
theorem dX0_tailOf_49 : decode cX0_tailOf 49 = .ok (.goto (-39), 3) := by decide +kernel
theorem dX0_tailOf_52 : decode cX0_tailOf 52 = .ok (.lconst 0, 1) := by decide +kernel
theorem dX0_tailOf_53 : decode cX0_tailOf 53 = .ok (.lreturn, 1) := by decide +kernel
theorem dX0_beatsOf_0 : decode cX0_beatsOf 0 = .ok (.lload_n 0, 1) := by decide +kernel
theorem dX0_beatsOf_1 : decode cX0_beatsOf 1 = .ok (.invokestatic 7, 3) := by decide +kernel
theorem dX0_beatsOf_4 : decode cX0_beatsOf 4 = .ok (.istore_n 3, 1) := by decide +kernel
theorem dX0_beatsOf_5 : decode cX0_beatsOf 5 = .ok (.iconst 0, 1) := by decide +kernel
theorem dX0_beatsOf_6 : decode cX0_beatsOf 6 = .ok (.istore 4, 2) := by decide +kernel
theorem dX0_beatsOf_8 : decode cX0_beatsOf 8 = .ok (.iconst 0, 1) := by decide +kernel
theorem dX0_beatsOf_9 : decode cX0_beatsOf 9 = .ok (.istore 5, 2) := by decide +kernel
theorem dX0_beatsOf_11 : decode cX0_beatsOf 11 = .ok (.iload 5, 2) := by decide +kernel
theorem dX0_beatsOf_13 : decode cX0_beatsOf 13 = .ok (.iload_n 3, 1) := by decide +kernel
theorem dX0_beatsOf_14 : decode cX0_beatsOf 14 = .ok (.if_icmp .ge 24, 3) := by decide +kernel
theorem dX0_beatsOf_17 : decode cX0_beatsOf 17 = .ok (.iload 4, 2) := by decide +kernel
theorem dX0_beatsOf_19 : decode cX0_beatsOf 19 = .ok (.iload_n 2, 1) := by decide +kernel
theorem dX0_beatsOf_20 : decode cX0_beatsOf 20 = .ok (.lload_n 0, 1) := by decide +kernel
theorem dX0_beatsOf_21 : decode cX0_beatsOf 21 = .ok (.iload 5, 2) := by decide +kernel
theorem dX0_beatsOf_23 : decode cX0_beatsOf 23 = .ok (.invokestatic 13, 3) := by decide +kernel
theorem dX0_beatsOf_26 : decode cX0_beatsOf 26 = .ok (.ishr, 1) := by decide +kernel
theorem dX0_beatsOf_27 : decode cX0_beatsOf 27 = .ok (.iconst 1, 1) := by decide +kernel
theorem dX0_beatsOf_28 : decode cX0_beatsOf 28 = .ok (.iand, 1) := by decide +kernel
theorem dX0_beatsOf_29 : decode cX0_beatsOf 29 = .ok (.iadd, 1) := by decide +kernel
theorem dX0_beatsOf_30 : decode cX0_beatsOf 30 = .ok (.istore 4, 2) := by decide +kernel
theorem dX0_beatsOf_32 : decode cX0_beatsOf 32 = .ok (.iinc 5 1, 3) := by decide +kernel
theorem dX0_beatsOf_35 : decode cX0_beatsOf 35 = .ok (.goto (-24), 3) := by decide +kernel
theorem dX0_beatsOf_38 : decode cX0_beatsOf 38 = .ok (.iload 4, 2) := by decide +kernel
theorem dX0_beatsOf_40 : decode cX0_beatsOf 40 = .ok (.ireturn, 1) := by decide +kernel
theorem dX1_init_0 : decode cX1_init 0 = .ok (.aload_n 0, 1) := by decide +kernel
theorem dX1_init_1 : decode cX1_init 1 = .ok (.invokespecial 3, 3) := by decide +kernel
theorem dX1_init_4 : decode cX1_init 4 = .ok (.aload_n 0, 1) := by decide +kernel
theorem dX1_init_5 : decode cX1_init 5 = .ok (.iconst 0, 1) := by decide +kernel
theorem dX1_init_6 : decode cX1_init 6 = .ok (.putfield 9, 3) := by decide +kernel
theorem dX1_init_9 : decode cX1_init 9 = .ok (.aload_n 0, 1) := by decide +kernel
theorem dX1_init_10 : decode cX1_init 10 = .ok (.iconst 0, 1) := by decide +kernel
theorem dX1_init_11 : decode cX1_init 11 = .ok (.putfield 15, 3) := by decide +kernel
theorem dX1_init_14 : decode cX1_init 14 = .ok (.aload_n 0, 1) := by decide +kernel
theorem dX1_init_15 : decode cX1_init 15 = .ok (.iconst 0, 1) := by decide +kernel
theorem dX1_init_16 : decode cX1_init 16 = .ok (.putfield 19, 3) := by decide +kernel
theorem dX1_init_19 : decode cX1_init 19 = .ok (.aload_n 0, 1) := by decide +kernel
theorem dX1_init_20 : decode cX1_init 20 = .ok (.bipush 16, 2) := by decide +kernel
theorem dX1_init_22 : decode cX1_init 22 = .ok (.newarray .int, 2) := by decide +kernel
theorem dX1_init_24 : decode cX1_init 24 = .ok (.putfield 22, 3) := by decide +kernel
theorem dX1_init_27 : decode cX1_init 27 = .ok (.aload_n 0, 1) := by decide +kernel
theorem dX1_init_28 : decode cX1_init 28 = .ok (.bipush 16, 2) := by decide +kernel
theorem dX1_init_30 : decode cX1_init 30 = .ok (.newarray .int, 2) := by decide +kernel
theorem dX1_init_32 : decode cX1_init 32 = .ok (.putfield 26, 3) := by decide +kernel
theorem dX1_init_35 : decode cX1_init 35 = .ok (.aload_n 0, 1) := by decide +kernel
theorem dX1_init_36 : decode cX1_init 36 = .ok (.bipush 6, 2) := by decide +kernel
theorem dX1_init_38 : decode cX1_init 38 = .ok (.newarray .int, 2) := by decide +kernel
theorem dX1_init_40 : decode cX1_init 40 = .ok (.putfield 29, 3) := by decide +kernel
theorem dX1_init_43 : decode cX1_init 43 = .ok (.aload_n 0, 1) := by decide +kernel
theorem dX1_init_44 : decode cX1_init 44 = .ok (.bipush 6, 2) := by decide +kernel
theorem dX1_init_46 : decode cX1_init 46 = .ok (.newarray .int, 2) := by decide +kernel
theorem dX1_init_48 : decode cX1_init 48 = .ok (.putfield 32, 3) := by decide +kernel
theorem dX1_init_51 : decode cX1_init 51 = .ok (.return_, 1) := by decide +kernel
theorem dX1_take_0 : decode cX1_take 0 = .ok (.aload_n 0, 1) := by decide +kernel
theorem dX1_take_1 : decode cX1_take 1 = .ok (.iconst 1, 1) := by decide +kernel
theorem dX1_take_2 : decode cX1_take 2 = .ok (.putfield 9, 3) := by decide +kernel
theorem dX1_take_5 : decode cX1_take 5 = .ok (.aload_n 0, 1) := by decide +kernel
theorem dX1_take_6 : decode cX1_take 6 = .ok (.aload_n 1, 1) := by decide +kernel
theorem dX1_take_7 : decode cX1_take 7 = .ok (.getfield 35, 3) := by decide +kernel
theorem dX1_take_10 : decode cX1_take 10 = .ok (.putfield 15, 3) := by decide +kernel
theorem dX1_take_13 : decode cX1_take 13 = .ok (.aload_n 0, 1) := by decide +kernel
theorem dX1_take_14 : decode cX1_take 14 = .ok (.aload_n 1, 1) := by decide +kernel
theorem dX1_take_15 : decode cX1_take 15 = .ok (.getfield 38, 3) := by decide +kernel
theorem dX1_take_18 : decode cX1_take 18 = .ok (.putfield 19, 3) := by decide +kernel
theorem dX1_take_21 : decode cX1_take 21 = .ok (.iconst 0, 1) := by decide +kernel
theorem dX1_take_22 : decode cX1_take 22 = .ok (.istore 4, 2) := by decide +kernel
theorem dX1_take_24 : decode cX1_take 24 = .ok (.iload 4, 2) := by decide +kernel
theorem dX1_take_26 : decode cX1_take 26 = .ok (.aload_n 0, 1) := by decide +kernel
theorem dX1_take_27 : decode cX1_take 27 = .ok (.getfield 15, 3) := by decide +kernel
theorem dX1_take_30 : decode cX1_take 30 = .ok (.if_icmp .ge 43, 3) := by decide +kernel
theorem dX1_take_33 : decode cX1_take 33 = .ok (.aload_n 0, 1) := by decide +kernel
theorem dX1_take_34 : decode cX1_take 34 = .ok (.getfield 22, 3) := by decide +kernel
theorem dX1_take_37 : decode cX1_take 37 = .ok (.iload 4, 2) := by decide +kernel
theorem dX1_take_39 : decode cX1_take 39 = .ok (.aload_n 1, 1) := by decide +kernel
theorem dX1_take_40 : decode cX1_take 40 = .ok (.getfield 39, 3) := by decide +kernel
theorem dX1_take_43 : decode cX1_take 43 = .ok (.iload 4, 2) := by decide +kernel
theorem dX1_take_45 : decode cX1_take 45 = .ok (.aaload, 1) := by decide +kernel
theorem dX1_take_46 : decode cX1_take 46 = .ok (.getfield 43, 3) := by decide +kernel
theorem dX1_take_49 : decode cX1_take 49 = .ok (.iastore, 1) := by decide +kernel
theorem dX1_take_50 : decode cX1_take 50 = .ok (.aload_n 0, 1) := by decide +kernel
theorem dX1_take_51 : decode cX1_take 51 = .ok (.getfield 26, 3) := by decide +kernel
theorem dX1_take_54 : decode cX1_take 54 = .ok (.iload 4, 2) := by decide +kernel
theorem dX1_take_56 : decode cX1_take 56 = .ok (.aload_n 1, 1) := by decide +kernel
theorem dX1_take_57 : decode cX1_take 57 = .ok (.getfield 39, 3) := by decide +kernel
theorem dX1_take_60 : decode cX1_take 60 = .ok (.iload 4, 2) := by decide +kernel
theorem dX1_take_62 : decode cX1_take 62 = .ok (.aaload, 1) := by decide +kernel
theorem dX1_take_63 : decode cX1_take 63 = .ok (.getfield 48, 3) := by decide +kernel
theorem dX1_take_66 : decode cX1_take 66 = .ok (.iastore, 1) := by decide +kernel
theorem dX1_take_67 : decode cX1_take 67 = .ok (.iinc 4 1, 3) := by decide +kernel
theorem dX1_take_70 : decode cX1_take 70 = .ok (.goto (-46), 3) := by decide +kernel
theorem dX1_take_73 : decode cX1_take 73 = .ok (.aload_n 2, 1) := by decide +kernel
theorem dX1_take_74 : decode cX1_take 74 = .ok (.iconst 0, 1) := by decide +kernel
theorem dX1_take_75 : decode cX1_take 75 = .ok (.aload_n 0, 1) := by decide +kernel
theorem dX1_take_76 : decode cX1_take 76 = .ok (.getfield 29, 3) := by decide +kernel
theorem dX1_take_79 : decode cX1_take 79 = .ok (.iconst 0, 1) := by decide +kernel
theorem dX1_take_80 : decode cX1_take 80 = .ok (.bipush 6, 2) := by decide +kernel
theorem dX1_take_82 : decode cX1_take 82 = .ok (.invokestatic 51, 3) := by decide +kernel
theorem dX1_take_85 : decode cX1_take 85 = .ok (.aload_n 3, 1) := by decide +kernel
theorem dX1_take_86 : decode cX1_take 86 = .ok (.iconst 0, 1) := by decide +kernel
theorem dX1_take_87 : decode cX1_take 87 = .ok (.aload_n 0, 1) := by decide +kernel
theorem dX1_take_88 : decode cX1_take 88 = .ok (.getfield 32, 3) := by decide +kernel
theorem dX1_take_91 : decode cX1_take 91 = .ok (.iconst 0, 1) := by decide +kernel
theorem dX1_take_92 : decode cX1_take 92 = .ok (.bipush 6, 2) := by decide +kernel
theorem dX1_take_94 : decode cX1_take 94 = .ok (.invokestatic 51, 3) := by decide +kernel
theorem dX1_take_97 : decode cX1_take 97 = .ok (.return_, 1) := by decide +kernel
theorem dX1_giveBack_0 : decode cX1_giveBack 0 = .ok (.iconst 1, 1) := by decide +kernel
theorem dX1_giveBack_1 : decode cX1_giveBack 1 = .ok (.aload_n 0, 1) := by decide +kernel
theorem dX1_giveBack_2 : decode cX1_giveBack 2 = .ok (.getfield 15, 3) := by decide +kernel
theorem dX1_giveBack_5 : decode cX1_giveBack 5 = .ok (.ishl, 1) := by decide +kernel
theorem dX1_giveBack_6 : decode cX1_giveBack 6 = .ok (.iconst 1, 1) := by decide +kernel
theorem dX1_giveBack_7 : decode cX1_giveBack 7 = .ok (.isub, 1) := by decide +kernel
theorem dX1_giveBack_8 : decode cX1_giveBack 8 = .ok (.iconst (-1), 1) := by decide +kernel
theorem dX1_giveBack_9 : decode cX1_giveBack 9 = .ok (.ixor, 1) := by decide +kernel
theorem dX1_giveBack_10 : decode cX1_giveBack 10 = .ok (.istore_n 3, 1) := by decide +kernel
theorem dX1_giveBack_11 : decode cX1_giveBack 11 = .ok (.aload_n 1, 1) := by decide +kernel
theorem dX1_giveBack_12 : decode cX1_giveBack 12 = .ok (.aload_n 1, 1) := by decide +kernel
theorem dX1_giveBack_13 : decode cX1_giveBack 13 = .ok (.getfield 38, 3) := by decide +kernel
theorem dX1_giveBack_16 : decode cX1_giveBack 16 = .ok (.iload_n 3, 1) := by decide +kernel
theorem dX1_giveBack_17 : decode cX1_giveBack 17 = .ok (.iand, 1) := by decide +kernel
theorem dX1_giveBack_18 : decode cX1_giveBack 18 = .ok (.aload_n 0, 1) := by decide +kernel
theorem dX1_giveBack_19 : decode cX1_giveBack 19 = .ok (.getfield 19, 3) := by decide +kernel
theorem dX1_giveBack_22 : decode cX1_giveBack 22 = .ok (.ior, 1) := by decide +kernel
theorem dX1_giveBack_23 : decode cX1_giveBack 23 = .ok (.putfield 38, 3) := by decide +kernel
theorem dX1_giveBack_26 : decode cX1_giveBack 26 = .ok (.iconst 0, 1) := by decide +kernel
theorem dX1_giveBack_27 : decode cX1_giveBack 27 = .ok (.istore 4, 2) := by decide +kernel
theorem dX1_giveBack_29 : decode cX1_giveBack 29 = .ok (.iload 4, 2) := by decide +kernel
theorem dX1_giveBack_31 : decode cX1_giveBack 31 = .ok (.aload_n 0, 1) := by decide +kernel
theorem dX1_giveBack_32 : decode cX1_giveBack 32 = .ok (.getfield 15, 3) := by decide +kernel
theorem dX1_giveBack_35 : decode cX1_giveBack 35 = .ok (.if_icmp .ge 43, 3) := by decide +kernel
theorem dX1_giveBack_38 : decode cX1_giveBack 38 = .ok (.aload_n 1, 1) := by decide +kernel
theorem dX1_giveBack_39 : decode cX1_giveBack 39 = .ok (.getfield 39, 3) := by decide +kernel
theorem dX1_giveBack_42 : decode cX1_giveBack 42 = .ok (.iload 4, 2) := by decide +kernel
theorem dX1_giveBack_44 : decode cX1_giveBack 44 = .ok (.aaload, 1) := by decide +kernel
theorem dX1_giveBack_45 : decode cX1_giveBack 45 = .ok (.aload_n 0, 1) := by decide +kernel
theorem dX1_giveBack_46 : decode cX1_giveBack 46 = .ok (.getfield 22, 3) := by decide +kernel
theorem dX1_giveBack_49 : decode cX1_giveBack 49 = .ok (.iload 4, 2) := by decide +kernel
theorem dX1_giveBack_51 : decode cX1_giveBack 51 = .ok (.iaload, 1) := by decide +kernel
theorem dX1_giveBack_52 : decode cX1_giveBack 52 = .ok (.putfield 43, 3) := by decide +kernel
theorem dX1_giveBack_55 : decode cX1_giveBack 55 = .ok (.aload_n 1, 1) := by decide +kernel
theorem dX1_giveBack_56 : decode cX1_giveBack 56 = .ok (.getfield 39, 3) := by decide +kernel
theorem dX1_giveBack_59 : decode cX1_giveBack 59 = .ok (.iload 4, 2) := by decide +kernel
theorem dX1_giveBack_61 : decode cX1_giveBack 61 = .ok (.aaload, 1) := by decide +kernel
theorem dX1_giveBack_62 : decode cX1_giveBack 62 = .ok (.aload_n 0, 1) := by decide +kernel
theorem dX1_giveBack_63 : decode cX1_giveBack 63 = .ok (.getfield 26, 3) := by decide +kernel
theorem dX1_giveBack_66 : decode cX1_giveBack 66 = .ok (.iload 4, 2) := by decide +kernel
theorem dX1_giveBack_68 : decode cX1_giveBack 68 = .ok (.iaload, 1) := by decide +kernel
theorem dX1_giveBack_69 : decode cX1_giveBack 69 = .ok (.putfield 48, 3) := by decide +kernel
theorem dX1_giveBack_72 : decode cX1_giveBack 72 = .ok (.iinc 4 1, 3) := by decide +kernel
theorem dX1_giveBack_75 : decode cX1_giveBack 75 = .ok (.goto (-46), 3) := by decide +kernel
theorem dX1_giveBack_78 : decode cX1_giveBack 78 = .ok (.aload_n 0, 1) := by decide +kernel
theorem dX1_giveBack_79 : decode cX1_giveBack 79 = .ok (.getfield 29, 3) := by decide +kernel
theorem dX1_giveBack_82 : decode cX1_giveBack 82 = .ok (.iconst 0, 1) := by decide +kernel
theorem dX1_giveBack_83 : decode cX1_giveBack 83 = .ok (.aload_n 2, 1) := by decide +kernel
theorem dX1_giveBack_84 : decode cX1_giveBack 84 = .ok (.iconst 0, 1) := by decide +kernel
theorem dX1_giveBack_85 : decode cX1_giveBack 85 = .ok (.bipush 6, 2) := by decide +kernel
theorem dX1_giveBack_87 : decode cX1_giveBack 87 = .ok (.invokestatic 51, 3) := by decide +kernel
theorem dX1_giveBack_90 : decode cX1_giveBack 90 = .ok (.return_, 1) := by decide +kernel
theorem dX2_init_0 : decode cX2_init 0 = .ok (.aload_n 0, 1) := by decide +kernel
theorem dX2_init_1 : decode cX2_init 1 = .ok (.invokespecial 3, 3) := by decide +kernel
theorem dX2_init_4 : decode cX2_init 4 = .ok (.return_, 1) := by decide +kernel
theorem dX2_read_0 : decode cX2_read 0 = .ok (.aload_n 0, 1) := by decide +kernel
theorem dX2_read_1 : decode cX2_read 1 = .ok (.aload_n 1, 1) := by decide +kernel
theorem dX2_read_2 : decode cX2_read 2 = .ok (.iconst 0, 1) := by decide +kernel
theorem dX2_read_3 : decode cX2_read 3 = .ok (.invokevirtual 9, 3) := by decide +kernel
theorem dX2_read_6 : decode cX2_read 6 = .ok (.putfield 15, 3) := by decide +kernel
theorem dX2_read_9 : decode cX2_read 9 = .ok (.aload_n 0, 1) := by decide +kernel
theorem dX2_read_10 : decode cX2_read 10 = .ok (.getfield 15, 3) := by decide +kernel
theorem dX2_read_13 : decode cX2_read 13 = .ok (.invokestatic 19, 3) := by decide +kernel
theorem dX2_read_16 : decode cX2_read 16 = .ok (.ifCond .ne 5, 3) := by decide +kernel
theorem dX2_read_19 : decode cX2_read 19 = .ok (.iconst 0, 1) := by decide +kernel
theorem dX2_read_20 : decode cX2_read 20 = .ok (.ireturn, 1) := by decide +kernel
theorem dX2_read_21 : decode cX2_read 21 = .ok (.aload_n 1, 1) := by decide +kernel
theorem dX2_read_22 : decode cX2_read 22 = .ok (.iconst 1, 1) := by decide +kernel
theorem dX2_read_23 : decode cX2_read 23 = .ok (.invokevirtual 9, 3) := by decide +kernel
theorem dX2_read_26 : decode cX2_read 26 = .ok (.bipush 62, 2) := by decide +kernel
theorem dX2_read_28 : decode cX2_read 28 = .ok (.if_icmp .eq 5, 3) := by decide +kernel
theorem dX2_read_31 : decode cX2_read 31 = .ok (.iconst 1, 1) := by decide +kernel
theorem dX2_read_32 : decode cX2_read 32 = .ok (.ireturn, 1) := by decide +kernel
theorem dX2_read_33 : decode cX2_read 33 = .ok (.iconst 2, 1) := by decide +kernel
theorem dX2_read_34 : decode cX2_read 34 = .ok (.istore_n 2, 1) := by decide +kernel
theorem dX2_read_35 : decode cX2_read 35 = .ok (.aload_n 0, 1) := by decide +kernel
theorem dX2_read_36 : decode cX2_read 36 = .ok (.iconst (-1), 1) := by decide +kernel
theorem dX2_read_37 : decode cX2_read 37 = .ok (.putfield 23, 3) := by decide +kernel
theorem dX2_read_40 : decode cX2_read 40 = .ok (.aload_n 1, 1) := by decide +kernel
theorem dX2_read_41 : decode cX2_read 41 = .ok (.iload_n 2, 1) := by decide +kernel
theorem dX2_read_42 : decode cX2_read 42 = .ok (.invokevirtual 9, 3) := by decide +kernel
theorem dX2_read_45 : decode cX2_read 45 = .ok (.invokestatic 26, 3) := by decide +kernel
theorem dX2_read_48 : decode cX2_read 48 = .ok (.ifCond .eq 18, 3) := by decide +kernel
theorem dX2_read_51 : decode cX2_read 51 = .ok (.aload_n 0, 1) := by decide +kernel
theorem dX2_read_52 : decode cX2_read 52 = .ok (.aload_n 1, 1) := by decide +kernel
theorem dX2_read_53 : decode cX2_read 53 = .ok (.iload_n 2, 1) := by decide +kernel
theorem dX2_read_54 : decode cX2_read 54 = .ok (.invokevirtual 9, 3) := by decide +kernel
theorem dX2_read_57 : decode cX2_read 57 = .ok (.bipush 97, 2) := by decide +kernel
theorem dX2_read_59 : decode cX2_read 59 = .ok (.isub, 1) := by decide +kernel
theorem dX2_read_60 : decode cX2_read 60 = .ok (.putfield 23, 3) := by decide +kernel
theorem dX2_read_63 : decode cX2_read 63 = .ok (.iinc 2 1, 3) := by decide +kernel
theorem dX2_read_66 : decode cX2_read 66 = .ok (.aload_n 0, 1) := by decide +kernel
theorem dX2_read_67 : decode cX2_read 67 = .ok (.iconst (-1), 1) := by decide +kernel
theorem dX2_read_68 : decode cX2_read 68 = .ok (.putfield 29, 3) := by decide +kernel
theorem dX2_read_71 : decode cX2_read 71 = .ok (.aload_n 0, 1) := by decide +kernel
theorem dX2_read_72 : decode cX2_read 72 = .ok (.iconst (-1), 1) := by decide +kernel
theorem dX2_read_73 : decode cX2_read 73 = .ok (.putfield 32, 3) := by decide +kernel
theorem dX2_read_76 : decode cX2_read 76 = .ok (.aload_n 1, 1) := by decide +kernel
theorem dX2_read_77 : decode cX2_read 77 = .ok (.iload_n 2, 1) := by decide +kernel
theorem dX2_read_78 : decode cX2_read 78 = .ok (.invokevirtual 9, 3) := by decide +kernel
theorem dX2_read_81 : decode cX2_read 81 = .ok (.bipush 47, 2) := by decide +kernel
theorem dX2_read_83 : decode cX2_read 83 = .ok (.if_icmp .ne 14, 3) := by decide +kernel
theorem dX2_read_86 : decode cX2_read 86 = .ok (.aload_n 0, 1) := by decide +kernel
theorem dX2_read_87 : decode cX2_read 87 = .ok (.aload_n 1, 1) := by decide +kernel
theorem dX2_read_88 : decode cX2_read 88 = .ok (.iload_n 2, 1) := by decide +kernel
theorem dX2_read_89 : decode cX2_read 89 = .ok (.iconst 1, 1) := by decide +kernel
theorem dX2_read_90 : decode cX2_read 90 = .ok (.iadd, 1) := by decide +kernel
theorem dX2_read_91 : decode cX2_read 91 = .ok (.invokevirtual 35, 3) := by decide +kernel
theorem dX2_read_94 : decode cX2_read 94 = .ok (.goto 8, 3) := by decide +kernel
theorem dX2_read_97 : decode cX2_read 97 = .ok (.aload_n 1, 1) := by decide +kernel
theorem dX2_read_98 : decode cX2_read 98 = .ok (.iload_n 2, 1) := by decide +kernel
theorem dX2_read_99 : decode cX2_read 99 = .ok (.invokestatic 39, 3) := by decide +kernel
theorem dX2_read_102 : decode cX2_read 102 = .ok (.ireturn, 1) := by decide +kernel
theorem dX2_readSides_0 : decode cX2_readSides 0 = .ok (.iload_n 2, 1) := by decide +kernel
theorem dX2_readSides_1 : decode cX2_readSides 1 = .ok (.istore_n 3, 1) := by decide +kernel
theorem dX2_readSides_2 : decode cX2_readSides 2 = .ok (.aload_n 1, 1) := by decide +kernel
theorem dX2_readSides_3 : decode cX2_readSides 3 = .ok (.iload_n 3, 1) := by decide +kernel
theorem dX2_readSides_4 : decode cX2_readSides 4 = .ok (.invokevirtual 9, 3) := by decide +kernel
theorem dX2_readSides_7 : decode cX2_readSides 7 = .ok (.invokestatic 42, 3) := by decide +kernel
theorem dX2_readSides_10 : decode cX2_readSides 10 = .ok (.ifCond .eq 15, 3) := by decide +kernel
theorem dX2_readSides_13 : decode cX2_readSides 13 = .ok (.aload_n 0, 1) := by decide +kernel
theorem dX2_readSides_14 : decode cX2_readSides 14 = .ok (.aload_n 1, 1) := by decide +kernel
theorem dX2_readSides_15 : decode cX2_readSides 15 = .ok (.iload_n 3, 1) := by decide +kernel
theorem dX2_readSides_16 : decode cX2_readSides 16 = .ok (.invokevirtual 9, 3) := by decide +kernel
theorem dX2_readSides_19 : decode cX2_readSides 19 = .ok (.putfield 29, 3) := by decide +kernel
theorem dX2_readSides_22 : decode cX2_readSides 22 = .ok (.iinc 3 1, 3) := by decide +kernel
theorem dX2_readSides_25 : decode cX2_readSides 25 = .ok (.aload_n 1, 1) := by decide +kernel
theorem dX2_readSides_26 : decode cX2_readSides 26 = .ok (.iload_n 3, 1) := by decide +kernel
theorem dX2_readSides_27 : decode cX2_readSides 27 = .ok (.invokevirtual 9, 3) := by decide +kernel
theorem dX2_readSides_30 : decode cX2_readSides 30 = .ok (.bipush 95, 2) := by decide +kernel
theorem dX2_readSides_32 : decode cX2_readSides 32 = .ok (.if_icmp .eq 5, 3) := by decide +kernel
theorem dX2_readSides_35 : decode cX2_readSides 35 = .ok (.iload_n 3, 1) := by decide +kernel
theorem dX2_readSides_36 : decode cX2_readSides 36 = .ok (.ireturn, 1) := by decide +kernel
theorem dX2_readSides_37 : decode cX2_readSides 37 = .ok (.iinc 3 1, 3) := by decide +kernel
theorem dX2_readSides_40 : decode cX2_readSides 40 = .ok (.aload_n 1, 1) := by decide +kernel
theorem dX2_readSides_41 : decode cX2_readSides 41 = .ok (.iload_n 3, 1) := by decide +kernel
theorem dX2_readSides_42 : decode cX2_readSides 42 = .ok (.invokevirtual 9, 3) := by decide +kernel
theorem dX2_readSides_45 : decode cX2_readSides 45 = .ok (.invokestatic 42, 3) := by decide +kernel
theorem dX2_readSides_48 : decode cX2_readSides 48 = .ok (.ifCond .eq 15, 3) := by decide +kernel
theorem dX2_readSides_51 : decode cX2_readSides 51 = .ok (.aload_n 0, 1) := by decide +kernel
theorem dX2_readSides_52 : decode cX2_readSides 52 = .ok (.aload_n 1, 1) := by decide +kernel
theorem dX2_readSides_53 : decode cX2_readSides 53 = .ok (.iload_n 3, 1) := by decide +kernel
theorem dX2_readSides_54 : decode cX2_readSides 54 = .ok (.invokevirtual 9, 3) := by decide +kernel
theorem dX2_readSides_57 : decode cX2_readSides 57 = .ok (.putfield 32, 3) := by decide +kernel
theorem dX2_readSides_60 : decode cX2_readSides 60 = .ok (.iinc 3 1, 3) := by decide +kernel
theorem dX2_readSides_63 : decode cX2_readSides 63 = .ok (.aload_n 1, 1) := by decide +kernel
theorem dX2_readSides_64 : decode cX2_readSides 64 = .ok (.iload_n 3, 1) := by decide +kernel
theorem dX2_readSides_65 : decode cX2_readSides 65 = .ok (.invokestatic 39, 3) := by decide +kernel
theorem dX2_readSides_68 : decode cX2_readSides 68 = .ok (.ireturn, 1) := by decide +kernel
theorem dX2_overAt_0 : decode cX2_overAt 0 = .ok (.aload_n 0, 1) := by decide +kernel
theorem dX2_overAt_1 : decode cX2_overAt 1 = .ok (.iload_n 1, 1) := by decide +kernel
theorem dX2_overAt_2 : decode cX2_overAt 2 = .ok (.invokevirtual 9, 3) := by decide +kernel
theorem dX2_overAt_5 : decode cX2_overAt 5 = .ok (.iconst (-1), 1) := by decide +kernel
theorem dX2_overAt_6 : decode cX2_overAt 6 = .ok (.if_icmp .ne 7, 3) := by decide +kernel
theorem dX2_overAt_9 : decode cX2_overAt 9 = .ok (.iconst (-1), 1) := by decide +kernel
theorem dX2_overAt_10 : decode cX2_overAt 10 = .ok (.goto 4, 3) := by decide +kernel
theorem dX2_overAt_13 : decode cX2_overAt 13 = .ok (.iload_n 1, 1) := by decide +kernel
theorem dX2_overAt_14 : decode cX2_overAt 14 = .ok (.ireturn, 1) := by decide +kernel
theorem dX2_isSide_0 : decode cX2_isSide 0 = .ok (.iload_n 0, 1) := by decide +kernel
theorem dX2_isSide_1 : decode cX2_isSide 1 = .ok (.bipush 35, 2) := by decide +kernel
theorem dX2_isSide_3 : decode cX2_isSide 3 = .ok (.if_icmp .eq 10, 3) := by decide +kernel
theorem dX2_isSide_6 : decode cX2_isSide 6 = .ok (.iload_n 0, 1) := by decide +kernel
theorem dX2_isSide_7 : decode cX2_isSide 7 = .ok (.invokestatic 19, 3) := by decide +kernel
theorem dX2_isSide_10 : decode cX2_isSide 10 = .ok (.ifCond .eq 7, 3) := by decide +kernel
theorem dX2_isSide_13 : decode cX2_isSide 13 = .ok (.iconst 1, 1) := by decide +kernel
theorem dX2_isSide_14 : decode cX2_isSide 14 = .ok (.goto 4, 3) := by decide +kernel
theorem dX2_isSide_17 : decode cX2_isSide 17 = .ok (.iconst 0, 1) := by decide +kernel
theorem dX2_isSide_18 : decode cX2_isSide 18 = .ok (.ireturn, 1) := by decide +kernel
theorem dX2_tune_0 : decode cX2_tune 0 = .ok (.aload_n 0, 1) := by decide +kernel
theorem dX2_tune_1 : decode cX2_tune 1 = .ok (.aload_n 0, 1) := by decide +kernel
theorem dX2_tune_2 : decode cX2_tune 2 = .ok (.getfield 15, 3) := by decide +kernel
theorem dX2_tune_5 : decode cX2_tune 5 = .ok (.aload_n 1, 1) := by decide +kernel
theorem dX2_tune_6 : decode cX2_tune 6 = .ok (.invokestatic 45, 3) := by decide +kernel
theorem dX2_tune_9 : decode cX2_tune 9 = .ok (.putfield 49, 3) := by decide +kernel
theorem dX2_tune_12 : decode cX2_tune 12 = .ok (.aload_n 0, 1) := by decide +kernel
theorem dX2_tune_13 : decode cX2_tune 13 = .ok (.aload_n 0, 1) := by decide +kernel
theorem dX2_tune_14 : decode cX2_tune 14 = .ok (.getfield 29, 3) := by decide +kernel
theorem dX2_tune_17 : decode cX2_tune 17 = .ok (.aload_n 1, 1) := by decide +kernel
theorem dX2_tune_18 : decode cX2_tune 18 = .ok (.invokestatic 45, 3) := by decide +kernel
theorem dX2_tune_21 : decode cX2_tune 21 = .ok (.putfield 52, 3) := by decide +kernel
theorem dX2_tune_24 : decode cX2_tune 24 = .ok (.aload_n 0, 1) := by decide +kernel
theorem dX2_tune_25 : decode cX2_tune 25 = .ok (.aload_n 0, 1) := by decide +kernel
theorem dX2_tune_26 : decode cX2_tune 26 = .ok (.getfield 32, 3) := by decide +kernel
theorem dX2_tune_29 : decode cX2_tune 29 = .ok (.aload_n 1, 1) := by decide +kernel
theorem dX2_tune_30 : decode cX2_tune 30 = .ok (.invokestatic 45, 3) := by decide +kernel
theorem dX2_tune_33 : decode cX2_tune 33 = .ok (.putfield 55, 3) := by decide +kernel
theorem dX2_tune_36 : decode cX2_tune 36 = .ok (.return_, 1) := by decide +kernel
theorem dX2_setOf_0 : decode cX2_setOf 0 = .ok (.iload_n 0, 1) := by decide +kernel
theorem dX2_setOf_1 : decode cX2_setOf 1 = .ok (.iconst (-1), 1) := by decide +kernel
theorem dX2_setOf_2 : decode cX2_setOf 2 = .ok (.if_icmp .ne 6, 3) := by decide +kernel
theorem dX2_setOf_5 : decode cX2_setOf 5 = .ok (.ldc 58, 2) := by decide +kernel
theorem dX2_setOf_7 : decode cX2_setOf 7 = .ok (.ireturn, 1) := by decide +kernel
theorem dX2_setOf_8 : decode cX2_setOf 8 = .ok (.iload_n 0, 1) := by decide +kernel
theorem dX2_setOf_9 : decode cX2_setOf 9 = .ok (.bipush 35, 2) := by decide +kernel
theorem dX2_setOf_11 : decode cX2_setOf 11 = .ok (.if_icmp .ne 6, 3) := by decide +kernel
theorem dX2_setOf_14 : decode cX2_setOf 14 = .ok (.ldc 59, 2) := by decide +kernel
theorem dX2_setOf_16 : decode cX2_setOf 16 = .ok (.ireturn, 1) := by decide +kernel
theorem dX2_setOf_17 : decode cX2_setOf 17 = .ok (.iload_n 0, 1) := by decide +kernel
theorem dX2_setOf_18 : decode cX2_setOf 18 = .ok (.invokestatic 26, 3) := by decide +kernel
theorem dX2_setOf_21 : decode cX2_setOf 21 = .ok (.ifCond .eq 10, 3) := by decide +kernel
theorem dX2_setOf_24 : decode cX2_setOf 24 = .ok (.iconst 1, 1) := by decide +kernel
theorem dX2_setOf_25 : decode cX2_setOf 25 = .ok (.iload_n 0, 1) := by decide +kernel
theorem dX2_setOf_26 : decode cX2_setOf 26 = .ok (.bipush 97, 2) := by decide +kernel
theorem dX2_setOf_28 : decode cX2_setOf 28 = .ok (.isub, 1) := by decide +kernel
theorem dX2_setOf_29 : decode cX2_setOf 29 = .ok (.ishl, 1) := by decide +kernel
theorem dX2_setOf_30 : decode cX2_setOf 30 = .ok (.ireturn, 1) := by decide +kernel
theorem dX2_setOf_31 : decode cX2_setOf 31 = .ok (.iload_n 0, 1) := by decide +kernel
theorem dX2_setOf_32 : decode cX2_setOf 32 = .ok (.bipush 65, 2) := by decide +kernel
theorem dX2_setOf_34 : decode cX2_setOf 34 = .ok (.isub, 1) := by decide +kernel
theorem dX2_setOf_35 : decode cX2_setOf 35 = .ok (.istore_n 2, 1) := by decide +kernel
theorem dX2_setOf_36 : decode cX2_setOf 36 = .ok (.iload_n 2, 1) := by decide +kernel
theorem dX2_setOf_37 : decode cX2_setOf 37 = .ok (.aload_n 1, 1) := by decide +kernel
theorem dX2_setOf_38 : decode cX2_setOf 38 = .ok (.arraylength, 1) := by decide +kernel
theorem dX2_setOf_39 : decode cX2_setOf 39 = .ok (.invokestatic 60, 3) := by decide +kernel
theorem dX2_setOf_42 : decode cX2_setOf 42 = .ok (.ifCond .eq 9, 3) := by decide +kernel
theorem dX2_setOf_45 : decode cX2_setOf 45 = .ok (.aload_n 1, 1) := by decide +kernel
theorem dX2_setOf_46 : decode cX2_setOf 46 = .ok (.iload_n 2, 1) := by decide +kernel
theorem dX2_setOf_47 : decode cX2_setOf 47 = .ok (.iaload, 1) := by decide +kernel
theorem dX2_setOf_48 : decode cX2_setOf 48 = .ok (.goto 4, 3) := by decide +kernel
theorem dX2_setOf_51 : decode cX2_setOf 51 = .ok (.iconst 0, 1) := by decide +kernel
theorem dX2_setOf_52 : decode cX2_setOf 52 = .ok (.ireturn, 1) := by decide +kernel
theorem dX2_workOn_0 : decode cX2_workOn 0 = .ok (.lload_n 1, 1) := by decide +kernel
theorem dX2_workOn_1 : decode cX2_workOn 1 = .ok (.invokestatic 66, 3) := by decide +kernel
theorem dX2_workOn_4 : decode cX2_workOn 4 = .ok (.istore_n 3, 1) := by decide +kernel
theorem dX2_workOn_5 : decode cX2_workOn 5 = .ok (.lconst 0, 1) := by decide +kernel
theorem dX2_workOn_6 : decode cX2_workOn 6 = .ok (.lstore 4, 2) := by decide +kernel
theorem dX2_workOn_8 : decode cX2_workOn 8 = .ok (.iconst 0, 1) := by decide +kernel
theorem dX2_workOn_9 : decode cX2_workOn 9 = .ok (.istore 6, 2) := by decide +kernel
theorem dX2_workOn_11 : decode cX2_workOn 11 = .ok (.bipush 16, 2) := by decide +kernel
theorem dX2_workOn_13 : decode cX2_workOn 13 = .ok (.istore 7, 2) := by decide +kernel
theorem dX2_workOn_15 : decode cX2_workOn 15 = .ok (.iconst 0, 1) := by decide +kernel
theorem dX2_workOn_16 : decode cX2_workOn 16 = .ok (.istore 8, 2) := by decide +kernel
theorem dX2_workOn_18 : decode cX2_workOn 18 = .ok (.iload 8, 2) := by decide +kernel
theorem dX2_workOn_20 : decode cX2_workOn 20 = .ok (.iload_n 3, 1) := by decide +kernel
theorem dX2_workOn_21 : decode cX2_workOn 21 = .ok (.if_icmp .ge 117, 3) := by decide +kernel
theorem dX2_workOn_24 : decode cX2_workOn 24 = .ok (.lload_n 1, 1) := by decide +kernel
theorem dX2_workOn_25 : decode cX2_workOn 25 = .ok (.iload 8, 2) := by decide +kernel
theorem dX2_workOn_27 : decode cX2_workOn 27 = .ok (.invokestatic 72, 3) := by decide +kernel
theorem dX2_workOn_30 : decode cX2_workOn 30 = .ok (.istore 9, 2) := by decide +kernel
theorem dX2_workOn_32 : decode cX2_workOn 32 = .ok (.iload 8, 2) := by decide +kernel
theorem dX2_workOn_34 : decode cX2_workOn 34 = .ok (.iconst 1, 1) := by decide +kernel
theorem dX2_workOn_35 : decode cX2_workOn 35 = .ok (.iadd, 1) := by decide +kernel
theorem dX2_workOn_36 : decode cX2_workOn 36 = .ok (.iload_n 3, 1) := by decide +kernel
theorem dX2_workOn_37 : decode cX2_workOn 37 = .ok (.if_icmp .ge 14, 3) := by decide +kernel
theorem dX2_workOn_40 : decode cX2_workOn 40 = .ok (.lload_n 1, 1) := by decide +kernel
theorem dX2_workOn_41 : decode cX2_workOn 41 = .ok (.iload 8, 2) := by decide +kernel
theorem dX2_workOn_43 : decode cX2_workOn 43 = .ok (.iconst 1, 1) := by decide +kernel
theorem dX2_workOn_44 : decode cX2_workOn 44 = .ok (.iadd, 1) := by decide +kernel
theorem dX2_workOn_45 : decode cX2_workOn 45 = .ok (.invokestatic 72, 3) := by decide +kernel
theorem dX2_workOn_48 : decode cX2_workOn 48 = .ok (.goto 5, 3) := by decide +kernel
theorem dX2_workOn_51 : decode cX2_workOn 51 = .ok (.bipush 16, 2) := by decide +kernel
theorem dX2_workOn_53 : decode cX2_workOn 53 = .ok (.istore 10, 2) := by decide +kernel
theorem dX2_workOn_55 : decode cX2_workOn 55 = .ok (.aload_n 0, 1) := by decide +kernel
theorem dX2_workOn_56 : decode cX2_workOn 56 = .ok (.getfield 49, 3) := by decide +kernel
theorem dX2_workOn_59 : decode cX2_workOn 59 = .ok (.iload 9, 2) := by decide +kernel
theorem dX2_workOn_61 : decode cX2_workOn 61 = .ok (.ishr, 1) := by decide +kernel
theorem dX2_workOn_62 : decode cX2_workOn 62 = .ok (.aload_n 0, 1) := by decide +kernel
theorem dX2_workOn_63 : decode cX2_workOn 63 = .ok (.getfield 52, 3) := by decide +kernel
theorem dX2_workOn_66 : decode cX2_workOn 66 = .ok (.iload 7, 2) := by decide +kernel
theorem dX2_workOn_68 : decode cX2_workOn 68 = .ok (.ishr, 1) := by decide +kernel
theorem dX2_workOn_69 : decode cX2_workOn 69 = .ok (.iand, 1) := by decide +kernel
theorem dX2_workOn_70 : decode cX2_workOn 70 = .ok (.aload_n 0, 1) := by decide +kernel
theorem dX2_workOn_71 : decode cX2_workOn 71 = .ok (.getfield 55, 3) := by decide +kernel
theorem dX2_workOn_74 : decode cX2_workOn 74 = .ok (.iload 10, 2) := by decide +kernel
theorem dX2_workOn_76 : decode cX2_workOn 76 = .ok (.ishr, 1) := by decide +kernel
theorem dX2_workOn_77 : decode cX2_workOn 77 = .ok (.iand, 1) := by decide +kernel
theorem dX2_workOn_78 : decode cX2_workOn 78 = .ok (.iconst 1, 1) := by decide +kernel
theorem dX2_workOn_79 : decode cX2_workOn 79 = .ok (.iand, 1) := by decide +kernel
theorem dX2_workOn_80 : decode cX2_workOn 80 = .ok (.ifCond .eq 7, 3) := by decide +kernel
theorem dX2_workOn_83 : decode cX2_workOn 83 = .ok (.iconst 1, 1) := by decide +kernel
theorem dX2_workOn_84 : decode cX2_workOn 84 = .ok (.goto 4, 3) := by decide +kernel
theorem dX2_workOn_87 : decode cX2_workOn 87 = .ok (.iconst 0, 1) := by decide +kernel
theorem dX2_workOn_88 : decode cX2_workOn 88 = .ok (.istore 11, 2) := by decide +kernel
theorem dX2_workOn_90 : decode cX2_workOn 90 = .ok (.iload 11, 2) := by decide +kernel
theorem dX2_workOn_92 : decode cX2_workOn 92 = .ok (.ifCond .eq 10, 3) := by decide +kernel
theorem dX2_workOn_95 : decode cX2_workOn 95 = .ok (.aload_n 0, 1) := by decide +kernel
theorem dX2_workOn_96 : decode cX2_workOn 96 = .ok (.getfield 23, 3) := by decide +kernel
theorem dX2_workOn_99 : decode cX2_workOn 99 = .ok (.goto 5, 3) := by decide +kernel
theorem dX2_workOn_102 : decode cX2_workOn 102 = .ok (.iload 9, 2) := by decide +kernel
theorem dX2_workOn_104 : decode cX2_workOn 104 = .ok (.istore 12, 2) := by decide +kernel
theorem dX2_workOn_106 : decode cX2_workOn 106 = .ok (.iload 12, 2) := by decide +kernel
theorem dX2_workOn_108 : decode cX2_workOn 108 = .ok (.iconst (-1), 1) := by decide +kernel
theorem dX2_workOn_109 : decode cX2_workOn 109 = .ok (.if_icmp .eq 19, 3) := by decide +kernel
theorem dX2_workOn_112 : decode cX2_workOn 112 = .ok (.lload 4, 2) := by decide +kernel
theorem dX2_workOn_114 : decode cX2_workOn 114 = .ok (.iload 12, 2) := by decide +kernel
theorem dX2_workOn_116 : decode cX2_workOn 116 = .ok (.i2l, 1) := by decide +kernel
theorem dX2_workOn_117 : decode cX2_workOn 117 = .ok (.iconst 4, 1) := by decide +kernel
theorem dX2_workOn_118 : decode cX2_workOn 118 = .ok (.iload 6, 2) := by decide +kernel
theorem dX2_workOn_120 : decode cX2_workOn 120 = .ok (.imul, 1) := by decide +kernel
theorem dX2_workOn_121 : decode cX2_workOn 121 = .ok (.lshl, 1) := by decide +kernel
theorem dX2_workOn_122 : decode cX2_workOn 122 = .ok (.lor, 1) := by decide +kernel
theorem dX2_workOn_123 : decode cX2_workOn 123 = .ok (.lstore 4, 2) := by decide +kernel
theorem dX2_workOn_125 : decode cX2_workOn 125 = .ok (.iinc 6 1, 3) := by decide +kernel
theorem dX2_workOn_128 : decode cX2_workOn 128 = .ok (.iload 9, 2) := by decide +kernel
theorem dX2_workOn_130 : decode cX2_workOn 130 = .ok (.istore 7, 2) := by decide +kernel
theorem dX2_workOn_132 : decode cX2_workOn 132 = .ok (.iinc 8 1, 3) := by decide +kernel
theorem dX2_workOn_135 : decode cX2_workOn 135 = .ok (.goto (-117), 3) := by decide +kernel
theorem dX2_workOn_138 : decode cX2_workOn 138 = .ok (.lload 4, 2) := by decide +kernel
theorem dX2_workOn_140 : decode cX2_workOn 140 = .ok (.iload 6, 2) := by decide +kernel
theorem dX2_workOn_142 : decode cX2_workOn 142 = .ok (.invokestatic 76, 3) := by decide +kernel
theorem dX2_workOn_145 : decode cX2_workOn 145 = .ok (.lreturn, 1) := by decide +kernel
theorem dX3_init_0 : decode cX3_init 0 = .ok (.aload_n 0, 1) := by decide +kernel
theorem dX3_init_1 : decode cX3_init 1 = .ok (.invokespecial 3, 3) := by decide +kernel
theorem dX3_init_4 : decode cX3_init 4 = .ok (.aload_n 0, 1) := by decide +kernel
theorem dX3_init_5 : decode cX3_init 5 = .ok (.bipush 6, 2) := by decide +kernel
theorem dX3_init_7 : decode cX3_init 7 = .ok (.newarray .int, 2) := by decide +kernel
theorem dX3_init_9 : decode cX3_init 9 = .ok (.putfield 9, 3) := by decide +kernel
theorem dX3_init_12 : decode cX3_init 12 = .ok (.aload_n 0, 1) := by decide +kernel
theorem dX3_init_13 : decode cX3_init 13 = .ok (.iconst 1, 1) := by decide +kernel
theorem dX3_init_14 : decode cX3_init 14 = .ok (.putfield 15, 3) := by decide +kernel
theorem dX3_init_17 : decode cX3_init 17 = .ok (.aload_n 0, 1) := by decide +kernel
theorem dX3_init_18 : decode cX3_init 18 = .ok (.iconst 0, 1) := by decide +kernel
theorem dX3_init_19 : decode cX3_init 19 = .ok (.putfield 19, 3) := by decide +kernel
theorem dX3_init_22 : decode cX3_init 22 = .ok (.aload_n 0, 1) := by decide +kernel
theorem dX3_init_23 : decode cX3_init 23 = .ok (.sipush 600, 3) := by decide +kernel
theorem dX3_init_26 : decode cX3_init 26 = .ok (.newarray .int, 2) := by decide +kernel
theorem dX3_init_28 : decode cX3_init 28 = .ok (.putfield 22, 3) := by decide +kernel
theorem dX3_init_31 : decode cX3_init 31 = .ok (.aload_n 0, 1) := by decide +kernel
theorem dX3_init_32 : decode cX3_init 32 = .ok (.sipush 600, 3) := by decide +kernel
theorem dX3_init_35 : decode cX3_init 35 = .ok (.newarray .long, 2) := by decide +kernel
theorem dX3_init_37 : decode cX3_init 37 = .ok (.putfield 25, 3) := by decide +kernel
theorem dX3_init_40 : decode cX3_init 40 = .ok (.aload_n 0, 1) := by decide +kernel
theorem dX3_init_41 : decode cX3_init 41 = .ok (.bipush 6, 2) := by decide +kernel
theorem dX3_init_43 : decode cX3_init 43 = .ok (.newarray .int, 2) := by decide +kernel
theorem dX3_init_45 : decode cX3_init 45 = .ok (.putfield 29, 3) := by decide +kernel
theorem dX3_init_48 : decode cX3_init 48 = .ok (.aload_n 0, 1) := by decide +kernel
theorem dX3_init_49 : decode cX3_init 49 = .ok (.aload_n 1, 1) := by decide +kernel
theorem dX3_init_50 : decode cX3_init 50 = .ok (.putfield 32, 3) := by decide +kernel
theorem dX3_init_53 : decode cX3_init 53 = .ok (.return_, 1) := by decide +kernel
theorem dX3_addLaw_0 : decode cX3_addLaw 0 = .ok (.aload_n 0, 1) := by decide +kernel
theorem dX3_addLaw_1 : decode cX3_addLaw 1 = .ok (.getfield 15, 3) := by decide +kernel
theorem dX3_addLaw_4 : decode cX3_addLaw 4 = .ok (.iconst 1, 1) := by decide +kernel
theorem dX3_addLaw_5 : decode cX3_addLaw 5 = .ok (.isub, 1) := by decide +kernel
theorem dX3_addLaw_6 : decode cX3_addLaw 6 = .ok (.istore 4, 2) := by decide +kernel
theorem dX3_addLaw_8 : decode cX3_addLaw 8 = .ok (.iload 4, 2) := by decide +kernel
theorem dX3_addLaw_10 : decode cX3_addLaw 10 = .ok (.ifCond .lt 63, 3) := by decide +kernel
theorem dX3_addLaw_13 : decode cX3_addLaw 13 = .ok (.aload_n 0, 1) := by decide +kernel
theorem dX3_addLaw_14 : decode cX3_addLaw 14 = .ok (.getfield 22, 3) := by decide +kernel
theorem dX3_addLaw_17 : decode cX3_addLaw 17 = .ok (.iload 4, 2) := by decide +kernel
theorem dX3_addLaw_19 : decode cX3_addLaw 19 = .ok (.iaload, 1) := by decide +kernel
theorem dX3_addLaw_20 : decode cX3_addLaw 20 = .ok (.istore 5, 2) := by decide +kernel
theorem dX3_addLaw_22 : decode cX3_addLaw 22 = .ok (.aload_n 0, 1) := by decide +kernel
theorem dX3_addLaw_23 : decode cX3_addLaw 23 = .ok (.getfield 25, 3) := by decide +kernel
theorem dX3_addLaw_26 : decode cX3_addLaw 26 = .ok (.iload 4, 2) := by decide +kernel
theorem dX3_addLaw_28 : decode cX3_addLaw 28 = .ok (.laload, 1) := by decide +kernel
theorem dX3_addLaw_29 : decode cX3_addLaw 29 = .ok (.lstore 6, 2) := by decide +kernel
theorem dX3_addLaw_31 : decode cX3_addLaw 31 = .ok (.iconst 0, 1) := by decide +kernel
theorem dX3_addLaw_32 : decode cX3_addLaw 32 = .ok (.istore 8, 2) := by decide +kernel
theorem dX3_addLaw_34 : decode cX3_addLaw 34 = .ok (.iload 8, 2) := by decide +kernel
theorem dX3_addLaw_36 : decode cX3_addLaw 36 = .ok (.iload_n 3, 1) := by decide +kernel
theorem dX3_addLaw_37 : decode cX3_addLaw 37 = .ok (.if_icmp .ge 30, 3) := by decide +kernel
theorem dX3_addLaw_40 : decode cX3_addLaw 40 = .ok (.aload_n 0, 1) := by decide +kernel
theorem dX3_addLaw_41 : decode cX3_addLaw 41 = .ok (.iload 4, 2) := by decide +kernel
theorem dX3_addLaw_43 : decode cX3_addLaw 43 = .ok (.iload_n 3, 1) := by decide +kernel
theorem dX3_addLaw_44 : decode cX3_addLaw 44 = .ok (.imul, 1) := by decide +kernel
theorem dX3_addLaw_45 : decode cX3_addLaw 45 = .ok (.iload 8, 2) := by decide +kernel
theorem dX3_addLaw_47 : decode cX3_addLaw 47 = .ok (.iadd, 1) := by decide +kernel
theorem dX3_addLaw_48 : decode cX3_addLaw 48 = .ok (.iload 5, 2) := by decide +kernel
theorem dX3_addLaw_50 : decode cX3_addLaw 50 = .ok (.lload 6, 2) := by decide +kernel
theorem dX3_addLaw_52 : decode cX3_addLaw 52 = .ok (.iload_n 1, 1) := by decide +kernel
theorem dX3_addLaw_53 : decode cX3_addLaw 53 = .ok (.iload 8, 2) := by decide +kernel
theorem dX3_addLaw_55 : decode cX3_addLaw 55 = .ok (.iload_n 2, 1) := by decide +kernel
theorem dX3_addLaw_56 : decode cX3_addLaw 56 = .ok (.imul, 1) := by decide +kernel
theorem dX3_addLaw_57 : decode cX3_addLaw 57 = .ok (.iadd, 1) := by decide +kernel
theorem dX3_addLaw_58 : decode cX3_addLaw 58 = .ok (.invokevirtual 36, 3) := by decide +kernel
theorem dX3_addLaw_61 : decode cX3_addLaw 61 = .ok (.iinc 8 1, 3) := by decide +kernel
theorem dX3_addLaw_64 : decode cX3_addLaw 64 = .ok (.goto (-30), 3) := by decide +kernel
theorem dX3_addLaw_67 : decode cX3_addLaw 67 = .ok (.iinc 4 (-1), 3) := by decide +kernel
theorem dX3_addLaw_70 : decode cX3_addLaw 70 = .ok (.goto (-62), 3) := by decide +kernel
theorem dX3_addLaw_73 : decode cX3_addLaw 73 = .ok (.aload_n 0, 1) := by decide +kernel
theorem dX3_addLaw_74 : decode cX3_addLaw 74 = .ok (.getfield 29, 3) := by decide +kernel
theorem dX3_addLaw_77 : decode cX3_addLaw 77 = .ok (.aload_n 0, 1) := by decide +kernel
theorem dX3_addLaw_78 : decode cX3_addLaw 78 = .ok (.getfield 19, 3) := by decide +kernel
theorem dX3_addLaw_81 : decode cX3_addLaw 81 = .ok (.iload_n 1, 1) := by decide +kernel
theorem dX3_addLaw_82 : decode cX3_addLaw 82 = .ok (.iastore, 1) := by decide +kernel
theorem dX3_addLaw_83 : decode cX3_addLaw 83 = .ok (.aload_n 0, 1) := by decide +kernel
theorem dX3_addLaw_84 : decode cX3_addLaw 84 = .ok (.dup, 1) := by decide +kernel
theorem dX3_addLaw_85 : decode cX3_addLaw 85 = .ok (.getfield 19, 3) := by decide +kernel
theorem dX3_addLaw_88 : decode cX3_addLaw 88 = .ok (.iconst 1, 1) := by decide +kernel
theorem dX3_addLaw_89 : decode cX3_addLaw 89 = .ok (.iadd, 1) := by decide +kernel
theorem dX3_addLaw_90 : decode cX3_addLaw 90 = .ok (.putfield 19, 3) := by decide +kernel
theorem dX3_addLaw_93 : decode cX3_addLaw 93 = .ok (.aload_n 0, 1) := by decide +kernel
theorem dX3_addLaw_94 : decode cX3_addLaw 94 = .ok (.dup, 1) := by decide +kernel
theorem dX3_addLaw_95 : decode cX3_addLaw 95 = .ok (.getfield 15, 3) := by decide +kernel
theorem dX3_addLaw_98 : decode cX3_addLaw 98 = .ok (.iload_n 3, 1) := by decide +kernel
theorem dX3_addLaw_99 : decode cX3_addLaw 99 = .ok (.imul, 1) := by decide +kernel
theorem dX3_addLaw_100 : decode cX3_addLaw 100 = .ok (.putfield 15, 3) := by decide +kernel
theorem dX3_addLaw_103 : decode cX3_addLaw 103 = .ok (.return_, 1) := by decide +kernel
theorem dX3_insert_0 : decode cX3_insert 0 = .ok (.iconst 0, 1) := by decide +kernel
theorem dX3_insert_1 : decode cX3_insert 1 = .ok (.istore 6, 2) := by decide +kernel
theorem dX3_insert_3 : decode cX3_insert 3 = .ok (.iload 6, 2) := by decide +kernel
theorem dX3_insert_5 : decode cX3_insert 5 = .ok (.aload_n 0, 1) := by decide +kernel
theorem dX3_insert_6 : decode cX3_insert 6 = .ok (.getfield 19, 3) := by decide +kernel
theorem dX3_insert_9 : decode cX3_insert 9 = .ok (.if_icmp .ge 20, 3) := by decide +kernel
theorem dX3_insert_12 : decode cX3_insert 12 = .ok (.lload_n 3, 1) := by decide +kernel
theorem dX3_insert_13 : decode cX3_insert 13 = .ok (.iload 6, 2) := by decide +kernel
theorem dX3_insert_15 : decode cX3_insert 15 = .ok (.invokestatic 40, 3) := by decide +kernel
theorem dX3_insert_18 : decode cX3_insert 18 = .ok (.iload 5, 2) := by decide +kernel
theorem dX3_insert_20 : decode cX3_insert 20 = .ok (.if_icmp .gt 9, 3) := by decide +kernel
theorem dX3_insert_23 : decode cX3_insert 23 = .ok (.iinc 6 1, 3) := by decide +kernel
theorem dX3_insert_26 : decode cX3_insert 26 = .ok (.goto (-23), 3) := by decide +kernel
theorem dX3_insert_29 : decode cX3_insert 29 = .ok (.iconst 3, 1) := by decide +kernel
theorem dX3_insert_30 : decode cX3_insert 30 = .ok (.iload 6, 2) := by decide +kernel
theorem dX3_insert_32 : decode cX3_insert 32 = .ok (.imul, 1) := by decide +kernel
theorem dX3_insert_33 : decode cX3_insert 33 = .ok (.istore 7, 2) := by decide +kernel
theorem dX3_insert_35 : decode cX3_insert 35 = .ok (.bipush 9, 2) := by decide +kernel
theorem dX3_insert_37 : decode cX3_insert 37 = .ok (.iload 6, 2) := by decide +kernel
theorem dX3_insert_39 : decode cX3_insert 39 = .ok (.imul, 1) := by decide +kernel
theorem dX3_insert_40 : decode cX3_insert 40 = .ok (.istore 8, 2) := by decide +kernel
theorem dX3_insert_42 : decode cX3_insert 42 = .ok (.aload_n 0, 1) := by decide +kernel
theorem dX3_insert_43 : decode cX3_insert 43 = .ok (.getfield 22, 3) := by decide +kernel
theorem dX3_insert_46 : decode cX3_insert 46 = .ok (.iload_n 1, 1) := by decide +kernel
theorem dX3_insert_47 : decode cX3_insert 47 = .ok (.iload_n 2, 1) := by decide +kernel
theorem dX3_insert_48 : decode cX3_insert 48 = .ok (.iconst 1, 1) := by decide +kernel
theorem dX3_insert_49 : decode cX3_insert 49 = .ok (.iload 7, 2) := by decide +kernel
theorem dX3_insert_51 : decode cX3_insert 51 = .ok (.ishl, 1) := by decide +kernel
theorem dX3_insert_52 : decode cX3_insert 52 = .ok (.iconst 1, 1) := by decide +kernel
theorem dX3_insert_53 : decode cX3_insert 53 = .ok (.isub, 1) := by decide +kernel
theorem dX3_insert_54 : decode cX3_insert 54 = .ok (.iand, 1) := by decide +kernel
theorem dX3_insert_55 : decode cX3_insert 55 = .ok (.aload_n 0, 1) := by decide +kernel
theorem dX3_insert_56 : decode cX3_insert 56 = .ok (.getfield 19, 3) := by decide +kernel
theorem dX3_insert_59 : decode cX3_insert 59 = .ok (.iload 7, 2) := by decide +kernel
theorem dX3_insert_61 : decode cX3_insert 61 = .ok (.ishl, 1) := by decide +kernel
theorem dX3_insert_62 : decode cX3_insert 62 = .ok (.ior, 1) := by decide +kernel
theorem dX3_insert_63 : decode cX3_insert 63 = .ok (.iload_n 2, 1) := by decide +kernel
theorem dX3_insert_64 : decode cX3_insert 64 = .ok (.iload 7, 2) := by decide +kernel
theorem dX3_insert_66 : decode cX3_insert 66 = .ok (.ishr, 1) := by decide +kernel
theorem dX3_insert_67 : decode cX3_insert 67 = .ok (.iload 7, 2) := by decide +kernel
theorem dX3_insert_69 : decode cX3_insert 69 = .ok (.iconst 3, 1) := by decide +kernel
theorem dX3_insert_70 : decode cX3_insert 70 = .ok (.iadd, 1) := by decide +kernel
theorem dX3_insert_71 : decode cX3_insert 71 = .ok (.ishl, 1) := by decide +kernel
theorem dX3_insert_72 : decode cX3_insert 72 = .ok (.ior, 1) := by decide +kernel
theorem dX3_insert_73 : decode cX3_insert 73 = .ok (.iastore, 1) := by decide +kernel
theorem dX3_insert_74 : decode cX3_insert 74 = .ok (.aload_n 0, 1) := by decide +kernel
theorem dX3_insert_75 : decode cX3_insert 75 = .ok (.getfield 25, 3) := by decide +kernel
theorem dX3_insert_78 : decode cX3_insert 78 = .ok (.iload_n 1, 1) := by decide +kernel
theorem dX3_insert_79 : decode cX3_insert 79 = .ok (.lload_n 3, 1) := by decide +kernel
theorem dX3_insert_80 : decode cX3_insert 80 = .ok (.lconst 1, 1) := by decide +kernel
theorem dX3_insert_81 : decode cX3_insert 81 = .ok (.iload 8, 2) := by decide +kernel
theorem dX3_insert_83 : decode cX3_insert 83 = .ok (.lshl, 1) := by decide +kernel
theorem dX3_insert_84 : decode cX3_insert 84 = .ok (.lconst 1, 1) := by decide +kernel
theorem dX3_insert_85 : decode cX3_insert 85 = .ok (.lsub, 1) := by decide +kernel
theorem dX3_insert_86 : decode cX3_insert 86 = .ok (.land, 1) := by decide +kernel
theorem dX3_insert_87 : decode cX3_insert 87 = .ok (.iload 5, 2) := by decide +kernel
theorem dX3_insert_89 : decode cX3_insert 89 = .ok (.i2l, 1) := by decide +kernel
theorem dX3_insert_90 : decode cX3_insert 90 = .ok (.iload 8, 2) := by decide +kernel
theorem dX3_insert_92 : decode cX3_insert 92 = .ok (.lshl, 1) := by decide +kernel
theorem dX3_insert_93 : decode cX3_insert 93 = .ok (.lor, 1) := by decide +kernel
theorem dX3_insert_94 : decode cX3_insert 94 = .ok (.lload_n 3, 1) := by decide +kernel
theorem dX3_insert_95 : decode cX3_insert 95 = .ok (.iload 8, 2) := by decide +kernel
theorem dX3_insert_97 : decode cX3_insert 97 = .ok (.lshr, 1) := by decide +kernel
theorem dX3_insert_98 : decode cX3_insert 98 = .ok (.iload 8, 2) := by decide +kernel
theorem dX3_insert_100 : decode cX3_insert 100 = .ok (.bipush 9, 2) := by decide +kernel
theorem dX3_insert_102 : decode cX3_insert 102 = .ok (.iadd, 1) := by decide +kernel
theorem dX3_insert_103 : decode cX3_insert 103 = .ok (.lshl, 1) := by decide +kernel
theorem dX3_insert_104 : decode cX3_insert 104 = .ok (.lor, 1) := by decide +kernel
theorem dX3_insert_105 : decode cX3_insert 105 = .ok (.lastore, 1) := by decide +kernel
theorem dX3_insert_106 : decode cX3_insert 106 = .ok (.return_, 1) := by decide +kernel
theorem dX3_yearIn_0 : decode cX3_yearIn 0 = .ok (.lload_n 0, 1) := by decide +kernel
theorem dX3_yearIn_1 : decode cX3_yearIn 1 = .ok (.bipush 9, 2) := by decide +kernel
theorem dX3_yearIn_3 : decode cX3_yearIn 3 = .ok (.iload_n 2, 1) := by decide +kernel
theorem dX3_yearIn_4 : decode cX3_yearIn 4 = .ok (.imul, 1) := by decide +kernel
theorem dX3_yearIn_5 : decode cX3_yearIn 5 = .ok (.lshr, 1) := by decide +kernel
theorem dX3_yearIn_6 : decode cX3_yearIn 6 = .ok (.l2i, 1) := by decide +kernel
theorem dX3_yearIn_7 : decode cX3_yearIn 7 = .ok (.sipush 511, 3) := by decide +kernel
theorem dX3_yearIn_10 : decode cX3_yearIn 10 = .ok (.iand, 1) := by decide +kernel
theorem dX3_yearIn_11 : decode cX3_yearIn 11 = .ok (.ireturn, 1) := by decide +kernel
theorem dX3_lawAt_0 : decode cX3_lawAt 0 = .ok (.aload_n 0, 1) := by decide +kernel
theorem dX3_lawAt_1 : decode cX3_lawAt 1 = .ok (.getfield 22, 3) := by decide +kernel
theorem dX3_lawAt_4 : decode cX3_lawAt 4 = .ok (.iload_n 1, 1) := by decide +kernel
theorem dX3_lawAt_5 : decode cX3_lawAt 5 = .ok (.iaload, 1) := by decide +kernel
theorem dX3_lawAt_6 : decode cX3_lawAt 6 = .ok (.iconst 3, 1) := by decide +kernel
theorem dX3_lawAt_7 : decode cX3_lawAt 7 = .ok (.iload_n 2, 1) := by decide +kernel
theorem dX3_lawAt_8 : decode cX3_lawAt 8 = .ok (.imul, 1) := by decide +kernel
theorem dX3_lawAt_9 : decode cX3_lawAt 9 = .ok (.ishr, 1) := by decide +kernel
theorem dX3_lawAt_10 : decode cX3_lawAt 10 = .ok (.bipush 7, 2) := by decide +kernel
theorem dX3_lawAt_12 : decode cX3_lawAt 12 = .ok (.iand, 1) := by decide +kernel
theorem dX3_lawAt_13 : decode cX3_lawAt 13 = .ok (.ireturn, 1) := by decide +kernel
theorem dX3_turnOf_0 : decode cX3_turnOf 0 = .ok (.iconst 0, 1) := by decide +kernel
theorem dX3_turnOf_1 : decode cX3_turnOf 1 = .ok (.istore_n 3, 1) := by decide +kernel
theorem dX3_turnOf_2 : decode cX3_turnOf 2 = .ok (.iload_n 3, 1) := by decide +kernel
theorem dX3_turnOf_3 : decode cX3_turnOf 3 = .ok (.aload_n 0, 1) := by decide +kernel
theorem dX3_turnOf_4 : decode cX3_turnOf 4 = .ok (.getfield 19, 3) := by decide +kernel
theorem dX3_turnOf_7 : decode cX3_turnOf 7 = .ok (.iconst 1, 1) := by decide +kernel
theorem dX3_turnOf_8 : decode cX3_turnOf 8 = .ok (.isub, 1) := by decide +kernel
theorem dX3_turnOf_9 : decode cX3_turnOf 9 = .ok (.if_icmp .ge 19, 3) := by decide +kernel
theorem dX3_turnOf_12 : decode cX3_turnOf 12 = .ok (.aload_n 0, 1) := by decide +kernel
theorem dX3_turnOf_13 : decode cX3_turnOf 13 = .ok (.iload_n 1, 1) := by decide +kernel
theorem dX3_turnOf_14 : decode cX3_turnOf 14 = .ok (.iload_n 3, 1) := by decide +kernel
theorem dX3_turnOf_15 : decode cX3_turnOf 15 = .ok (.invokevirtual 44, 3) := by decide +kernel
theorem dX3_turnOf_18 : decode cX3_turnOf 18 = .ok (.iload_n 2, 1) := by decide +kernel
theorem dX3_turnOf_19 : decode cX3_turnOf 19 = .ok (.if_icmp .eq 9, 3) := by decide +kernel
theorem dX3_turnOf_22 : decode cX3_turnOf 22 = .ok (.iinc 3 1, 3) := by decide +kernel
theorem dX3_turnOf_25 : decode cX3_turnOf 25 = .ok (.goto (-23), 3) := by decide +kernel
theorem dX3_turnOf_28 : decode cX3_turnOf 28 = .ok (.iload_n 3, 1) := by decide +kernel
theorem dX3_turnOf_29 : decode cX3_turnOf 29 = .ok (.ireturn, 1) := by decide +kernel
theorem dX3_yearOf_0 : decode cX3_yearOf 0 = .ok (.aload_n 0, 1) := by decide +kernel
theorem dX3_yearOf_1 : decode cX3_yearOf 1 = .ok (.getfield 25, 3) := by decide +kernel
theorem dX3_yearOf_4 : decode cX3_yearOf 4 = .ok (.iload_n 1, 1) := by decide +kernel
theorem dX3_yearOf_5 : decode cX3_yearOf 5 = .ok (.laload, 1) := by decide +kernel
theorem dX3_yearOf_6 : decode cX3_yearOf 6 = .ok (.aload_n 0, 1) := by decide +kernel
theorem dX3_yearOf_7 : decode cX3_yearOf 7 = .ok (.iload_n 1, 1) := by decide +kernel
theorem dX3_yearOf_8 : decode cX3_yearOf 8 = .ok (.iload_n 2, 1) := by decide +kernel
theorem dX3_yearOf_9 : decode cX3_yearOf 9 = .ok (.invokevirtual 48, 3) := by decide +kernel
theorem dX3_yearOf_12 : decode cX3_yearOf 12 = .ok (.invokestatic 40, 3) := by decide +kernel
theorem dX3_yearOf_15 : decode cX3_yearOf 15 = .ok (.ireturn, 1) := by decide +kernel
theorem dX3_hasCome_0 : decode cX3_hasCome 0 = .ok (.aload_n 0, 1) := by decide +kernel
theorem dX3_hasCome_1 : decode cX3_hasCome 1 = .ok (.iload_n 2, 1) := by decide +kernel
theorem dX3_hasCome_2 : decode cX3_hasCome 2 = .ok (.iload_n 1, 1) := by decide +kernel
theorem dX3_hasCome_3 : decode cX3_hasCome 3 = .ok (.invokevirtual 51, 3) := by decide +kernel
theorem dX3_hasCome_6 : decode cX3_hasCome 6 = .ok (.aload_n 0, 1) := by decide +kernel
theorem dX3_hasCome_7 : decode cX3_hasCome 7 = .ok (.getfield 9, 3) := by decide +kernel
theorem dX3_hasCome_10 : decode cX3_hasCome 10 = .ok (.iload 4, 2) := by decide +kernel
theorem dX3_hasCome_12 : decode cX3_hasCome 12 = .ok (.iaload, 1) := by decide +kernel
theorem dX3_hasCome_13 : decode cX3_hasCome 13 = .ok (.iadd, 1) := by decide +kernel
theorem dX3_hasCome_14 : decode cX3_hasCome 14 = .ok (.iload_n 3, 1) := by decide +kernel
theorem dX3_hasCome_15 : decode cX3_hasCome 15 = .ok (.if_icmp .gt 7, 3) := by decide +kernel
theorem dX3_hasCome_18 : decode cX3_hasCome 18 = .ok (.iconst 1, 1) := by decide +kernel
theorem dX3_hasCome_19 : decode cX3_hasCome 19 = .ok (.goto 4, 3) := by decide +kernel
theorem dX3_hasCome_22 : decode cX3_hasCome 22 = .ok (.iconst 0, 1) := by decide +kernel
theorem dX3_hasCome_23 : decode cX3_hasCome 23 = .ok (.ireturn, 1) := by decide +kernel
theorem dX3_courseAt_0 : decode cX3_courseAt 0 = .ok (.aload_n 0, 1) := by decide +kernel
theorem dX3_courseAt_1 : decode cX3_courseAt 1 = .ok (.iload_n 1, 1) := by decide +kernel
theorem dX3_courseAt_2 : decode cX3_courseAt 2 = .ok (.iload_n 2, 1) := by decide +kernel
theorem dX3_courseAt_3 : decode cX3_courseAt 3 = .ok (.aload_n 0, 1) := by decide +kernel
theorem dX3_courseAt_4 : decode cX3_courseAt 4 = .ok (.getfield 9, 3) := by decide +kernel
theorem dX3_courseAt_7 : decode cX3_courseAt 7 = .ok (.iload_n 3, 1) := by decide +kernel
theorem dX3_courseAt_8 : decode cX3_courseAt 8 = .ok (.iaload, 1) := by decide +kernel
theorem dX3_courseAt_9 : decode cX3_courseAt 9 = .ok (.isub, 1) := by decide +kernel
theorem dX3_courseAt_10 : decode cX3_courseAt 10 = .ok (.bipush 63, 2) := by decide +kernel
theorem dX3_courseAt_12 : decode cX3_courseAt 12 = .ok (.invokevirtual 54, 3) := by decide +kernel
theorem dX3_courseAt_15 : decode cX3_courseAt 15 = .ok (.ireturn, 1) := by decide +kernel
theorem dX3_courseAmong_0 : decode cX3_courseAmong 0 = .ok (.iconst 0, 1) := by decide +kernel
theorem dX3_courseAmong_1 : decode cX3_courseAmong 1 = .ok (.istore 4, 2) := by decide +kernel
theorem dX3_courseAmong_3 : decode cX3_courseAmong 3 = .ok (.aload_n 0, 1) := by decide +kernel
theorem dX3_courseAmong_4 : decode cX3_courseAmong 4 = .ok (.getfield 25, 3) := by decide +kernel
theorem dX3_courseAmong_7 : decode cX3_courseAmong 7 = .ok (.iload_n 1, 1) := by decide +kernel
theorem dX3_courseAmong_8 : decode cX3_courseAmong 8 = .ok (.laload, 1) := by decide +kernel
theorem dX3_courseAmong_9 : decode cX3_courseAmong 9 = .ok (.lstore 5, 2) := by decide +kernel
theorem dX3_courseAmong_11 : decode cX3_courseAmong 11 = .ok (.iconst 0, 1) := by decide +kernel
theorem dX3_courseAmong_12 : decode cX3_courseAmong 12 = .ok (.istore 7, 2) := by decide +kernel
theorem dX3_courseAmong_14 : decode cX3_courseAmong 14 = .ok (.iload 7, 2) := by decide +kernel
theorem dX3_courseAmong_16 : decode cX3_courseAmong 16 = .ok (.aload_n 0, 1) := by decide +kernel
theorem dX3_courseAmong_17 : decode cX3_courseAmong 17 = .ok (.getfield 19, 3) := by decide +kernel
theorem dX3_courseAmong_20 : decode cX3_courseAmong 20 = .ok (.if_icmp .ge 51, 3) := by decide +kernel
theorem dX3_courseAmong_23 : decode cX3_courseAmong 23 = .ok (.lload 5, 2) := by decide +kernel
theorem dX3_courseAmong_25 : decode cX3_courseAmong 25 = .ok (.iload 7, 2) := by decide +kernel
theorem dX3_courseAmong_27 : decode cX3_courseAmong 27 = .ok (.invokestatic 40, 3) := by decide +kernel
theorem dX3_courseAmong_30 : decode cX3_courseAmong 30 = .ok (.iload_n 2, 1) := by decide +kernel
theorem dX3_courseAmong_31 : decode cX3_courseAmong 31 = .ok (.if_icmp .gt 40, 3) := by decide +kernel
theorem dX3_courseAmong_34 : decode cX3_courseAmong 34 = .ok (.aload_n 0, 1) := by decide +kernel
theorem dX3_courseAmong_35 : decode cX3_courseAmong 35 = .ok (.iload_n 1, 1) := by decide +kernel
theorem dX3_courseAmong_36 : decode cX3_courseAmong 36 = .ok (.iload 7, 2) := by decide +kernel
theorem dX3_courseAmong_38 : decode cX3_courseAmong 38 = .ok (.invokevirtual 44, 3) := by decide +kernel
theorem dX3_courseAmong_41 : decode cX3_courseAmong 41 = .ok (.istore 8, 2) := by decide +kernel
theorem dX3_courseAmong_43 : decode cX3_courseAmong 43 = .ok (.iload_n 3, 1) := by decide +kernel
theorem dX3_courseAmong_44 : decode cX3_courseAmong 44 = .ok (.iload 8, 2) := by decide +kernel
theorem dX3_courseAmong_46 : decode cX3_courseAmong 46 = .ok (.ishr, 1) := by decide +kernel
theorem dX3_courseAmong_47 : decode cX3_courseAmong 47 = .ok (.iconst 1, 1) := by decide +kernel
theorem dX3_courseAmong_48 : decode cX3_courseAmong 48 = .ok (.iand, 1) := by decide +kernel
theorem dX3_courseAmong_49 : decode cX3_courseAmong 49 = .ok (.ifCond .eq 16, 3) := by decide +kernel
theorem dX3_courseAmong_52 : decode cX3_courseAmong 52 = .ok (.aload_n 0, 1) := by decide +kernel
theorem dX3_courseAmong_53 : decode cX3_courseAmong 53 = .ok (.getfield 32, 3) := by decide +kernel
theorem dX3_courseAmong_56 : decode cX3_courseAmong 56 = .ok (.iload 4, 2) := by decide +kernel
theorem dX3_courseAmong_58 : decode cX3_courseAmong 58 = .ok (.iload 8, 2) := by decide +kernel
theorem dX3_courseAmong_60 : decode cX3_courseAmong 60 = .ok (.invokevirtual 60, 3) := by decide +kernel
theorem dX3_courseAmong_63 : decode cX3_courseAmong 63 = .ok (.istore 4, 2) := by decide +kernel
theorem dX3_courseAmong_65 : decode cX3_courseAmong 65 = .ok (.iinc 7 1, 3) := by decide +kernel
theorem dX3_courseAmong_68 : decode cX3_courseAmong 68 = .ok (.goto (-54), 3) := by decide +kernel
theorem dX3_courseAmong_71 : decode cX3_courseAmong 71 = .ok (.iload 4, 2) := by decide +kernel
theorem dX3_courseAmong_73 : decode cX3_courseAmong 73 = .ok (.ireturn, 1) := by decide +kernel
theorem dX3_courseUpTo_0 : decode cX3_courseUpTo 0 = .ok (.iconst 0, 1) := by decide +kernel
theorem dX3_courseUpTo_1 : decode cX3_courseUpTo 1 = .ok (.istore_n 3, 1) := by decide +kernel
theorem dX3_courseUpTo_2 : decode cX3_courseUpTo 2 = .ok (.iconst 0, 1) := by decide +kernel
theorem dX3_courseUpTo_3 : decode cX3_courseUpTo 3 = .ok (.istore 4, 2) := by decide +kernel
theorem dX3_courseUpTo_5 : decode cX3_courseUpTo 5 = .ok (.iload 4, 2) := by decide +kernel
theorem dX3_courseUpTo_7 : decode cX3_courseUpTo 7 = .ok (.aload_n 0, 1) := by decide +kernel
theorem dX3_courseUpTo_8 : decode cX3_courseUpTo 8 = .ok (.getfield 19, 3) := by decide +kernel
theorem dX3_courseUpTo_11 : decode cX3_courseUpTo 11 = .ok (.if_icmp .ge 36, 3) := by decide +kernel
theorem dX3_courseUpTo_14 : decode cX3_courseUpTo 14 = .ok (.aload_n 0, 1) := by decide +kernel
theorem dX3_courseUpTo_15 : decode cX3_courseUpTo 15 = .ok (.iload_n 1, 1) := by decide +kernel
theorem dX3_courseUpTo_16 : decode cX3_courseUpTo 16 = .ok (.iload 4, 2) := by decide +kernel
theorem dX3_courseUpTo_18 : decode cX3_courseUpTo 18 = .ok (.invokevirtual 44, 3) := by decide +kernel
theorem dX3_courseUpTo_21 : decode cX3_courseUpTo 21 = .ok (.iload_n 2, 1) := by decide +kernel
theorem dX3_courseUpTo_22 : decode cX3_courseUpTo 22 = .ok (.if_icmp .eq 25, 3) := by decide +kernel
theorem dX3_courseUpTo_25 : decode cX3_courseUpTo 25 = .ok (.aload_n 0, 1) := by decide +kernel
theorem dX3_courseUpTo_26 : decode cX3_courseUpTo 26 = .ok (.getfield 32, 3) := by decide +kernel
theorem dX3_courseUpTo_29 : decode cX3_courseUpTo 29 = .ok (.iload_n 3, 1) := by decide +kernel
theorem dX3_courseUpTo_30 : decode cX3_courseUpTo 30 = .ok (.aload_n 0, 1) := by decide +kernel
theorem dX3_courseUpTo_31 : decode cX3_courseUpTo 31 = .ok (.iload_n 1, 1) := by decide +kernel
theorem dX3_courseUpTo_32 : decode cX3_courseUpTo 32 = .ok (.iload 4, 2) := by decide +kernel
theorem dX3_courseUpTo_34 : decode cX3_courseUpTo 34 = .ok (.invokevirtual 44, 3) := by decide +kernel
theorem dX3_courseUpTo_37 : decode cX3_courseUpTo 37 = .ok (.invokevirtual 60, 3) := by decide +kernel
theorem dX3_courseUpTo_40 : decode cX3_courseUpTo 40 = .ok (.istore_n 3, 1) := by decide +kernel
theorem dX3_courseUpTo_41 : decode cX3_courseUpTo 41 = .ok (.iinc 4 1, 3) := by decide +kernel
theorem dX3_courseUpTo_44 : decode cX3_courseUpTo 44 = .ok (.goto (-39), 3) := by decide +kernel
theorem dX3_courseUpTo_47 : decode cX3_courseUpTo 47 = .ok (.iload_n 3, 1) := by decide +kernel
theorem dX3_courseUpTo_48 : decode cX3_courseUpTo 48 = .ok (.ireturn, 1) := by decide +kernel
theorem dX3_courseSwapped_0 : decode cX3_courseSwapped 0 = .ok (.iconst 0, 1) := by decide +kernel
theorem dX3_courseSwapped_1 : decode cX3_courseSwapped 1 = .ok (.istore 5, 2) := by decide +kernel
theorem dX3_courseSwapped_3 : decode cX3_courseSwapped 3 = .ok (.iconst 0, 1) := by decide +kernel
theorem dX3_courseSwapped_4 : decode cX3_courseSwapped 4 = .ok (.istore 6, 2) := by decide +kernel
theorem dX3_courseSwapped_6 : decode cX3_courseSwapped 6 = .ok (.iload 6, 2) := by decide +kernel
theorem dX3_courseSwapped_8 : decode cX3_courseSwapped 8 = .ok (.aload_n 0, 1) := by decide +kernel
theorem dX3_courseSwapped_9 : decode cX3_courseSwapped 9 = .ok (.getfield 19, 3) := by decide +kernel
theorem dX3_courseSwapped_12 : decode cX3_courseSwapped 12 = .ok (.if_icmp .ge 68, 3) := by decide +kernel
theorem dX3_courseSwapped_15 : decode cX3_courseSwapped 15 = .ok (.aload_n 0, 1) := by decide +kernel
theorem dX3_courseSwapped_16 : decode cX3_courseSwapped 16 = .ok (.getfield 25, 3) := by decide +kernel
theorem dX3_courseSwapped_19 : decode cX3_courseSwapped 19 = .ok (.iload_n 1, 1) := by decide +kernel
theorem dX3_courseSwapped_20 : decode cX3_courseSwapped 20 = .ok (.laload, 1) := by decide +kernel
theorem dX3_courseSwapped_21 : decode cX3_courseSwapped 21 = .ok (.iload 6, 2) := by decide +kernel
theorem dX3_courseSwapped_23 : decode cX3_courseSwapped 23 = .ok (.invokestatic 40, 3) := by decide +kernel
theorem dX3_courseSwapped_26 : decode cX3_courseSwapped 26 = .ok (.iload_n 2, 1) := by decide +kernel
theorem dX3_courseSwapped_27 : decode cX3_courseSwapped 27 = .ok (.if_icmp .gt 53, 3) := by decide +kernel
theorem dX3_courseSwapped_30 : decode cX3_courseSwapped 30 = .ok (.aload_n 0, 1) := by decide +kernel
theorem dX3_courseSwapped_31 : decode cX3_courseSwapped 31 = .ok (.iload_n 1, 1) := by decide +kernel
theorem dX3_courseSwapped_32 : decode cX3_courseSwapped 32 = .ok (.iload 6, 2) := by decide +kernel
theorem dX3_courseSwapped_34 : decode cX3_courseSwapped 34 = .ok (.invokevirtual 44, 3) := by decide +kernel
theorem dX3_courseSwapped_37 : decode cX3_courseSwapped 37 = .ok (.istore 7, 2) := by decide +kernel
theorem dX3_courseSwapped_39 : decode cX3_courseSwapped 39 = .ok (.aload_n 0, 1) := by decide +kernel
theorem dX3_courseSwapped_40 : decode cX3_courseSwapped 40 = .ok (.getfield 32, 3) := by decide +kernel
theorem dX3_courseSwapped_43 : decode cX3_courseSwapped 43 = .ok (.iload 5, 2) := by decide +kernel
theorem dX3_courseSwapped_45 : decode cX3_courseSwapped 45 = .ok (.iload 7, 2) := by decide +kernel
theorem dX3_courseSwapped_47 : decode cX3_courseSwapped 47 = .ok (.iload_n 3, 1) := by decide +kernel
theorem dX3_courseSwapped_48 : decode cX3_courseSwapped 48 = .ok (.if_icmp .ne 8, 3) := by decide +kernel
theorem dX3_courseSwapped_51 : decode cX3_courseSwapped 51 = .ok (.iload 4, 2) := by decide +kernel
theorem dX3_courseSwapped_53 : decode cX3_courseSwapped 53 = .ok (.goto 16, 3) := by decide +kernel
theorem dX3_courseSwapped_56 : decode cX3_courseSwapped 56 = .ok (.iload 7, 2) := by decide +kernel
theorem dX3_courseSwapped_58 : decode cX3_courseSwapped 58 = .ok (.iload 4, 2) := by decide +kernel
theorem dX3_courseSwapped_60 : decode cX3_courseSwapped 60 = .ok (.if_icmp .ne 7, 3) := by decide +kernel
theorem dX3_courseSwapped_63 : decode cX3_courseSwapped 63 = .ok (.iload_n 3, 1) := by decide +kernel
theorem dX3_courseSwapped_64 : decode cX3_courseSwapped 64 = .ok (.goto 5, 3) := by decide +kernel
theorem dX3_courseSwapped_67 : decode cX3_courseSwapped 67 = .ok (.iload 7, 2) := by decide +kernel
theorem dX3_courseSwapped_69 : decode cX3_courseSwapped 69 = .ok (.invokevirtual 60, 3) := by decide +kernel
theorem dX3_courseSwapped_72 : decode cX3_courseSwapped 72 = .ok (.istore 5, 2) := by decide +kernel
theorem dX3_courseSwapped_74 : decode cX3_courseSwapped 74 = .ok (.iinc 6 1, 3) := by decide +kernel
theorem dX3_courseSwapped_77 : decode cX3_courseSwapped 77 = .ok (.goto (-71), 3) := by decide +kernel
theorem dX3_courseSwapped_80 : decode cX3_courseSwapped 80 = .ok (.iload 5, 2) := by decide +kernel
theorem dX3_courseSwapped_82 : decode cX3_courseSwapped 82 = .ok (.ireturn, 1) := by decide +kernel
theorem dX3_newsYear_0 : decode cX3_newsYear 0 = .ok (.iload_n 2, 1) := by decide +kernel
theorem dX3_newsYear_1 : decode cX3_newsYear 1 = .ok (.ifCond .ne 7, 3) := by decide +kernel
theorem dX3_newsYear_4 : decode cX3_newsYear 4 = .ok (.iconst 0, 1) := by decide +kernel
theorem dX3_newsYear_5 : decode cX3_newsYear 5 = .ok (.goto 22, 3) := by decide +kernel
theorem dX3_newsYear_8 : decode cX3_newsYear 8 = .ok (.aload_n 0, 1) := by decide +kernel
theorem dX3_newsYear_9 : decode cX3_newsYear 9 = .ok (.getfield 25, 3) := by decide +kernel
theorem dX3_newsYear_12 : decode cX3_newsYear 12 = .ok (.iload_n 1, 1) := by decide +kernel
theorem dX3_newsYear_13 : decode cX3_newsYear 13 = .ok (.laload, 1) := by decide +kernel
theorem dX3_newsYear_14 : decode cX3_newsYear 14 = .ok (.iload_n 2, 1) := by decide +kernel
theorem dX3_newsYear_15 : decode cX3_newsYear 15 = .ok (.iconst 1, 1) := by decide +kernel
theorem dX3_newsYear_16 : decode cX3_newsYear 16 = .ok (.isub, 1) := by decide +kernel
theorem dX3_newsYear_17 : decode cX3_newsYear 17 = .ok (.invokestatic 40, 3) := by decide +kernel
theorem dX3_newsYear_20 : decode cX3_newsYear 20 = .ok (.aload_n 0, 1) := by decide +kernel
theorem dX3_newsYear_21 : decode cX3_newsYear 21 = .ok (.getfield 9, 3) := by decide +kernel
theorem dX3_newsYear_24 : decode cX3_newsYear 24 = .ok (.iload_n 3, 1) := by decide +kernel
theorem dX3_newsYear_25 : decode cX3_newsYear 25 = .ok (.iaload, 1) := by decide +kernel
theorem dX3_newsYear_26 : decode cX3_newsYear 26 = .ok (.iadd, 1) := by decide +kernel
theorem dX3_newsYear_27 : decode cX3_newsYear 27 = .ok (.ireturn, 1) := by decide +kernel
theorem dX3_isFirstBut_0 : decode cX3_isFirstBut 0 = .ok (.iconst 0, 1) := by decide +kernel
theorem dX3_isFirstBut_1 : decode cX3_isFirstBut 1 = .ok (.istore_n 3, 1) := by decide +kernel
theorem dX3_isFirstBut_2 : decode cX3_isFirstBut 2 = .ok (.iload_n 3, 1) := by decide +kernel
theorem dX3_isFirstBut_3 : decode cX3_isFirstBut 3 = .ok (.aload_n 0, 1) := by decide +kernel
theorem dX3_isFirstBut_4 : decode cX3_isFirstBut 4 = .ok (.getfield 19, 3) := by decide +kernel
theorem dX3_isFirstBut_7 : decode cX3_isFirstBut 7 = .ok (.if_icmp .ge 34, 3) := by decide +kernel
theorem dX3_isFirstBut_10 : decode cX3_isFirstBut 10 = .ok (.iload_n 2, 1) := by decide +kernel
theorem dX3_isFirstBut_11 : decode cX3_isFirstBut 11 = .ok (.iload_n 3, 1) := by decide +kernel
theorem dX3_isFirstBut_12 : decode cX3_isFirstBut 12 = .ok (.ishr, 1) := by decide +kernel
theorem dX3_isFirstBut_13 : decode cX3_isFirstBut 13 = .ok (.iconst 1, 1) := by decide +kernel
theorem dX3_isFirstBut_14 : decode cX3_isFirstBut 14 = .ok (.iand, 1) := by decide +kernel
theorem dX3_isFirstBut_15 : decode cX3_isFirstBut 15 = .ok (.ifCond .ne 20, 3) := by decide +kernel
theorem dX3_isFirstBut_18 : decode cX3_isFirstBut 18 = .ok (.aload_n 0, 1) := by decide +kernel
theorem dX3_isFirstBut_19 : decode cX3_isFirstBut 19 = .ok (.iload_n 1, 1) := by decide +kernel
theorem dX3_isFirstBut_20 : decode cX3_isFirstBut 20 = .ok (.iload_n 3, 1) := by decide +kernel
theorem dX3_isFirstBut_21 : decode cX3_isFirstBut 21 = .ok (.invokevirtual 51, 3) := by decide +kernel
theorem dX3_isFirstBut_24 : decode cX3_isFirstBut 24 = .ok (.aload_n 0, 1) := by decide +kernel
theorem dX3_isFirstBut_25 : decode cX3_isFirstBut 25 = .ok (.getfield 29, 3) := by decide +kernel
theorem dX3_isFirstBut_28 : decode cX3_isFirstBut 28 = .ok (.iload_n 3, 1) := by decide +kernel
theorem dX3_isFirstBut_29 : decode cX3_isFirstBut 29 = .ok (.iaload, 1) := by decide +kernel
theorem dX3_isFirstBut_30 : decode cX3_isFirstBut 30 = .ok (.if_icmp .eq 5, 3) := by decide +kernel
theorem dX3_isFirstBut_33 : decode cX3_isFirstBut 33 = .ok (.iconst 0, 1) := by decide +kernel
theorem dX3_isFirstBut_34 : decode cX3_isFirstBut 34 = .ok (.ireturn, 1) := by decide +kernel
theorem dX3_isFirstBut_35 : decode cX3_isFirstBut 35 = .ok (.iinc 3 1, 3) := by decide +kernel
theorem dX3_isFirstBut_38 : decode cX3_isFirstBut 38 = .ok (.goto (-36), 3) := by decide +kernel
theorem dX3_isFirstBut_41 : decode cX3_isFirstBut 41 = .ok (.iconst 1, 1) := by decide +kernel
theorem dX3_isFirstBut_42 : decode cX3_isFirstBut 42 = .ok (.ireturn, 1) := by decide +kernel
theorem dX4_init_0 : decode cX4_init 0 = .ok (.aload_n 0, 1) := by decide +kernel
theorem dX4_init_1 : decode cX4_init 1 = .ok (.invokespecial 1, 3) := by decide +kernel
theorem dX4_init_4 : decode cX4_init 4 = .ok (.aload_n 0, 1) := by decide +kernel
theorem dX4_init_5 : decode cX4_init 5 = .ok (.bipush 24, 2) := by decide +kernel
theorem dX4_init_7 : decode cX4_init 7 = .ok (.newarray .long, 2) := by decide +kernel
theorem dX4_init_9 : decode cX4_init 9 = .ok (.putfield 9, 3) := by decide +kernel
theorem dX4_init_12 : decode cX4_init 12 = .ok (.aload_n 0, 1) := by decide +kernel
theorem dX4_init_13 : decode cX4_init 13 = .ok (.iconst 0, 1) := by decide +kernel
theorem dX4_init_14 : decode cX4_init 14 = .ok (.putfield 13, 3) := by decide +kernel
theorem dX4_init_17 : decode cX4_init 17 = .ok (.return_, 1) := by decide +kernel
theorem dX4_clear_0 : decode cX4_clear 0 = .ok (.aload_n 0, 1) := by decide +kernel
theorem dX4_clear_1 : decode cX4_clear 1 = .ok (.iconst 0, 1) := by decide +kernel
theorem dX4_clear_2 : decode cX4_clear 2 = .ok (.putfield 13, 3) := by decide +kernel
theorem dX4_clear_5 : decode cX4_clear 5 = .ok (.return_, 1) := by decide +kernel
theorem dX4_add_0 : decode cX4_add 0 = .ok (.aload_n 0, 1) := by decide +kernel
theorem dX4_add_1 : decode cX4_add 1 = .ok (.getfield 13, 3) := by decide +kernel
theorem dX4_add_4 : decode cX4_add 4 = .ok (.bipush 24, 2) := by decide +kernel
theorem dX4_add_6 : decode cX4_add 6 = .ok (.if_icmp .ge 23, 3) := by decide +kernel
theorem dX4_add_9 : decode cX4_add 9 = .ok (.aload_n 0, 1) := by decide +kernel
theorem dX4_add_10 : decode cX4_add 10 = .ok (.getfield 9, 3) := by decide +kernel
theorem dX4_add_13 : decode cX4_add 13 = .ok (.aload_n 0, 1) := by decide +kernel
theorem dX4_add_14 : decode cX4_add 14 = .ok (.getfield 13, 3) := by decide +kernel
theorem dX4_add_17 : decode cX4_add 17 = .ok (.lload_n 1, 1) := by decide +kernel
theorem dX4_add_18 : decode cX4_add 18 = .ok (.lastore, 1) := by decide +kernel
theorem dX4_add_19 : decode cX4_add 19 = .ok (.aload_n 0, 1) := by decide +kernel
theorem dX4_add_20 : decode cX4_add 20 = .ok (.dup, 1) := by decide +kernel
theorem dX4_add_21 : decode cX4_add 21 = .ok (.getfield 13, 3) := by decide +kernel
theorem dX4_add_24 : decode cX4_add 24 = .ok (.iconst 1, 1) := by decide +kernel
theorem dX4_add_25 : decode cX4_add 25 = .ok (.iadd, 1) := by decide +kernel
theorem dX4_add_26 : decode cX4_add 26 = .ok (.putfield 13, 3) := by decide +kernel
theorem dX4_add_29 : decode cX4_add 29 = .ok (.return_, 1) := by decide +kernel
theorem dX4_addFraction_0 : decode cX4_addFraction 0 = .ok (.lload_n 1, 1) := by decide +kernel
theorem dX4_addFraction_1 : decode cX4_addFraction 1 = .ok (.lload_n 3, 1) := by decide +kernel
theorem dX4_addFraction_2 : decode cX4_addFraction 2 = .ok (.invokestatic 17, 3) := by decide +kernel
theorem dX4_addFraction_5 : decode cX4_addFraction 5 = .ok (.lstore 5, 2) := by decide +kernel
theorem dX4_addFraction_7 : decode cX4_addFraction 7 = .ok (.lload 5, 2) := by decide +kernel
theorem dX4_addFraction_9 : decode cX4_addFraction 9 = .ok (.lconst 0, 1) := by decide +kernel
theorem dX4_addFraction_10 : decode cX4_addFraction 10 = .ok (.lcmp, 1) := by decide +kernel
theorem dX4_addFraction_11 : decode cX4_addFraction 11 = .ok (.ifCond .le 19, 3) := by decide +kernel
theorem dX4_addFraction_14 : decode cX4_addFraction 14 = .ok (.aload_n 0, 1) := by decide +kernel
theorem dX4_addFraction_15 : decode cX4_addFraction 15 = .ok (.lload_n 1, 1) := by decide +kernel
theorem dX4_addFraction_16 : decode cX4_addFraction 16 = .ok (.lload 5, 2) := by decide +kernel
theorem dX4_addFraction_18 : decode cX4_addFraction 18 = .ok (.ldiv, 1) := by decide +kernel
theorem dX4_addFraction_19 : decode cX4_addFraction 19 = .ok (.invokevirtual 21, 3) := by decide +kernel
theorem dX4_addFraction_22 : decode cX4_addFraction 22 = .ok (.aload_n 0, 1) := by decide +kernel
theorem dX4_addFraction_23 : decode cX4_addFraction 23 = .ok (.lload_n 3, 1) := by decide +kernel
theorem dX4_addFraction_24 : decode cX4_addFraction 24 = .ok (.lload 5, 2) := by decide +kernel
theorem dX4_addFraction_26 : decode cX4_addFraction 26 = .ok (.ldiv, 1) := by decide +kernel
theorem dX4_addFraction_27 : decode cX4_addFraction 27 = .ok (.invokevirtual 21, 3) := by decide +kernel
theorem dX4_addFraction_30 : decode cX4_addFraction 30 = .ok (.return_, 1) := by decide +kernel
theorem dX4_sharedDivisor_0 : decode cX4_sharedDivisor 0 = .ok (.lload_n 0, 1) := by decide +kernel
theorem dX4_sharedDivisor_1 : decode cX4_sharedDivisor 1 = .ok (.lstore 4, 2) := by decide +kernel
theorem dX4_sharedDivisor_3 : decode cX4_sharedDivisor 3 = .ok (.lload_n 2, 1) := by decide +kernel
theorem dX4_sharedDivisor_4 : decode cX4_sharedDivisor 4 = .ok (.lstore 6, 2) := by decide +kernel
theorem dX4_sharedDivisor_6 : decode cX4_sharedDivisor 6 = .ok (.iconst 0, 1) := by decide +kernel
theorem dX4_sharedDivisor_7 : decode cX4_sharedDivisor 7 = .ok (.istore 8, 2) := by decide +kernel
theorem dX4_sharedDivisor_9 : decode cX4_sharedDivisor 9 = .ok (.iload 8, 2) := by decide +kernel
theorem dX4_sharedDivisor_11 : decode cX4_sharedDivisor 11 = .ok (.sipush 200, 3) := by decide +kernel
theorem dX4_sharedDivisor_14 : decode cX4_sharedDivisor 14 = .ok (.if_icmp .ge 31, 3) := by decide +kernel
theorem dX4_sharedDivisor_17 : decode cX4_sharedDivisor 17 = .ok (.lload 6, 2) := by decide +kernel
theorem dX4_sharedDivisor_19 : decode cX4_sharedDivisor 19 = .ok (.lconst 0, 1) := by decide +kernel
theorem dX4_sharedDivisor_20 : decode cX4_sharedDivisor 20 = .ok (.lcmp, 1) := by decide +kernel
theorem dX4_sharedDivisor_21 : decode cX4_sharedDivisor 21 = .ok (.ifCond .eq 24, 3) := by decide +kernel
theorem dX4_sharedDivisor_24 : decode cX4_sharedDivisor 24 = .ok (.lload 4, 2) := by decide +kernel
theorem dX4_sharedDivisor_26 : decode cX4_sharedDivisor 26 = .ok (.lload 6, 2) := by decide +kernel
theorem dX4_sharedDivisor_28 : decode cX4_sharedDivisor 28 = .ok (.lrem, 1) := by decide +kernel
theorem dX4_sharedDivisor_29 : decode cX4_sharedDivisor 29 = .ok (.lstore 9, 2) := by decide +kernel
theorem dX4_sharedDivisor_31 : decode cX4_sharedDivisor 31 = .ok (.lload 6, 2) := by decide +kernel
theorem dX4_sharedDivisor_33 : decode cX4_sharedDivisor 33 = .ok (.lstore 4, 2) := by decide +kernel
theorem dX4_sharedDivisor_35 : decode cX4_sharedDivisor 35 = .ok (.lload 9, 2) := by decide +kernel
theorem dX4_sharedDivisor_37 : decode cX4_sharedDivisor 37 = .ok (.lstore 6, 2) := by decide +kernel
theorem dX4_sharedDivisor_39 : decode cX4_sharedDivisor 39 = .ok (.iinc 8 1, 3) := by decide +kernel
theorem dX4_sharedDivisor_42 : decode cX4_sharedDivisor 42 = .ok (.goto (-33), 3) := by decide +kernel
theorem dX4_sharedDivisor_45 : decode cX4_sharedDivisor 45 = .ok (.lload 4, 2) := by decide +kernel
theorem dX4_sharedDivisor_47 : decode cX4_sharedDivisor 47 = .ok (.lreturn, 1) := by decide +kernel
theorem dX5_init_0 : decode cX5_init 0 = .ok (.aload_n 0, 1) := by decide +kernel
theorem dX5_init_1 : decode cX5_init 1 = .ok (.invokespecial 1, 3) := by decide +kernel
theorem dX5_init_4 : decode cX5_init 4 = .ok (.aload_n 0, 1) := by decide +kernel
theorem dX5_init_5 : decode cX5_init 5 = .ok (.iconst 0, 1) := by decide +kernel
theorem dX5_init_6 : decode cX5_init 6 = .ok (.putfield 7, 3) := by decide +kernel
theorem dX5_init_9 : decode cX5_init 9 = .ok (.aload_n 0, 1) := by decide +kernel
theorem dX5_init_10 : decode cX5_init 10 = .ok (.iconst 5, 1) := by decide +kernel
theorem dX5_init_11 : decode cX5_init 11 = .ok (.putfield 13, 3) := by decide +kernel
theorem dX5_init_14 : decode cX5_init 14 = .ok (.return_, 1) := by decide +kernel
theorem dX5_tell_0 : decode cX5_tell 0 = .ok (.aload_n 0, 1) := by decide +kernel
theorem dX5_tell_1 : decode cX5_tell 1 = .ok (.iload_n 1, 1) := by decide +kernel
theorem dX5_tell_2 : decode cX5_tell 2 = .ok (.putfield 16, 3) := by decide +kernel
theorem dX5_tell_5 : decode cX5_tell 5 = .ok (.aload_n 0, 1) := by decide +kernel
theorem dX5_tell_6 : decode cX5_tell 6 = .ok (.iload_n 2, 1) := by decide +kernel
theorem dX5_tell_7 : decode cX5_tell 7 = .ok (.putfield 19, 3) := by decide +kernel
theorem dX5_tell_10 : decode cX5_tell 10 = .ok (.aload_n 0, 1) := by decide +kernel
theorem dX5_tell_11 : decode cX5_tell 11 = .ok (.iload_n 1, 1) := by decide +kernel
theorem dX5_tell_12 : decode cX5_tell 12 = .ok (.iconst 2, 1) := by decide +kernel
theorem dX5_tell_13 : decode cX5_tell 13 = .ok (.if_icmp .eq 8, 3) := by decide +kernel
theorem dX5_tell_16 : decode cX5_tell 16 = .ok (.iload_n 1, 1) := by decide +kernel
theorem dX5_tell_17 : decode cX5_tell 17 = .ok (.iconst 3, 1) := by decide +kernel
theorem dX5_tell_18 : decode cX5_tell 18 = .ok (.if_icmp .ne 7, 3) := by decide +kernel
theorem dX5_tell_21 : decode cX5_tell 21 = .ok (.iload_n 2, 1) := by decide +kernel
theorem dX5_tell_22 : decode cX5_tell 22 = .ok (.goto 4, 3) := by decide +kernel
theorem dX5_tell_25 : decode cX5_tell 25 = .ok (.iload_n 3, 1) := by decide +kernel
theorem dX5_tell_26 : decode cX5_tell 26 = .ok (.putfield 22, 3) := by decide +kernel
theorem dX5_tell_29 : decode cX5_tell 29 = .ok (.aload_n 0, 1) := by decide +kernel
theorem dX5_tell_30 : decode cX5_tell 30 = .ok (.iload 4, 2) := by decide +kernel
theorem dX5_tell_32 : decode cX5_tell 32 = .ok (.putfield 25, 3) := by decide +kernel
theorem dX5_tell_35 : decode cX5_tell 35 = .ok (.return_, 1) := by decide +kernel
theorem dX5_put_0 : decode cX5_put 0 = .ok (.aload_n 0, 1) := by decide +kernel
theorem dX5_put_1 : decode cX5_put 1 = .ok (.iload_n 1, 1) := by decide +kernel
theorem dX5_put_2 : decode cX5_put 2 = .ok (.putfield 28, 3) := by decide +kernel
theorem dX5_put_5 : decode cX5_put 5 = .ok (.aload_n 0, 1) := by decide +kernel
theorem dX5_put_6 : decode cX5_put 6 = .ok (.iload_n 2, 1) := by decide +kernel
theorem dX5_put_7 : decode cX5_put 7 = .ok (.putfield 31, 3) := by decide +kernel
theorem dX5_put_10 : decode cX5_put 10 = .ok (.return_, 1) := by decide +kernel
theorem dX5_isSoOn_0 : decode cX5_isSoOn 0 = .ok (.aload_n 0, 1) := by decide +kernel
theorem dX5_isSoOn_1 : decode cX5_isSoOn 1 = .ok (.aload_n 2, 1) := by decide +kernel
theorem dX5_isSoOn_2 : decode cX5_isSoOn 2 = .ok (.iload_n 1, 1) := by decide +kernel
theorem dX5_isSoOn_3 : decode cX5_isSoOn 3 = .ok (.aload_n 0, 1) := by decide +kernel
theorem dX5_isSoOn_4 : decode cX5_isSoOn 4 = .ok (.getfield 19, 3) := by decide +kernel
theorem dX5_isSoOn_7 : decode cX5_isSoOn 7 = .ok (.invokevirtual 34, 3) := by decide +kernel
theorem dX5_isSoOn_10 : decode cX5_isSoOn 10 = .ok (.aload_n 2, 1) := by decide +kernel
theorem dX5_isSoOn_11 : decode cX5_isSoOn 11 = .ok (.iload_n 1, 1) := by decide +kernel
theorem dX5_isSoOn_12 : decode cX5_isSoOn 12 = .ok (.aload_n 0, 1) := by decide +kernel
theorem dX5_isSoOn_13 : decode cX5_isSoOn 13 = .ok (.getfield 22, 3) := by decide +kernel
theorem dX5_isSoOn_16 : decode cX5_isSoOn 16 = .ok (.invokevirtual 34, 3) := by decide +kernel
theorem dX5_isSoOn_19 : decode cX5_isSoOn 19 = .ok (.aload_n 2, 1) := by decide +kernel
theorem dX5_isSoOn_20 : decode cX5_isSoOn 20 = .ok (.invokevirtual 40, 3) := by decide +kernel
theorem dX5_isSoOn_23 : decode cX5_isSoOn 23 = .ok (.invokevirtual 44, 3) := by decide +kernel
theorem dX5_isSoOn_26 : decode cX5_isSoOn 26 = .ok (.ireturn, 1) := by decide +kernel
theorem dX5_isSoOf_0 : decode cX5_isSoOf 0 = .ok (.aload_n 0, 1) := by decide +kernel
theorem dX5_isSoOf_1 : decode cX5_isSoOf 1 = .ok (.getfield 16, 3) := by decide +kernel
theorem dX5_isSoOf_4 : decode cX5_isSoOf 4 = .ok (.tableswitch 65 1 3 #[28, 40, 59], 28) := by decide +kernel
theorem dX5_isSoOf_32 : decode cX5_isSoOf 32 = .ok (.lload_n 1, 1) := by decide +kernel
theorem dX5_isSoOf_33 : decode cX5_isSoOf 33 = .ok (.lload_n 3, 1) := by decide +kernel
theorem dX5_isSoOf_34 : decode cX5_isSoOf 34 = .ok (.lcmp, 1) := by decide +kernel
theorem dX5_isSoOf_35 : decode cX5_isSoOf 35 = .ok (.ifCond .ne 7, 3) := by decide +kernel
theorem dX5_isSoOf_38 : decode cX5_isSoOf 38 = .ok (.iconst 1, 1) := by decide +kernel
theorem dX5_isSoOf_39 : decode cX5_isSoOf 39 = .ok (.goto 4, 3) := by decide +kernel
theorem dX5_isSoOf_42 : decode cX5_isSoOf 42 = .ok (.iconst 0, 1) := by decide +kernel
theorem dX5_isSoOf_43 : decode cX5_isSoOf 43 = .ok (.ireturn, 1) := by decide +kernel
theorem dX5_isSoOf_44 : decode cX5_isSoOf 44 = .ok (.lload_n 1, 1) := by decide +kernel
theorem dX5_isSoOf_45 : decode cX5_isSoOf 45 = .ok (.iload 5, 2) := by decide +kernel
theorem dX5_isSoOf_47 : decode cX5_isSoOf 47 = .ok (.invokestatic 48, 3) := by decide +kernel
theorem dX5_isSoOf_50 : decode cX5_isSoOf 50 = .ok (.aload_n 0, 1) := by decide +kernel
theorem dX5_isSoOf_51 : decode cX5_isSoOf 51 = .ok (.getfield 25, 3) := by decide +kernel
theorem dX5_isSoOf_54 : decode cX5_isSoOf 54 = .ok (.if_icmp .ne 7, 3) := by decide +kernel
theorem dX5_isSoOf_57 : decode cX5_isSoOf 57 = .ok (.iconst 1, 1) := by decide +kernel
theorem dX5_isSoOf_58 : decode cX5_isSoOf 58 = .ok (.goto 4, 3) := by decide +kernel
theorem dX5_isSoOf_61 : decode cX5_isSoOf 61 = .ok (.iconst 0, 1) := by decide +kernel
theorem dX5_isSoOf_62 : decode cX5_isSoOf 62 = .ok (.ireturn, 1) := by decide +kernel
theorem dX5_isSoOf_63 : decode cX5_isSoOf 63 = .ok (.aload_n 0, 1) := by decide +kernel
theorem dX5_isSoOf_64 : decode cX5_isSoOf 64 = .ok (.lload_n 1, 1) := by decide +kernel
theorem dX5_isSoOf_65 : decode cX5_isSoOf 65 = .ok (.invokevirtual 54, 3) := by decide +kernel
theorem dX5_isSoOf_68 : decode cX5_isSoOf 68 = .ok (.ireturn, 1) := by decide +kernel
theorem dX5_isSoOf_69 : decode cX5_isSoOf 69 = .ok (.aload_n 0, 1) := by decide +kernel
theorem dX5_isSoOf_70 : decode cX5_isSoOf 70 = .ok (.lload_n 1, 1) := by decide +kernel
theorem dX5_isSoOf_71 : decode cX5_isSoOf 71 = .ok (.iload 5, 2) := by decide +kernel
theorem dX5_isSoOf_73 : decode cX5_isSoOf 73 = .ok (.invokestatic 58, 3) := by decide +kernel
theorem dX5_isSoOf_76 : decode cX5_isSoOf 76 = .ok (.lload_n 3, 1) := by decide +kernel
theorem dX5_isSoOf_77 : decode cX5_isSoOf 77 = .ok (.iload 5, 2) := by decide +kernel
theorem dX5_isSoOf_79 : decode cX5_isSoOf 79 = .ok (.invokestatic 58, 3) := by decide +kernel
theorem dX5_isSoOf_82 : decode cX5_isSoOf 82 = .ok (.invokevirtual 62, 3) := by decide +kernel
theorem dX5_isSoOf_85 : decode cX5_isSoOf 85 = .ok (.ireturn, 1) := by decide +kernel
theorem dX5_areTailsSo_0 : decode cX5_areTailsSo 0 = .ok (.lload_n 1, 1) := by decide +kernel
theorem dX5_areTailsSo_1 : decode cX5_areTailsSo 1 = .ok (.lconst 0, 1) := by decide +kernel
theorem dX5_areTailsSo_2 : decode cX5_areTailsSo 2 = .ok (.lcmp, 1) := by decide +kernel
theorem dX5_areTailsSo_3 : decode cX5_areTailsSo 3 = .ok (.ifCond .eq 13, 3) := by decide +kernel
theorem dX5_areTailsSo_6 : decode cX5_areTailsSo 6 = .ok (.lload_n 3, 1) := by decide +kernel
theorem dX5_areTailsSo_7 : decode cX5_areTailsSo 7 = .ok (.lconst 0, 1) := by decide +kernel
theorem dX5_areTailsSo_8 : decode cX5_areTailsSo 8 = .ok (.lcmp, 1) := by decide +kernel
theorem dX5_areTailsSo_9 : decode cX5_areTailsSo 9 = .ok (.ifCond .eq 7, 3) := by decide +kernel
theorem dX5_areTailsSo_12 : decode cX5_areTailsSo 12 = .ok (.iconst 1, 1) := by decide +kernel
theorem dX5_areTailsSo_13 : decode cX5_areTailsSo 13 = .ok (.goto 4, 3) := by decide +kernel
theorem dX5_areTailsSo_16 : decode cX5_areTailsSo 16 = .ok (.iconst 0, 1) := by decide +kernel
theorem dX5_areTailsSo_17 : decode cX5_areTailsSo 17 = .ok (.istore 5, 2) := by decide +kernel
theorem dX5_areTailsSo_19 : decode cX5_areTailsSo 19 = .ok (.iload 5, 2) := by decide +kernel
theorem dX5_areTailsSo_21 : decode cX5_areTailsSo 21 = .ok (.ifCond .eq 33, 3) := by decide +kernel
theorem dX5_areTailsSo_24 : decode cX5_areTailsSo 24 = .ok (.lload_n 1, 1) := by decide +kernel
theorem dX5_areTailsSo_25 : decode cX5_areTailsSo 25 = .ok (.lload_n 3, 1) := by decide +kernel
theorem dX5_areTailsSo_26 : decode cX5_areTailsSo 26 = .ok (.lcmp, 1) := by decide +kernel
theorem dX5_areTailsSo_27 : decode cX5_areTailsSo 27 = .ok (.ifCond .ne 7, 3) := by decide +kernel
theorem dX5_areTailsSo_30 : decode cX5_areTailsSo 30 = .ok (.iconst 1, 1) := by decide +kernel
theorem dX5_areTailsSo_31 : decode cX5_areTailsSo 31 = .ok (.goto 4, 3) := by decide +kernel
theorem dX5_areTailsSo_34 : decode cX5_areTailsSo 34 = .ok (.iconst 0, 1) := by decide +kernel
theorem dX5_areTailsSo_35 : decode cX5_areTailsSo 35 = .ok (.aload_n 0, 1) := by decide +kernel
theorem dX5_areTailsSo_36 : decode cX5_areTailsSo 36 = .ok (.getfield 16, 3) := by decide +kernel
theorem dX5_areTailsSo_39 : decode cX5_areTailsSo 39 = .ok (.ifCond .ne 7, 3) := by decide +kernel
theorem dX5_areTailsSo_42 : decode cX5_areTailsSo 42 = .ok (.iconst 1, 1) := by decide +kernel
theorem dX5_areTailsSo_43 : decode cX5_areTailsSo 43 = .ok (.goto 4, 3) := by decide +kernel
theorem dX5_areTailsSo_46 : decode cX5_areTailsSo 46 = .ok (.iconst 0, 1) := by decide +kernel
theorem dX5_areTailsSo_47 : decode cX5_areTailsSo 47 = .ok (.if_icmp .ne 7, 3) := by decide +kernel
theorem dX5_areTailsSo_50 : decode cX5_areTailsSo 50 = .ok (.iconst 1, 1) := by decide +kernel
theorem dX5_areTailsSo_51 : decode cX5_areTailsSo 51 = .ok (.goto 4, 3) := by decide +kernel
theorem dX5_areTailsSo_54 : decode cX5_areTailsSo 54 = .ok (.iconst 0, 1) := by decide +kernel
theorem dX5_areTailsSo_55 : decode cX5_areTailsSo 55 = .ok (.ireturn, 1) := by decide +kernel
theorem dX5_isBooked_0 : decode cX5_isBooked 0 = .ok (.aload_n 0, 1) := by decide +kernel
theorem dX5_isBooked_1 : decode cX5_isBooked 1 = .ok (.getfield 25, 3) := by decide +kernel
theorem dX5_isBooked_4 : decode cX5_isBooked 4 = .ok (.iconst 4, 1) := by decide +kernel
theorem dX5_isBooked_5 : decode cX5_isBooked 5 = .ok (.ishr, 1) := by decide +kernel
theorem dX5_isBooked_6 : decode cX5_isBooked 6 = .ok (.istore_n 3, 1) := by decide +kernel
theorem dX5_isBooked_7 : decode cX5_isBooked 7 = .ok (.iload_n 3, 1) := by decide +kernel
theorem dX5_isBooked_8 : decode cX5_isBooked 8 = .ok (.lload_n 1, 1) := by decide +kernel
theorem dX5_isBooked_9 : decode cX5_isBooked 9 = .ok (.invokestatic 66, 3) := by decide +kernel
theorem dX5_isBooked_12 : decode cX5_isBooked 12 = .ok (.if_icmp .ge 22, 3) := by decide +kernel
theorem dX5_isBooked_15 : decode cX5_isBooked 15 = .ok (.lload_n 1, 1) := by decide +kernel
theorem dX5_isBooked_16 : decode cX5_isBooked 16 = .ok (.iload_n 3, 1) := by decide +kernel
theorem dX5_isBooked_17 : decode cX5_isBooked 17 = .ok (.invokestatic 70, 3) := by decide +kernel
theorem dX5_isBooked_20 : decode cX5_isBooked 20 = .ok (.aload_n 0, 1) := by decide +kernel
theorem dX5_isBooked_21 : decode cX5_isBooked 21 = .ok (.getfield 25, 3) := by decide +kernel
theorem dX5_isBooked_24 : decode cX5_isBooked 24 = .ok (.bipush 15, 2) := by decide +kernel
theorem dX5_isBooked_26 : decode cX5_isBooked 26 = .ok (.iand, 1) := by decide +kernel
theorem dX5_isBooked_27 : decode cX5_isBooked 27 = .ok (.if_icmp .ne 7, 3) := by decide +kernel
theorem dX5_isBooked_30 : decode cX5_isBooked 30 = .ok (.iconst 1, 1) := by decide +kernel
theorem dX5_isBooked_31 : decode cX5_isBooked 31 = .ok (.goto 4, 3) := by decide +kernel
theorem dX5_isBooked_34 : decode cX5_isBooked 34 = .ok (.iconst 0, 1) := by decide +kernel
theorem dX5_isBooked_35 : decode cX5_isBooked 35 = .ok (.ireturn, 1) := by decide +kernel
theorem dX6_init_0 : decode cX6_init 0 = .ok (.aload_n 0, 1) := by decide +kernel
theorem dX6_init_1 : decode cX6_init 1 = .ok (.invokespecial 3, 3) := by decide +kernel
theorem dX6_init_4 : decode cX6_init 4 = .ok (.aload_n 0, 1) := by decide +kernel
theorem dX6_init_5 : decode cX6_init 5 = .ok (.bipush 16, 2) := by decide +kernel
theorem dX6_init_7 : decode cX6_init 7 = .ok (.anewarray 9, 3) := by decide +kernel
theorem dX6_init_10 : decode cX6_init 10 = .ok (.putfield 11, 3) := by decide +kernel
theorem dX6_init_13 : decode cX6_init 13 = .ok (.aload_n 0, 1) := by decide +kernel
theorem dX6_init_14 : decode cX6_init 14 = .ok (.iconst 0, 1) := by decide +kernel
theorem dX6_init_15 : decode cX6_init 15 = .ok (.putfield 17, 3) := by decide +kernel
theorem dX6_init_18 : decode cX6_init 18 = .ok (.aload_n 0, 1) := by decide +kernel
theorem dX6_init_19 : decode cX6_init 19 = .ok (.iconst 0, 1) := by decide +kernel
theorem dX6_init_20 : decode cX6_init 20 = .ok (.putfield 21, 3) := by decide +kernel
theorem dX6_init_23 : decode cX6_init 23 = .ok (.aload_n 0, 1) := by decide +kernel
theorem dX6_init_24 : decode cX6_init 24 = .ok (.sipush 600, 3) := by decide +kernel
theorem dX6_init_27 : decode cX6_init 27 = .ok (.newarray .int, 2) := by decide +kernel
theorem dX6_init_29 : decode cX6_init 29 = .ok (.putfield 24, 3) := by decide +kernel
theorem dX6_init_32 : decode cX6_init 32 = .ok (.aload_n 0, 1) := by decide +kernel
theorem dX6_init_33 : decode cX6_init 33 = .ok (.iconst 0, 1) := by decide +kernel
theorem dX6_init_34 : decode cX6_init 34 = .ok (.putfield 28, 3) := by decide +kernel
theorem dX6_init_37 : decode cX6_init 37 = .ok (.aload_n 0, 1) := by decide +kernel
theorem dX6_init_38 : decode cX6_init 38 = .ok (.aload_n 1, 1) := by decide +kernel
theorem dX6_init_39 : decode cX6_init 39 = .ok (.putfield 31, 3) := by decide +kernel
theorem dX6_init_42 : decode cX6_init 42 = .ok (.aload_n 0, 1) := by decide +kernel
theorem dX6_init_43 : decode cX6_init 43 = .ok (.aload_n 2, 1) := by decide +kernel
theorem dX6_init_44 : decode cX6_init 44 = .ok (.putfield 35, 3) := by decide +kernel
theorem dX6_init_47 : decode cX6_init 47 = .ok (.iconst 0, 1) := by decide +kernel
theorem dX6_init_48 : decode cX6_init 48 = .ok (.istore_n 3, 1) := by decide +kernel
theorem dX6_init_49 : decode cX6_init 49 = .ok (.iload_n 3, 1) := by decide +kernel
theorem dX6_init_50 : decode cX6_init 50 = .ok (.bipush 16, 2) := by decide +kernel
theorem dX6_init_52 : decode cX6_init 52 = .ok (.if_icmp .ge 22, 3) := by decide +kernel
theorem dX6_init_55 : decode cX6_init 55 = .ok (.aload_n 0, 1) := by decide +kernel
theorem dX6_init_56 : decode cX6_init 56 = .ok (.getfield 11, 3) := by decide +kernel
theorem dX6_init_59 : decode cX6_init 59 = .ok (.iload_n 3, 1) := by decide +kernel
theorem dX6_init_60 : decode cX6_init 60 = .ok (.new 9, 3) := by decide +kernel
theorem dX6_init_63 : decode cX6_init 63 = .ok (.dup, 1) := by decide +kernel
theorem dX6_init_64 : decode cX6_init 64 = .ok (.invokespecial 39, 3) := by decide +kernel
theorem dX6_init_67 : decode cX6_init 67 = .ok (.aastore, 1) := by decide +kernel
theorem dX6_init_68 : decode cX6_init 68 = .ok (.iinc 3 1, 3) := by decide +kernel
theorem dX6_init_71 : decode cX6_init 71 = .ok (.goto (-22), 3) := by decide +kernel
theorem dX6_init_74 : decode cX6_init 74 = .ok (.return_, 1) := by decide +kernel
theorem dX6_addTold_0 : decode cX6_addTold 0 = .ok (.aload_n 0, 1) := by decide +kernel
theorem dX6_addTold_1 : decode cX6_addTold 1 = .ok (.getfield 17, 3) := by decide +kernel
theorem dX6_addTold_4 : decode cX6_addTold 4 = .ok (.istore_n 1, 1) := by decide +kernel
theorem dX6_addTold_5 : decode cX6_addTold 5 = .ok (.aload_n 0, 1) := by decide +kernel
theorem dX6_addTold_6 : decode cX6_addTold 6 = .ok (.dup, 1) := by decide +kernel
theorem dX6_addTold_7 : decode cX6_addTold 7 = .ok (.getfield 17, 3) := by decide +kernel
theorem dX6_addTold_10 : decode cX6_addTold 10 = .ok (.iconst 1, 1) := by decide +kernel
theorem dX6_addTold_11 : decode cX6_addTold 11 = .ok (.iadd, 1) := by decide +kernel
theorem dX6_addTold_12 : decode cX6_addTold 12 = .ok (.putfield 17, 3) := by decide +kernel
theorem dX6_addTold_15 : decode cX6_addTold 15 = .ok (.aload_n 0, 1) := by decide +kernel
theorem dX6_addTold_16 : decode cX6_addTold 16 = .ok (.dup, 1) := by decide +kernel
theorem dX6_addTold_17 : decode cX6_addTold 17 = .ok (.getfield 21, 3) := by decide +kernel
theorem dX6_addTold_20 : decode cX6_addTold 20 = .ok (.iconst 1, 1) := by decide +kernel
theorem dX6_addTold_21 : decode cX6_addTold 21 = .ok (.iload_n 1, 1) := by decide +kernel
theorem dX6_addTold_22 : decode cX6_addTold 22 = .ok (.ishl, 1) := by decide +kernel
theorem dX6_addTold_23 : decode cX6_addTold 23 = .ok (.ior, 1) := by decide +kernel
theorem dX6_addTold_24 : decode cX6_addTold 24 = .ok (.putfield 21, 3) := by decide +kernel
theorem dX6_addTold_27 : decode cX6_addTold 27 = .ok (.aload_n 0, 1) := by decide +kernel
theorem dX6_addTold_28 : decode cX6_addTold 28 = .ok (.dup, 1) := by decide +kernel
theorem dX6_addTold_29 : decode cX6_addTold 29 = .ok (.getfield 28, 3) := by decide +kernel
theorem dX6_addTold_32 : decode cX6_addTold 32 = .ok (.iconst 1, 1) := by decide +kernel
theorem dX6_addTold_33 : decode cX6_addTold 33 = .ok (.iload_n 1, 1) := by decide +kernel
theorem dX6_addTold_34 : decode cX6_addTold 34 = .ok (.ishl, 1) := by decide +kernel
theorem dX6_addTold_35 : decode cX6_addTold 35 = .ok (.ior, 1) := by decide +kernel
theorem dX6_addTold_36 : decode cX6_addTold 36 = .ok (.putfield 28, 3) := by decide +kernel
theorem dX6_addTold_39 : decode cX6_addTold 39 = .ok (.iload_n 1, 1) := by decide +kernel
theorem dX6_addTold_40 : decode cX6_addTold 40 = .ok (.ireturn, 1) := by decide +kernel
theorem dX6_doubtAll_0 : decode cX6_doubtAll 0 = .ok (.aload_n 0, 1) := by decide +kernel
theorem dX6_doubtAll_1 : decode cX6_doubtAll 1 = .ok (.iconst 1, 1) := by decide +kernel
theorem dX6_doubtAll_2 : decode cX6_doubtAll 2 = .ok (.aload_n 0, 1) := by decide +kernel
theorem dX6_doubtAll_3 : decode cX6_doubtAll 3 = .ok (.getfield 17, 3) := by decide +kernel
theorem dX6_doubtAll_6 : decode cX6_doubtAll 6 = .ok (.ishl, 1) := by decide +kernel
theorem dX6_doubtAll_7 : decode cX6_doubtAll 7 = .ok (.iconst 1, 1) := by decide +kernel
theorem dX6_doubtAll_8 : decode cX6_doubtAll 8 = .ok (.isub, 1) := by decide +kernel
theorem dX6_doubtAll_9 : decode cX6_doubtAll 9 = .ok (.putfield 28, 3) := by decide +kernel
theorem dX6_doubtAll_12 : decode cX6_doubtAll 12 = .ok (.return_, 1) := by decide +kernel
theorem dX6_doubtPlace_0 : decode cX6_doubtPlace 0 = .ok (.aload_n 0, 1) := by decide +kernel
theorem dX6_doubtPlace_1 : decode cX6_doubtPlace 1 = .ok (.dup, 1) := by decide +kernel
theorem dX6_doubtPlace_2 : decode cX6_doubtPlace 2 = .ok (.getfield 28, 3) := by decide +kernel
theorem dX6_doubtPlace_5 : decode cX6_doubtPlace 5 = .ok (.aload_n 0, 1) := by decide +kernel
theorem dX6_doubtPlace_6 : decode cX6_doubtPlace 6 = .ok (.iload_n 1, 1) := by decide +kernel
theorem dX6_doubtPlace_7 : decode cX6_doubtPlace 7 = .ok (.invokevirtual 40, 3) := by decide +kernel
theorem dX6_doubtPlace_10 : decode cX6_doubtPlace 10 = .ok (.ior, 1) := by decide +kernel
theorem dX6_doubtPlace_11 : decode cX6_doubtPlace 11 = .ok (.putfield 28, 3) := by decide +kernel
theorem dX6_doubtPlace_14 : decode cX6_doubtPlace 14 = .ok (.return_, 1) := by decide +kernel
theorem dX6_atPlace_0 : decode cX6_atPlace 0 = .ok (.iconst 0, 1) := by decide +kernel
theorem dX6_atPlace_1 : decode cX6_atPlace 1 = .ok (.istore_n 2, 1) := by decide +kernel
theorem dX6_atPlace_2 : decode cX6_atPlace 2 = .ok (.iconst 0, 1) := by decide +kernel
theorem dX6_atPlace_3 : decode cX6_atPlace 3 = .ok (.istore_n 3, 1) := by decide +kernel
theorem dX6_atPlace_4 : decode cX6_atPlace 4 = .ok (.iload_n 3, 1) := by decide +kernel
theorem dX6_atPlace_5 : decode cX6_atPlace 5 = .ok (.aload_n 0, 1) := by decide +kernel
theorem dX6_atPlace_6 : decode cX6_atPlace 6 = .ok (.getfield 17, 3) := by decide +kernel
theorem dX6_atPlace_9 : decode cX6_atPlace 9 = .ok (.if_icmp .ge 32, 3) := by decide +kernel
theorem dX6_atPlace_12 : decode cX6_atPlace 12 = .ok (.iload_n 2, 1) := by decide +kernel
theorem dX6_atPlace_13 : decode cX6_atPlace 13 = .ok (.aload_n 0, 1) := by decide +kernel
theorem dX6_atPlace_14 : decode cX6_atPlace 14 = .ok (.getfield 11, 3) := by decide +kernel
theorem dX6_atPlace_17 : decode cX6_atPlace 17 = .ok (.iload_n 3, 1) := by decide +kernel
theorem dX6_atPlace_18 : decode cX6_atPlace 18 = .ok (.aaload, 1) := by decide +kernel
theorem dX6_atPlace_19 : decode cX6_atPlace 19 = .ok (.getfield 44, 3) := by decide +kernel
theorem dX6_atPlace_22 : decode cX6_atPlace 22 = .ok (.iload_n 1, 1) := by decide +kernel
theorem dX6_atPlace_23 : decode cX6_atPlace 23 = .ok (.if_icmp .ne 9, 3) := by decide +kernel
theorem dX6_atPlace_26 : decode cX6_atPlace 26 = .ok (.iconst 1, 1) := by decide +kernel
theorem dX6_atPlace_27 : decode cX6_atPlace 27 = .ok (.iload_n 3, 1) := by decide +kernel
theorem dX6_atPlace_28 : decode cX6_atPlace 28 = .ok (.ishl, 1) := by decide +kernel
theorem dX6_atPlace_29 : decode cX6_atPlace 29 = .ok (.goto 4, 3) := by decide +kernel
theorem dX6_atPlace_32 : decode cX6_atPlace 32 = .ok (.iconst 0, 1) := by decide +kernel
theorem dX6_atPlace_33 : decode cX6_atPlace 33 = .ok (.ior, 1) := by decide +kernel
theorem dX6_atPlace_34 : decode cX6_atPlace 34 = .ok (.istore_n 2, 1) := by decide +kernel
theorem dX6_atPlace_35 : decode cX6_atPlace 35 = .ok (.iinc 3 1, 3) := by decide +kernel
theorem dX6_atPlace_38 : decode cX6_atPlace 38 = .ok (.goto (-34), 3) := by decide +kernel
theorem dX6_atPlace_41 : decode cX6_atPlace 41 = .ok (.iload_n 2, 1) := by decide +kernel
theorem dX6_atPlace_42 : decode cX6_atPlace 42 = .ok (.ireturn, 1) := by decide +kernel
theorem dX6_lookAnew_0 : decode cX6_lookAnew 0 = .ok (.iconst 0, 1) := by decide +kernel
theorem dX6_lookAnew_1 : decode cX6_lookAnew 1 = .ok (.istore_n 1, 1) := by decide +kernel
theorem dX6_lookAnew_2 : decode cX6_lookAnew 2 = .ok (.iload_n 1, 1) := by decide +kernel
theorem dX6_lookAnew_3 : decode cX6_lookAnew 3 = .ok (.aload_n 0, 1) := by decide +kernel
theorem dX6_lookAnew_4 : decode cX6_lookAnew 4 = .ok (.getfield 17, 3) := by decide +kernel
theorem dX6_lookAnew_7 : decode cX6_lookAnew 7 = .ok (.if_icmp .ge 25, 3) := by decide +kernel
theorem dX6_lookAnew_10 : decode cX6_lookAnew 10 = .ok (.aload_n 0, 1) := by decide +kernel
theorem dX6_lookAnew_11 : decode cX6_lookAnew 11 = .ok (.getfield 28, 3) := by decide +kernel
theorem dX6_lookAnew_14 : decode cX6_lookAnew 14 = .ok (.iload_n 1, 1) := by decide +kernel
theorem dX6_lookAnew_15 : decode cX6_lookAnew 15 = .ok (.ishr, 1) := by decide +kernel
theorem dX6_lookAnew_16 : decode cX6_lookAnew 16 = .ok (.iconst 1, 1) := by decide +kernel
theorem dX6_lookAnew_17 : decode cX6_lookAnew 17 = .ok (.iand, 1) := by decide +kernel
theorem dX6_lookAnew_18 : decode cX6_lookAnew 18 = .ok (.ifCond .eq 8, 3) := by decide +kernel
theorem dX6_lookAnew_21 : decode cX6_lookAnew 21 = .ok (.aload_n 0, 1) := by decide +kernel
theorem dX6_lookAnew_22 : decode cX6_lookAnew 22 = .ok (.iload_n 1, 1) := by decide +kernel
theorem dX6_lookAnew_23 : decode cX6_lookAnew 23 = .ok (.invokevirtual 47, 3) := by decide +kernel
theorem dX6_lookAnew_26 : decode cX6_lookAnew 26 = .ok (.iinc 1 1, 3) := by decide +kernel
theorem dX6_lookAnew_29 : decode cX6_lookAnew 29 = .ok (.goto (-27), 3) := by decide +kernel
theorem dX6_lookAnew_32 : decode cX6_lookAnew 32 = .ok (.aload_n 0, 1) := by decide +kernel
theorem dX6_lookAnew_33 : decode cX6_lookAnew 33 = .ok (.iconst 0, 1) := by decide +kernel
theorem dX6_lookAnew_34 : decode cX6_lookAnew 34 = .ok (.putfield 28, 3) := by decide +kernel
theorem dX6_lookAnew_37 : decode cX6_lookAnew 37 = .ok (.return_, 1) := by decide +kernel
theorem dX6_lookAt_0 : decode cX6_lookAt 0 = .ok (.iconst 1, 1) := by decide +kernel
theorem dX6_lookAt_1 : decode cX6_lookAt 1 = .ok (.iload_n 1, 1) := by decide +kernel
theorem dX6_lookAt_2 : decode cX6_lookAt 2 = .ok (.ishl, 1) := by decide +kernel
theorem dX6_lookAt_3 : decode cX6_lookAt 3 = .ok (.istore_n 2, 1) := by decide +kernel
theorem dX6_lookAt_4 : decode cX6_lookAt 4 = .ok (.aload_n 0, 1) := by decide +kernel
theorem dX6_lookAt_5 : decode cX6_lookAt 5 = .ok (.getfield 11, 3) := by decide +kernel
theorem dX6_lookAt_8 : decode cX6_lookAt 8 = .ok (.iload_n 1, 1) := by decide +kernel
theorem dX6_lookAt_9 : decode cX6_lookAt 9 = .ok (.aaload, 1) := by decide +kernel
theorem dX6_lookAt_10 : decode cX6_lookAt 10 = .ok (.getfield 51, 3) := by decide +kernel
theorem dX6_lookAt_13 : decode cX6_lookAt 13 = .ok (.aload_n 0, 1) := by decide +kernel
theorem dX6_lookAt_14 : decode cX6_lookAt 14 = .ok (.getfield 35, 3) := by decide +kernel
theorem dX6_lookAt_17 : decode cX6_lookAt 17 = .ok (.getfield 54, 3) := by decide +kernel
theorem dX6_lookAt_20 : decode cX6_lookAt 20 = .ok (.aload_n 0, 1) := by decide +kernel
theorem dX6_lookAt_21 : decode cX6_lookAt 21 = .ok (.getfield 11, 3) := by decide +kernel
theorem dX6_lookAt_24 : decode cX6_lookAt 24 = .ok (.iload_n 1, 1) := by decide +kernel
theorem dX6_lookAt_25 : decode cX6_lookAt 25 = .ok (.aaload, 1) := by decide +kernel
theorem dX6_lookAt_26 : decode cX6_lookAt 26 = .ok (.getfield 44, 3) := by decide +kernel
theorem dX6_lookAt_29 : decode cX6_lookAt 29 = .ok (.iaload, 1) := by decide +kernel
theorem dX6_lookAt_30 : decode cX6_lookAt 30 = .ok (.isub, 1) := by decide +kernel
theorem dX6_lookAt_31 : decode cX6_lookAt 31 = .ok (.istore_n 3, 1) := by decide +kernel
theorem dX6_lookAt_32 : decode cX6_lookAt 32 = .ok (.iconst 0, 1) := by decide +kernel
theorem dX6_lookAt_33 : decode cX6_lookAt 33 = .ok (.istore 4, 2) := by decide +kernel
theorem dX6_lookAt_35 : decode cX6_lookAt 35 = .ok (.iload 4, 2) := by decide +kernel
theorem dX6_lookAt_37 : decode cX6_lookAt 37 = .ok (.aload_n 0, 1) := by decide +kernel
theorem dX6_lookAt_38 : decode cX6_lookAt 38 = .ok (.getfield 35, 3) := by decide +kernel
theorem dX6_lookAt_41 : decode cX6_lookAt 41 = .ok (.getfield 59, 3) := by decide +kernel
theorem dX6_lookAt_44 : decode cX6_lookAt 44 = .ok (.if_icmp .ge 71, 3) := by decide +kernel
theorem dX6_lookAt_47 : decode cX6_lookAt 47 = .ok (.aload_n 0, 1) := by decide +kernel
theorem dX6_lookAt_48 : decode cX6_lookAt 48 = .ok (.getfield 11, 3) := by decide +kernel
theorem dX6_lookAt_51 : decode cX6_lookAt 51 = .ok (.iload_n 1, 1) := by decide +kernel
theorem dX6_lookAt_52 : decode cX6_lookAt 52 = .ok (.aaload, 1) := by decide +kernel
theorem dX6_lookAt_53 : decode cX6_lookAt 53 = .ok (.aload_n 0, 1) := by decide +kernel
theorem dX6_lookAt_54 : decode cX6_lookAt 54 = .ok (.getfield 35, 3) := by decide +kernel
theorem dX6_lookAt_57 : decode cX6_lookAt 57 = .ok (.iload 4, 2) := by decide +kernel
theorem dX6_lookAt_59 : decode cX6_lookAt 59 = .ok (.iload_n 3, 1) := by decide +kernel
theorem dX6_lookAt_60 : decode cX6_lookAt 60 = .ok (.bipush 63, 2) := by decide +kernel
theorem dX6_lookAt_62 : decode cX6_lookAt 62 = .ok (.invokevirtual 62, 3) := by decide +kernel
theorem dX6_lookAt_65 : decode cX6_lookAt 65 = .ok (.aload_n 0, 1) := by decide +kernel
theorem dX6_lookAt_66 : decode cX6_lookAt 66 = .ok (.getfield 31, 3) := by decide +kernel
theorem dX6_lookAt_69 : decode cX6_lookAt 69 = .ok (.invokevirtual 66, 3) := by decide +kernel
theorem dX6_lookAt_72 : decode cX6_lookAt 72 = .ok (.istore 5, 2) := by decide +kernel
theorem dX6_lookAt_74 : decode cX6_lookAt 74 = .ok (.aload_n 0, 1) := by decide +kernel
theorem dX6_lookAt_75 : decode cX6_lookAt 75 = .ok (.getfield 24, 3) := by decide +kernel
theorem dX6_lookAt_78 : decode cX6_lookAt 78 = .ok (.iload 4, 2) := by decide +kernel
theorem dX6_lookAt_80 : decode cX6_lookAt 80 = .ok (.iload 5, 2) := by decide +kernel
theorem dX6_lookAt_82 : decode cX6_lookAt 82 = .ok (.ifCond .eq 15, 3) := by decide +kernel
theorem dX6_lookAt_85 : decode cX6_lookAt 85 = .ok (.aload_n 0, 1) := by decide +kernel
theorem dX6_lookAt_86 : decode cX6_lookAt 86 = .ok (.getfield 24, 3) := by decide +kernel
theorem dX6_lookAt_89 : decode cX6_lookAt 89 = .ok (.iload 4, 2) := by decide +kernel
theorem dX6_lookAt_91 : decode cX6_lookAt 91 = .ok (.iaload, 1) := by decide +kernel
theorem dX6_lookAt_92 : decode cX6_lookAt 92 = .ok (.iload_n 2, 1) := by decide +kernel
theorem dX6_lookAt_93 : decode cX6_lookAt 93 = .ok (.ior, 1) := by decide +kernel
theorem dX6_lookAt_94 : decode cX6_lookAt 94 = .ok (.goto 14, 3) := by decide +kernel
theorem dX6_lookAt_97 : decode cX6_lookAt 97 = .ok (.aload_n 0, 1) := by decide +kernel
theorem dX6_lookAt_98 : decode cX6_lookAt 98 = .ok (.getfield 24, 3) := by decide +kernel
theorem dX6_lookAt_101 : decode cX6_lookAt 101 = .ok (.iload 4, 2) := by decide +kernel
theorem dX6_lookAt_103 : decode cX6_lookAt 103 = .ok (.iaload, 1) := by decide +kernel
theorem dX6_lookAt_104 : decode cX6_lookAt 104 = .ok (.iload_n 2, 1) := by decide +kernel
theorem dX6_lookAt_105 : decode cX6_lookAt 105 = .ok (.iconst (-1), 1) := by decide +kernel
theorem dX6_lookAt_106 : decode cX6_lookAt 106 = .ok (.ixor, 1) := by decide +kernel
theorem dX6_lookAt_107 : decode cX6_lookAt 107 = .ok (.iand, 1) := by decide +kernel
theorem dX6_lookAt_108 : decode cX6_lookAt 108 = .ok (.iastore, 1) := by decide +kernel
theorem dX6_lookAt_109 : decode cX6_lookAt 109 = .ok (.iinc 4 1, 3) := by decide +kernel
theorem dX6_lookAt_112 : decode cX6_lookAt 112 = .ok (.goto (-77), 3) := by decide +kernel
theorem dX6_lookAt_115 : decode cX6_lookAt 115 = .ok (.return_, 1) := by decide +kernel
theorem dX6_heldBy_0 : decode cX6_heldBy 0 = .ok (.aload_n 0, 1) := by decide +kernel
theorem dX6_heldBy_1 : decode cX6_heldBy 1 = .ok (.getfield 24, 3) := by decide +kernel
theorem dX6_heldBy_4 : decode cX6_heldBy 4 = .ok (.iload_n 1, 1) := by decide +kernel
theorem dX6_heldBy_5 : decode cX6_heldBy 5 = .ok (.iaload, 1) := by decide +kernel
theorem dX6_heldBy_6 : decode cX6_heldBy 6 = .ok (.ireturn, 1) := by decide +kernel
theorem dX6_failingBy_0 : decode cX6_failingBy 0 = .ok (.aload_n 0, 1) := by decide +kernel
theorem dX6_failingBy_1 : decode cX6_failingBy 1 = .ok (.getfield 21, 3) := by decide +kernel
theorem dX6_failingBy_4 : decode cX6_failingBy 4 = .ok (.aload_n 0, 1) := by decide +kernel
theorem dX6_failingBy_5 : decode cX6_failingBy 5 = .ok (.getfield 24, 3) := by decide +kernel
theorem dX6_failingBy_8 : decode cX6_failingBy 8 = .ok (.iload_n 1, 1) := by decide +kernel
theorem dX6_failingBy_9 : decode cX6_failingBy 9 = .ok (.iaload, 1) := by decide +kernel
theorem dX6_failingBy_10 : decode cX6_failingBy 10 = .ok (.iconst (-1), 1) := by decide +kernel
theorem dX6_failingBy_11 : decode cX6_failingBy 11 = .ok (.ixor, 1) := by decide +kernel
theorem dX6_failingBy_12 : decode cX6_failingBy 12 = .ok (.iand, 1) := by decide +kernel
theorem dX6_failingBy_13 : decode cX6_failingBy 13 = .ok (.ireturn, 1) := by decide +kernel
theorem dX6_fitsTo_0 : decode cX6_fitsTo 0 = .ok (.aload_n 0, 1) := by decide +kernel
theorem dX6_fitsTo_1 : decode cX6_fitsTo 1 = .ok (.getfield 21, 3) := by decide +kernel
theorem dX6_fitsTo_4 : decode cX6_fitsTo 4 = .ok (.aload_n 0, 1) := by decide +kernel
theorem dX6_fitsTo_5 : decode cX6_fitsTo 5 = .ok (.getfield 24, 3) := by decide +kernel
theorem dX6_fitsTo_8 : decode cX6_fitsTo 8 = .ok (.iload_n 1, 1) := by decide +kernel
theorem dX6_fitsTo_9 : decode cX6_fitsTo 9 = .ok (.iaload, 1) := by decide +kernel
theorem dX6_fitsTo_10 : decode cX6_fitsTo 10 = .ok (.iconst (-1), 1) := by decide +kernel
theorem dX6_fitsTo_11 : decode cX6_fitsTo 11 = .ok (.ixor, 1) := by decide +kernel
theorem dX6_fitsTo_12 : decode cX6_fitsTo 12 = .ok (.iand, 1) := by decide +kernel
theorem dX6_fitsTo_13 : decode cX6_fitsTo 13 = .ok (.ifCond .ne 7, 3) := by decide +kernel
theorem dX6_fitsTo_16 : decode cX6_fitsTo 16 = .ok (.iconst 1, 1) := by decide +kernel
theorem dX6_fitsTo_17 : decode cX6_fitsTo 17 = .ok (.goto 4, 3) := by decide +kernel
theorem dX6_fitsTo_20 : decode cX6_fitsTo 20 = .ok (.iconst 0, 1) := by decide +kernel
theorem dX6_fitsTo_21 : decode cX6_fitsTo 21 = .ok (.ireturn, 1) := by decide +kernel
theorem dX6_fitCount_0 : decode cX6_fitCount 0 = .ok (.iconst 0, 1) := by decide +kernel
theorem dX6_fitCount_1 : decode cX6_fitCount 1 = .ok (.istore_n 1, 1) := by decide +kernel
theorem dX6_fitCount_2 : decode cX6_fitCount 2 = .ok (.iconst 0, 1) := by decide +kernel
theorem dX6_fitCount_3 : decode cX6_fitCount 3 = .ok (.istore_n 2, 1) := by decide +kernel
theorem dX6_fitCount_4 : decode cX6_fitCount 4 = .ok (.iload_n 2, 1) := by decide +kernel
theorem dX6_fitCount_5 : decode cX6_fitCount 5 = .ok (.aload_n 0, 1) := by decide +kernel
theorem dX6_fitCount_6 : decode cX6_fitCount 6 = .ok (.getfield 35, 3) := by decide +kernel
theorem dX6_fitCount_9 : decode cX6_fitCount 9 = .ok (.getfield 59, 3) := by decide +kernel
theorem dX6_fitCount_12 : decode cX6_fitCount 12 = .ok (.if_icmp .ge 25, 3) := by decide +kernel
theorem dX6_fitCount_15 : decode cX6_fitCount 15 = .ok (.iload_n 1, 1) := by decide +kernel
theorem dX6_fitCount_16 : decode cX6_fitCount 16 = .ok (.aload_n 0, 1) := by decide +kernel
theorem dX6_fitCount_17 : decode cX6_fitCount 17 = .ok (.iload_n 2, 1) := by decide +kernel
theorem dX6_fitCount_18 : decode cX6_fitCount 18 = .ok (.invokevirtual 70, 3) := by decide +kernel
theorem dX6_fitCount_21 : decode cX6_fitCount 21 = .ok (.ifCond .eq 7, 3) := by decide +kernel
theorem dX6_fitCount_24 : decode cX6_fitCount 24 = .ok (.iconst 1, 1) := by decide +kernel
theorem dX6_fitCount_25 : decode cX6_fitCount 25 = .ok (.goto 4, 3) := by decide +kernel
theorem dX6_fitCount_28 : decode cX6_fitCount 28 = .ok (.iconst 0, 1) := by decide +kernel
theorem dX6_fitCount_29 : decode cX6_fitCount 29 = .ok (.iadd, 1) := by decide +kernel
theorem dX6_fitCount_30 : decode cX6_fitCount 30 = .ok (.istore_n 1, 1) := by decide +kernel
theorem dX6_fitCount_31 : decode cX6_fitCount 31 = .ok (.iinc 2 1, 3) := by decide +kernel
theorem dX6_fitCount_34 : decode cX6_fitCount 34 = .ok (.goto (-30), 3) := by decide +kernel
theorem dX6_fitCount_37 : decode cX6_fitCount 37 = .ok (.iload_n 1, 1) := by decide +kernel
theorem dX6_fitCount_38 : decode cX6_fitCount 38 = .ok (.ireturn, 1) := by decide +kernel
theorem dX6_fitCountHolding_0 : decode cX6_fitCountHolding 0 = .ok (.iconst 0, 1) := by decide +kernel
theorem dX6_fitCountHolding_1 : decode cX6_fitCountHolding 1 = .ok (.istore_n 2, 1) := by decide +kernel
theorem dX6_fitCountHolding_2 : decode cX6_fitCountHolding 2 = .ok (.iconst 0, 1) := by decide +kernel
theorem dX6_fitCountHolding_3 : decode cX6_fitCountHolding 3 = .ok (.istore_n 3, 1) := by decide +kernel
theorem dX6_fitCountHolding_4 : decode cX6_fitCountHolding 4 = .ok (.iload_n 3, 1) := by decide +kernel
theorem dX6_fitCountHolding_5 : decode cX6_fitCountHolding 5 = .ok (.aload_n 0, 1) := by decide +kernel
theorem dX6_fitCountHolding_6 : decode cX6_fitCountHolding 6 = .ok (.getfield 35, 3) := by decide +kernel
theorem dX6_fitCountHolding_9 : decode cX6_fitCountHolding 9 = .ok (.getfield 59, 3) := by decide +kernel
theorem dX6_fitCountHolding_12 : decode cX6_fitCountHolding 12 = .ok (.if_icmp .ge 34, 3) := by decide +kernel
theorem dX6_fitCountHolding_15 : decode cX6_fitCountHolding 15 = .ok (.iload_n 2, 1) := by decide +kernel
theorem dX6_fitCountHolding_16 : decode cX6_fitCountHolding 16 = .ok (.aload_n 0, 1) := by decide +kernel
theorem dX6_fitCountHolding_17 : decode cX6_fitCountHolding 17 = .ok (.iload_n 3, 1) := by decide +kernel
theorem dX6_fitCountHolding_18 : decode cX6_fitCountHolding 18 = .ok (.invokevirtual 70, 3) := by decide +kernel
theorem dX6_fitCountHolding_21 : decode cX6_fitCountHolding 21 = .ok (.ifCond .eq 16, 3) := by decide +kernel
theorem dX6_fitCountHolding_24 : decode cX6_fitCountHolding 24 = .ok (.aload_n 0, 1) := by decide +kernel
theorem dX6_fitCountHolding_25 : decode cX6_fitCountHolding 25 = .ok (.getfield 24, 3) := by decide +kernel
theorem dX6_fitCountHolding_28 : decode cX6_fitCountHolding 28 = .ok (.iload_n 3, 1) := by decide +kernel
theorem dX6_fitCountHolding_29 : decode cX6_fitCountHolding 29 = .ok (.iaload, 1) := by decide +kernel
theorem dX6_fitCountHolding_30 : decode cX6_fitCountHolding 30 = .ok (.iload_n 1, 1) := by decide +kernel
theorem dX6_fitCountHolding_31 : decode cX6_fitCountHolding 31 = .ok (.ishr, 1) := by decide +kernel
theorem dX6_fitCountHolding_32 : decode cX6_fitCountHolding 32 = .ok (.iconst 1, 1) := by decide +kernel
theorem dX6_fitCountHolding_33 : decode cX6_fitCountHolding 33 = .ok (.iand, 1) := by decide +kernel
theorem dX6_fitCountHolding_34 : decode cX6_fitCountHolding 34 = .ok (.goto 4, 3) := by decide +kernel
theorem dX6_fitCountHolding_37 : decode cX6_fitCountHolding 37 = .ok (.iconst 0, 1) := by decide +kernel
theorem dX6_fitCountHolding_38 : decode cX6_fitCountHolding 38 = .ok (.iadd, 1) := by decide +kernel
theorem dX6_fitCountHolding_39 : decode cX6_fitCountHolding 39 = .ok (.istore_n 2, 1) := by decide +kernel
theorem dX6_fitCountHolding_40 : decode cX6_fitCountHolding 40 = .ok (.iinc 3 1, 3) := by decide +kernel
theorem dX6_fitCountHolding_43 : decode cX6_fitCountHolding 43 = .ok (.goto (-39), 3) := by decide +kernel
theorem dX6_fitCountHolding_46 : decode cX6_fitCountHolding 46 = .ok (.iload_n 2, 1) := by decide +kernel
theorem dX6_fitCountHolding_47 : decode cX6_fitCountHolding 47 = .ok (.ireturn, 1) := by decide +kernel
theorem dX6_allAreSoAmong_0 : decode cX6_allAreSoAmong 0 = .ok (.iconst 0, 1) := by decide +kernel
theorem dX6_allAreSoAmong_1 : decode cX6_allAreSoAmong 1 = .ok (.istore 4, 2) := by decide +kernel
theorem dX6_allAreSoAmong_3 : decode cX6_allAreSoAmong 3 = .ok (.iload 4, 2) := by decide +kernel
theorem dX6_allAreSoAmong_5 : decode cX6_allAreSoAmong 5 = .ok (.aload_n 0, 1) := by decide +kernel
theorem dX6_allAreSoAmong_6 : decode cX6_allAreSoAmong 6 = .ok (.getfield 17, 3) := by decide +kernel
theorem dX6_allAreSoAmong_9 : decode cX6_allAreSoAmong 9 = .ok (.if_icmp .ge 79, 3) := by decide +kernel
theorem dX6_allAreSoAmong_12 : decode cX6_allAreSoAmong 12 = .ok (.iload_n 1, 1) := by decide +kernel
theorem dX6_allAreSoAmong_13 : decode cX6_allAreSoAmong 13 = .ok (.iload 4, 2) := by decide +kernel
theorem dX6_allAreSoAmong_15 : decode cX6_allAreSoAmong 15 = .ok (.ishr, 1) := by decide +kernel
theorem dX6_allAreSoAmong_16 : decode cX6_allAreSoAmong 16 = .ok (.iconst 1, 1) := by decide +kernel
theorem dX6_allAreSoAmong_17 : decode cX6_allAreSoAmong 17 = .ok (.iand, 1) := by decide +kernel
theorem dX6_allAreSoAmong_18 : decode cX6_allAreSoAmong 18 = .ok (.ifCond .eq 64, 3) := by decide +kernel
theorem dX6_allAreSoAmong_21 : decode cX6_allAreSoAmong 21 = .ok (.aload_n 0, 1) := by decide +kernel
theorem dX6_allAreSoAmong_22 : decode cX6_allAreSoAmong 22 = .ok (.getfield 11, 3) := by decide +kernel
theorem dX6_allAreSoAmong_25 : decode cX6_allAreSoAmong 25 = .ok (.iload 4, 2) := by decide +kernel
theorem dX6_allAreSoAmong_27 : decode cX6_allAreSoAmong 27 = .ok (.aaload, 1) := by decide +kernel
theorem dX6_allAreSoAmong_28 : decode cX6_allAreSoAmong 28 = .ok (.getfield 51, 3) := by decide +kernel
theorem dX6_allAreSoAmong_31 : decode cX6_allAreSoAmong 31 = .ok (.aload_n 0, 1) := by decide +kernel
theorem dX6_allAreSoAmong_32 : decode cX6_allAreSoAmong 32 = .ok (.getfield 35, 3) := by decide +kernel
theorem dX6_allAreSoAmong_35 : decode cX6_allAreSoAmong 35 = .ok (.getfield 54, 3) := by decide +kernel
theorem dX6_allAreSoAmong_38 : decode cX6_allAreSoAmong 38 = .ok (.aload_n 0, 1) := by decide +kernel
theorem dX6_allAreSoAmong_39 : decode cX6_allAreSoAmong 39 = .ok (.getfield 11, 3) := by decide +kernel
theorem dX6_allAreSoAmong_42 : decode cX6_allAreSoAmong 42 = .ok (.iload 4, 2) := by decide +kernel
theorem dX6_allAreSoAmong_44 : decode cX6_allAreSoAmong 44 = .ok (.aaload, 1) := by decide +kernel
theorem dX6_allAreSoAmong_45 : decode cX6_allAreSoAmong 45 = .ok (.getfield 44, 3) := by decide +kernel
theorem dX6_allAreSoAmong_48 : decode cX6_allAreSoAmong 48 = .ok (.iaload, 1) := by decide +kernel
theorem dX6_allAreSoAmong_49 : decode cX6_allAreSoAmong 49 = .ok (.isub, 1) := by decide +kernel
theorem dX6_allAreSoAmong_50 : decode cX6_allAreSoAmong 50 = .ok (.istore 5, 2) := by decide +kernel
theorem dX6_allAreSoAmong_52 : decode cX6_allAreSoAmong 52 = .ok (.aload_n 0, 1) := by decide +kernel
theorem dX6_allAreSoAmong_53 : decode cX6_allAreSoAmong 53 = .ok (.getfield 11, 3) := by decide +kernel
theorem dX6_allAreSoAmong_56 : decode cX6_allAreSoAmong 56 = .ok (.iload 4, 2) := by decide +kernel
theorem dX6_allAreSoAmong_58 : decode cX6_allAreSoAmong 58 = .ok (.aaload, 1) := by decide +kernel
theorem dX6_allAreSoAmong_59 : decode cX6_allAreSoAmong 59 = .ok (.aload_n 0, 1) := by decide +kernel
theorem dX6_allAreSoAmong_60 : decode cX6_allAreSoAmong 60 = .ok (.getfield 35, 3) := by decide +kernel
theorem dX6_allAreSoAmong_63 : decode cX6_allAreSoAmong 63 = .ok (.iload_n 2, 1) := by decide +kernel
theorem dX6_allAreSoAmong_64 : decode cX6_allAreSoAmong 64 = .ok (.iload 5, 2) := by decide +kernel
theorem dX6_allAreSoAmong_66 : decode cX6_allAreSoAmong 66 = .ok (.iload_n 3, 1) := by decide +kernel
theorem dX6_allAreSoAmong_67 : decode cX6_allAreSoAmong 67 = .ok (.invokevirtual 62, 3) := by decide +kernel
theorem dX6_allAreSoAmong_70 : decode cX6_allAreSoAmong 70 = .ok (.aload_n 0, 1) := by decide +kernel
theorem dX6_allAreSoAmong_71 : decode cX6_allAreSoAmong 71 = .ok (.getfield 31, 3) := by decide +kernel
theorem dX6_allAreSoAmong_74 : decode cX6_allAreSoAmong 74 = .ok (.invokevirtual 66, 3) := by decide +kernel
theorem dX6_allAreSoAmong_77 : decode cX6_allAreSoAmong 77 = .ok (.ifCond .ne 5, 3) := by decide +kernel
theorem dX6_allAreSoAmong_80 : decode cX6_allAreSoAmong 80 = .ok (.iconst 0, 1) := by decide +kernel
theorem dX6_allAreSoAmong_81 : decode cX6_allAreSoAmong 81 = .ok (.ireturn, 1) := by decide +kernel
theorem dX6_allAreSoAmong_82 : decode cX6_allAreSoAmong 82 = .ok (.iinc 4 1, 3) := by decide +kernel
theorem dX6_allAreSoAmong_85 : decode cX6_allAreSoAmong 85 = .ok (.goto (-82), 3) := by decide +kernel
theorem dX6_allAreSoAmong_88 : decode cX6_allAreSoAmong 88 = .ok (.iconst 1, 1) := by decide +kernel
theorem dX6_allAreSoAmong_89 : decode cX6_allAreSoAmong 89 = .ok (.ireturn, 1) := by decide +kernel
theorem dX6_someFitsWithLag_0 : decode cX6_someFitsWithLag 0 = .ok (.aload_n 0, 1) := by decide +kernel
theorem dX6_someFitsWithLag_1 : decode cX6_someFitsWithLag 1 = .ok (.getfield 21, 3) := by decide +kernel
theorem dX6_someFitsWithLag_4 : decode cX6_someFitsWithLag 4 = .ok (.aload_n 0, 1) := by decide +kernel
theorem dX6_someFitsWithLag_5 : decode cX6_someFitsWithLag 5 = .ok (.iload_n 1, 1) := by decide +kernel
theorem dX6_someFitsWithLag_6 : decode cX6_someFitsWithLag 6 = .ok (.invokevirtual 40, 3) := by decide +kernel
theorem dX6_someFitsWithLag_9 : decode cX6_someFitsWithLag 9 = .ok (.iand, 1) := by decide +kernel
theorem dX6_someFitsWithLag_10 : decode cX6_someFitsWithLag 10 = .ok (.istore_n 3, 1) := by decide +kernel
theorem dX6_someFitsWithLag_11 : decode cX6_someFitsWithLag 11 = .ok (.iconst 0, 1) := by decide +kernel
theorem dX6_someFitsWithLag_12 : decode cX6_someFitsWithLag 12 = .ok (.istore 4, 2) := by decide +kernel
theorem dX6_someFitsWithLag_14 : decode cX6_someFitsWithLag 14 = .ok (.iload 4, 2) := by decide +kernel
theorem dX6_someFitsWithLag_16 : decode cX6_someFitsWithLag 16 = .ok (.aload_n 0, 1) := by decide +kernel
theorem dX6_someFitsWithLag_17 : decode cX6_someFitsWithLag 17 = .ok (.getfield 35, 3) := by decide +kernel
theorem dX6_someFitsWithLag_20 : decode cX6_someFitsWithLag 20 = .ok (.getfield 59, 3) := by decide +kernel
theorem dX6_someFitsWithLag_23 : decode cX6_someFitsWithLag 23 = .ok (.if_icmp .ge 35, 3) := by decide +kernel
theorem dX6_someFitsWithLag_26 : decode cX6_someFitsWithLag 26 = .ok (.aload_n 0, 1) := by decide +kernel
theorem dX6_someFitsWithLag_27 : decode cX6_someFitsWithLag 27 = .ok (.iload 4, 2) := by decide +kernel
theorem dX6_someFitsWithLag_29 : decode cX6_someFitsWithLag 29 = .ok (.invokevirtual 74, 3) := by decide +kernel
theorem dX6_someFitsWithLag_32 : decode cX6_someFitsWithLag 32 = .ok (.iload_n 3, 1) := by decide +kernel
theorem dX6_someFitsWithLag_33 : decode cX6_someFitsWithLag 33 = .ok (.iconst (-1), 1) := by decide +kernel
theorem dX6_someFitsWithLag_34 : decode cX6_someFitsWithLag 34 = .ok (.ixor, 1) := by decide +kernel
theorem dX6_someFitsWithLag_35 : decode cX6_someFitsWithLag 35 = .ok (.iand, 1) := by decide +kernel
theorem dX6_someFitsWithLag_36 : decode cX6_someFitsWithLag 36 = .ok (.ifCond .ne 16, 3) := by decide +kernel
theorem dX6_someFitsWithLag_39 : decode cX6_someFitsWithLag 39 = .ok (.aload_n 0, 1) := by decide +kernel
theorem dX6_someFitsWithLag_40 : decode cX6_someFitsWithLag 40 = .ok (.iload_n 3, 1) := by decide +kernel
theorem dX6_someFitsWithLag_41 : decode cX6_someFitsWithLag 41 = .ok (.iload 4, 2) := by decide +kernel
theorem dX6_someFitsWithLag_43 : decode cX6_someFitsWithLag 43 = .ok (.iload_n 2, 1) := by decide +kernel
theorem dX6_someFitsWithLag_44 : decode cX6_someFitsWithLag 44 = .ok (.invokevirtual 77, 3) := by decide +kernel
theorem dX6_someFitsWithLag_47 : decode cX6_someFitsWithLag 47 = .ok (.ifCond .eq 5, 3) := by decide +kernel
theorem dX6_someFitsWithLag_50 : decode cX6_someFitsWithLag 50 = .ok (.iconst 1, 1) := by decide +kernel
theorem dX6_someFitsWithLag_51 : decode cX6_someFitsWithLag 51 = .ok (.ireturn, 1) := by decide +kernel
theorem dX6_someFitsWithLag_52 : decode cX6_someFitsWithLag 52 = .ok (.iinc 4 1, 3) := by decide +kernel
theorem dX6_someFitsWithLag_55 : decode cX6_someFitsWithLag 55 = .ok (.goto (-41), 3) := by decide +kernel
theorem dX6_someFitsWithLag_58 : decode cX6_someFitsWithLag 58 = .ok (.iconst 0, 1) := by decide +kernel
theorem dX6_someFitsWithLag_59 : decode cX6_someFitsWithLag 59 = .ok (.ireturn, 1) := by decide +kernel
theorem dX6_allAreSoWithLag_0 : decode cX6_allAreSoWithLag 0 = .ok (.iconst 0, 1) := by decide +kernel
theorem dX6_allAreSoWithLag_1 : decode cX6_allAreSoWithLag 1 = .ok (.istore 4, 2) := by decide +kernel
theorem dX6_allAreSoWithLag_3 : decode cX6_allAreSoWithLag 3 = .ok (.iload 4, 2) := by decide +kernel
theorem dX6_allAreSoWithLag_5 : decode cX6_allAreSoWithLag 5 = .ok (.aload_n 0, 1) := by decide +kernel
theorem dX6_allAreSoWithLag_6 : decode cX6_allAreSoWithLag 6 = .ok (.getfield 17, 3) := by decide +kernel
theorem dX6_allAreSoWithLag_9 : decode cX6_allAreSoWithLag 9 = .ok (.if_icmp .ge 63, 3) := by decide +kernel
theorem dX6_allAreSoWithLag_12 : decode cX6_allAreSoWithLag 12 = .ok (.iload_n 1, 1) := by decide +kernel
theorem dX6_allAreSoWithLag_13 : decode cX6_allAreSoWithLag 13 = .ok (.iload 4, 2) := by decide +kernel
theorem dX6_allAreSoWithLag_15 : decode cX6_allAreSoWithLag 15 = .ok (.ishr, 1) := by decide +kernel
theorem dX6_allAreSoWithLag_16 : decode cX6_allAreSoWithLag 16 = .ok (.iconst 1, 1) := by decide +kernel
theorem dX6_allAreSoWithLag_17 : decode cX6_allAreSoWithLag 17 = .ok (.iand, 1) := by decide +kernel
theorem dX6_allAreSoWithLag_18 : decode cX6_allAreSoWithLag 18 = .ok (.ifCond .eq 48, 3) := by decide +kernel
theorem dX6_allAreSoWithLag_21 : decode cX6_allAreSoWithLag 21 = .ok (.aload_n 0, 1) := by decide +kernel
theorem dX6_allAreSoWithLag_22 : decode cX6_allAreSoWithLag 22 = .ok (.getfield 11, 3) := by decide +kernel
theorem dX6_allAreSoWithLag_25 : decode cX6_allAreSoWithLag 25 = .ok (.iload 4, 2) := by decide +kernel
theorem dX6_allAreSoWithLag_27 : decode cX6_allAreSoWithLag 27 = .ok (.aaload, 1) := by decide +kernel
theorem dX6_allAreSoWithLag_28 : decode cX6_allAreSoWithLag 28 = .ok (.getfield 51, 3) := by decide +kernel
theorem dX6_allAreSoWithLag_31 : decode cX6_allAreSoWithLag 31 = .ok (.iload_n 3, 1) := by decide +kernel
theorem dX6_allAreSoWithLag_32 : decode cX6_allAreSoWithLag 32 = .ok (.isub, 1) := by decide +kernel
theorem dX6_allAreSoWithLag_33 : decode cX6_allAreSoWithLag 33 = .ok (.istore 5, 2) := by decide +kernel
theorem dX6_allAreSoWithLag_35 : decode cX6_allAreSoWithLag 35 = .ok (.aload_n 0, 1) := by decide +kernel
theorem dX6_allAreSoWithLag_36 : decode cX6_allAreSoWithLag 36 = .ok (.getfield 11, 3) := by decide +kernel
theorem dX6_allAreSoWithLag_39 : decode cX6_allAreSoWithLag 39 = .ok (.iload 4, 2) := by decide +kernel
theorem dX6_allAreSoWithLag_41 : decode cX6_allAreSoWithLag 41 = .ok (.aaload, 1) := by decide +kernel
theorem dX6_allAreSoWithLag_42 : decode cX6_allAreSoWithLag 42 = .ok (.aload_n 0, 1) := by decide +kernel
theorem dX6_allAreSoWithLag_43 : decode cX6_allAreSoWithLag 43 = .ok (.getfield 35, 3) := by decide +kernel
theorem dX6_allAreSoWithLag_46 : decode cX6_allAreSoWithLag 46 = .ok (.iload_n 2, 1) := by decide +kernel
theorem dX6_allAreSoWithLag_47 : decode cX6_allAreSoWithLag 47 = .ok (.iload 5, 2) := by decide +kernel
theorem dX6_allAreSoWithLag_49 : decode cX6_allAreSoWithLag 49 = .ok (.bipush 63, 2) := by decide +kernel
theorem dX6_allAreSoWithLag_51 : decode cX6_allAreSoWithLag 51 = .ok (.invokevirtual 62, 3) := by decide +kernel
theorem dX6_allAreSoWithLag_54 : decode cX6_allAreSoWithLag 54 = .ok (.aload_n 0, 1) := by decide +kernel
theorem dX6_allAreSoWithLag_55 : decode cX6_allAreSoWithLag 55 = .ok (.getfield 31, 3) := by decide +kernel
theorem dX6_allAreSoWithLag_58 : decode cX6_allAreSoWithLag 58 = .ok (.invokevirtual 66, 3) := by decide +kernel
theorem dX6_allAreSoWithLag_61 : decode cX6_allAreSoWithLag 61 = .ok (.ifCond .ne 5, 3) := by decide +kernel
theorem dX6_allAreSoWithLag_64 : decode cX6_allAreSoWithLag 64 = .ok (.iconst 0, 1) := by decide +kernel
theorem dX6_allAreSoWithLag_65 : decode cX6_allAreSoWithLag 65 = .ok (.ireturn, 1) := by decide +kernel
theorem dX6_allAreSoWithLag_66 : decode cX6_allAreSoWithLag 66 = .ok (.iinc 4 1, 3) := by decide +kernel
theorem dX6_allAreSoWithLag_69 : decode cX6_allAreSoWithLag 69 = .ok (.goto (-66), 3) := by decide +kernel
theorem dX6_allAreSoWithLag_72 : decode cX6_allAreSoWithLag 72 = .ok (.iconst 1, 1) := by decide +kernel
theorem dX6_allAreSoWithLag_73 : decode cX6_allAreSoWithLag 73 = .ok (.ireturn, 1) := by decide +kernel
theorem dX6_weightOf_0 : decode cX6_weightOf 0 = .ok (.aload_n 0, 1) := by decide +kernel
theorem dX6_weightOf_1 : decode cX6_weightOf 1 = .ok (.getfield 24, 3) := by decide +kernel
theorem dX6_weightOf_4 : decode cX6_weightOf 4 = .ok (.iload_n 1, 1) := by decide +kernel
theorem dX6_weightOf_5 : decode cX6_weightOf 5 = .ok (.iaload, 1) := by decide +kernel
theorem dX6_weightOf_6 : decode cX6_weightOf 6 = .ok (.istore_n 3, 1) := by decide +kernel
theorem dX6_weightOf_7 : decode cX6_weightOf 7 = .ok (.lconst 1, 1) := by decide +kernel
theorem dX6_weightOf_8 : decode cX6_weightOf 8 = .ok (.lstore 4, 2) := by decide +kernel
theorem dX6_weightOf_10 : decode cX6_weightOf 10 = .ok (.iconst 0, 1) := by decide +kernel
theorem dX6_weightOf_11 : decode cX6_weightOf 11 = .ok (.istore 6, 2) := by decide +kernel
theorem dX6_weightOf_13 : decode cX6_weightOf 13 = .ok (.iload 6, 2) := by decide +kernel
theorem dX6_weightOf_15 : decode cX6_weightOf 15 = .ok (.aload_n 0, 1) := by decide +kernel
theorem dX6_weightOf_16 : decode cX6_weightOf 16 = .ok (.getfield 17, 3) := by decide +kernel
theorem dX6_weightOf_19 : decode cX6_weightOf 19 = .ok (.if_icmp .ge 60, 3) := by decide +kernel
theorem dX6_weightOf_22 : decode cX6_weightOf 22 = .ok (.iload_n 2, 1) := by decide +kernel
theorem dX6_weightOf_23 : decode cX6_weightOf 23 = .ok (.iload 6, 2) := by decide +kernel
theorem dX6_weightOf_25 : decode cX6_weightOf 25 = .ok (.ishr, 1) := by decide +kernel
theorem dX6_weightOf_26 : decode cX6_weightOf 26 = .ok (.iconst 1, 1) := by decide +kernel
theorem dX6_weightOf_27 : decode cX6_weightOf 27 = .ok (.iand, 1) := by decide +kernel
theorem dX6_weightOf_28 : decode cX6_weightOf 28 = .ok (.ifCond .eq 45, 3) := by decide +kernel
theorem dX6_weightOf_31 : decode cX6_weightOf 31 = .ok (.lload 4, 2) := by decide +kernel
theorem dX6_weightOf_33 : decode cX6_weightOf 33 = .ok (.iload_n 3, 1) := by decide +kernel
theorem dX6_weightOf_34 : decode cX6_weightOf 34 = .ok (.iload 6, 2) := by decide +kernel
theorem dX6_weightOf_36 : decode cX6_weightOf 36 = .ok (.ishr, 1) := by decide +kernel
theorem dX6_weightOf_37 : decode cX6_weightOf 37 = .ok (.iconst 1, 1) := by decide +kernel
theorem dX6_weightOf_38 : decode cX6_weightOf 38 = .ok (.iand, 1) := by decide +kernel
theorem dX6_weightOf_39 : decode cX6_weightOf 39 = .ok (.ifCond .eq 17, 3) := by decide +kernel
theorem dX6_weightOf_42 : decode cX6_weightOf 42 = .ok (.aload_n 0, 1) := by decide +kernel
theorem dX6_weightOf_43 : decode cX6_weightOf 43 = .ok (.getfield 11, 3) := by decide +kernel
theorem dX6_weightOf_46 : decode cX6_weightOf 46 = .ok (.iload 6, 2) := by decide +kernel
theorem dX6_weightOf_48 : decode cX6_weightOf 48 = .ok (.aaload, 1) := by decide +kernel
theorem dX6_weightOf_49 : decode cX6_weightOf 49 = .ok (.getfield 81, 3) := by decide +kernel
theorem dX6_weightOf_52 : decode cX6_weightOf 52 = .ok (.i2l, 1) := by decide +kernel
theorem dX6_weightOf_53 : decode cX6_weightOf 53 = .ok (.goto 17, 3) := by decide +kernel
theorem dX6_weightOf_56 : decode cX6_weightOf 56 = .ok (.bipush 10, 2) := by decide +kernel
theorem dX6_weightOf_58 : decode cX6_weightOf 58 = .ok (.aload_n 0, 1) := by decide +kernel
theorem dX6_weightOf_59 : decode cX6_weightOf 59 = .ok (.getfield 11, 3) := by decide +kernel
theorem dX6_weightOf_62 : decode cX6_weightOf 62 = .ok (.iload 6, 2) := by decide +kernel
