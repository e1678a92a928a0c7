theorem dX6_weightOf_64 : decode cX6_weightOf 64 = .ok (.aaload, 1) := by decide +kernel
theorem dX6_weightOf_65 : decode cX6_weightOf 65 = .ok (.getfield 81, 3) := by decide +kernel
theorem dX6_weightOf_68 : decode cX6_weightOf 68 = .ok (.isub, 1) := by decide +kernel
theorem dX6_weightOf_69 : decode cX6_weightOf 69 = .ok (.i2l, 1) := by decide +kernel
theorem dX6_weightOf_70 : decode cX6_weightOf 70 = .ok (.lmul, 1) := by decide +kernel
theorem dX6_weightOf_71 : decode cX6_weightOf 71 = .ok (.lstore 4, 2) := by decide +kernel
theorem dX6_weightOf_73 : decode cX6_weightOf 73 = .ok (.iinc 6 1, 3) := by decide +kernel
theorem dX6_weightOf_76 : decode cX6_weightOf 76 = .ok (.goto (-63), 3) := by decide +kernel
theorem dX6_weightOf_79 : decode cX6_weightOf 79 = .ok (.lload 4, 2) := by decide +kernel
theorem dX6_weightOf_81 : decode cX6_weightOf 81 = .ok (.lreturn, 1) := by decide +kernel
theorem dX6_rhymesOf_0 : decode cX6_rhymesOf 0 = .ok (.iconst 0, 1) := by decide +kernel
theorem dX6_rhymesOf_1 : decode cX6_rhymesOf 1 = .ok (.istore_n 2, 1) := by decide +kernel
theorem dX6_rhymesOf_2 : decode cX6_rhymesOf 2 = .ok (.iconst 0, 1) := by decide +kernel
theorem dX6_rhymesOf_3 : decode cX6_rhymesOf 3 = .ok (.istore_n 3, 1) := by decide +kernel
theorem dX6_rhymesOf_4 : decode cX6_rhymesOf 4 = .ok (.iload_n 3, 1) := by decide +kernel
theorem dX6_rhymesOf_5 : decode cX6_rhymesOf 5 = .ok (.aload_n 0, 1) := by decide +kernel
theorem dX6_rhymesOf_6 : decode cX6_rhymesOf 6 = .ok (.getfield 17, 3) := by decide +kernel
theorem dX6_rhymesOf_9 : decode cX6_rhymesOf 9 = .ok (.if_icmp .ge 44, 3) := by decide +kernel
theorem dX6_rhymesOf_12 : decode cX6_rhymesOf 12 = .ok (.iload_n 2, 1) := by decide +kernel
theorem dX6_rhymesOf_13 : decode cX6_rhymesOf 13 = .ok (.aload_n 0, 1) := by decide +kernel
theorem dX6_rhymesOf_14 : decode cX6_rhymesOf 14 = .ok (.getfield 11, 3) := by decide +kernel
theorem dX6_rhymesOf_17 : decode cX6_rhymesOf 17 = .ok (.iload_n 3, 1) := by decide +kernel
theorem dX6_rhymesOf_18 : decode cX6_rhymesOf 18 = .ok (.aaload, 1) := by decide +kernel
theorem dX6_rhymesOf_19 : decode cX6_rhymesOf 19 = .ok (.getfield 84, 3) := by decide +kernel
theorem dX6_rhymesOf_22 : decode cX6_rhymesOf 22 = .ok (.ifCond .ne 22, 3) := by decide +kernel
theorem dX6_rhymesOf_25 : decode cX6_rhymesOf 25 = .ok (.aload_n 0, 1) := by decide +kernel
theorem dX6_rhymesOf_26 : decode cX6_rhymesOf 26 = .ok (.getfield 11, 3) := by decide +kernel
theorem dX6_rhymesOf_29 : decode cX6_rhymesOf 29 = .ok (.iload_n 3, 1) := by decide +kernel
theorem dX6_rhymesOf_30 : decode cX6_rhymesOf 30 = .ok (.aaload, 1) := by decide +kernel
theorem dX6_rhymesOf_31 : decode cX6_rhymesOf 31 = .ok (.getfield 87, 3) := by decide +kernel
theorem dX6_rhymesOf_34 : decode cX6_rhymesOf 34 = .ok (.iload_n 1, 1) := by decide +kernel
theorem dX6_rhymesOf_35 : decode cX6_rhymesOf 35 = .ok (.if_icmp .ne 9, 3) := by decide +kernel
theorem dX6_rhymesOf_38 : decode cX6_rhymesOf 38 = .ok (.iconst 1, 1) := by decide +kernel
theorem dX6_rhymesOf_39 : decode cX6_rhymesOf 39 = .ok (.iload_n 3, 1) := by decide +kernel
theorem dX6_rhymesOf_40 : decode cX6_rhymesOf 40 = .ok (.ishl, 1) := by decide +kernel
theorem dX6_rhymesOf_41 : decode cX6_rhymesOf 41 = .ok (.goto 4, 3) := by decide +kernel
theorem dX6_rhymesOf_44 : decode cX6_rhymesOf 44 = .ok (.iconst 0, 1) := by decide +kernel
theorem dX6_rhymesOf_45 : decode cX6_rhymesOf 45 = .ok (.ior, 1) := by decide +kernel
theorem dX6_rhymesOf_46 : decode cX6_rhymesOf 46 = .ok (.istore_n 2, 1) := by decide +kernel
theorem dX6_rhymesOf_47 : decode cX6_rhymesOf 47 = .ok (.iinc 3 1, 3) := by decide +kernel
theorem dX6_rhymesOf_50 : decode cX6_rhymesOf 50 = .ok (.goto (-46), 3) := by decide +kernel
theorem dX6_rhymesOf_53 : decode cX6_rhymesOf 53 = .ok (.iload_n 2, 1) := by decide +kernel
theorem dX6_rhymesOf_54 : decode cX6_rhymesOf 54 = .ok (.ireturn, 1) := by decide +kernel
theorem dX6_isStaged_0 : decode cX6_isStaged 0 = .ok (.aload_n 0, 1) := by decide +kernel
theorem dX6_isStaged_1 : decode cX6_isStaged 1 = .ok (.getfield 21, 3) := by decide +kernel
theorem dX6_isStaged_4 : decode cX6_isStaged 4 = .ok (.iload_n 1, 1) := by decide +kernel
theorem dX6_isStaged_5 : decode cX6_isStaged 5 = .ok (.ishr, 1) := by decide +kernel
theorem dX6_isStaged_6 : decode cX6_isStaged 6 = .ok (.iconst 1, 1) := by decide +kernel
theorem dX6_isStaged_7 : decode cX6_isStaged 7 = .ok (.iand, 1) := by decide +kernel
theorem dX6_isStaged_8 : decode cX6_isStaged 8 = .ok (.ifCond .eq 32, 3) := by decide +kernel
theorem dX6_isStaged_11 : decode cX6_isStaged 11 = .ok (.aload_n 0, 1) := by decide +kernel
theorem dX6_isStaged_12 : decode cX6_isStaged 12 = .ok (.getfield 11, 3) := by decide +kernel
theorem dX6_isStaged_15 : decode cX6_isStaged 15 = .ok (.iload_n 1, 1) := by decide +kernel
theorem dX6_isStaged_16 : decode cX6_isStaged 16 = .ok (.aaload, 1) := by decide +kernel
theorem dX6_isStaged_17 : decode cX6_isStaged 17 = .ok (.getfield 84, 3) := by decide +kernel
theorem dX6_isStaged_20 : decode cX6_isStaged 20 = .ok (.ifCond .eq 16, 3) := by decide +kernel
theorem dX6_isStaged_23 : decode cX6_isStaged 23 = .ok (.aload_n 0, 1) := by decide +kernel
theorem dX6_isStaged_24 : decode cX6_isStaged 24 = .ok (.getfield 11, 3) := by decide +kernel
theorem dX6_isStaged_27 : decode cX6_isStaged 27 = .ok (.iload_n 1, 1) := by decide +kernel
theorem dX6_isStaged_28 : decode cX6_isStaged 28 = .ok (.aaload, 1) := by decide +kernel
theorem dX6_isStaged_29 : decode cX6_isStaged 29 = .ok (.getfield 84, 3) := by decide +kernel
theorem dX6_isStaged_32 : decode cX6_isStaged 32 = .ok (.iconst 1, 1) := by decide +kernel
theorem dX6_isStaged_33 : decode cX6_isStaged 33 = .ok (.if_icmp .ne 7, 3) := by decide +kernel
theorem dX6_isStaged_36 : decode cX6_isStaged 36 = .ok (.iconst 1, 1) := by decide +kernel
theorem dX6_isStaged_37 : decode cX6_isStaged 37 = .ok (.goto 4, 3) := by decide +kernel
theorem dX6_isStaged_40 : decode cX6_isStaged 40 = .ok (.iconst 0, 1) := by decide +kernel
theorem dX6_isStaged_41 : decode cX6_isStaged 41 = .ok (.ireturn, 1) := by decide +kernel
theorem dX7_init_0 : decode cX7_init 0 = .ok (.aload_n 0, 1) := by decide +kernel
theorem dX7_init_1 : decode cX7_init 1 = .ok (.invokespecial 3, 3) := by decide +kernel
theorem dX7_init_4 : decode cX7_init 4 = .ok (.aload_n 0, 1) := by decide +kernel
theorem dX7_init_5 : decode cX7_init 5 = .ok (.iconst 0, 1) := by decide +kernel
theorem dX7_init_6 : decode cX7_init 6 = .ok (.putfield 9, 3) := by decide +kernel
theorem dX7_init_9 : decode cX7_init 9 = .ok (.aload_n 0, 1) := by decide +kernel
theorem dX7_init_10 : decode cX7_init 10 = .ok (.iconst 0, 1) := by decide +kernel
theorem dX7_init_11 : decode cX7_init 11 = .ok (.putfield 15, 3) := by decide +kernel
theorem dX7_init_14 : decode cX7_init 14 = .ok (.aload_n 0, 1) := by decide +kernel
theorem dX7_init_15 : decode cX7_init 15 = .ok (.bipush 7, 2) := by decide +kernel
theorem dX7_init_17 : decode cX7_init 17 = .ok (.newarray .int, 2) := by decide +kernel
theorem dX7_init_19 : decode cX7_init 19 = .ok (.putfield 18, 3) := by decide +kernel
theorem dX7_init_22 : decode cX7_init 22 = .ok (.aload_n 0, 1) := by decide +kernel
theorem dX7_init_23 : decode cX7_init 23 = .ok (.bipush 7, 2) := by decide +kernel
theorem dX7_init_25 : decode cX7_init 25 = .ok (.newarray .int, 2) := by decide +kernel
theorem dX7_init_27 : decode cX7_init 27 = .ok (.putfield 22, 3) := by decide +kernel
theorem dX7_init_30 : decode cX7_init 30 = .ok (.aload_n 0, 1) := by decide +kernel
theorem dX7_init_31 : decode cX7_init 31 = .ok (.iconst 3, 1) := by decide +kernel
theorem dX7_init_32 : decode cX7_init 32 = .ok (.newarray .int, 2) := by decide +kernel
theorem dX7_init_34 : decode cX7_init 34 = .ok (.putfield 25, 3) := by decide +kernel
theorem dX7_init_37 : decode cX7_init 37 = .ok (.aload_n 0, 1) := by decide +kernel
theorem dX7_init_38 : decode cX7_init 38 = .ok (.bipush 7, 2) := by decide +kernel
theorem dX7_init_40 : decode cX7_init 40 = .ok (.newarray .int, 2) := by decide +kernel
theorem dX7_init_42 : decode cX7_init 42 = .ok (.putfield 28, 3) := by decide +kernel
theorem dX7_init_45 : decode cX7_init 45 = .ok (.aload_n 0, 1) := by decide +kernel
theorem dX7_init_46 : decode cX7_init 46 = .ok (.iconst 0, 1) := by decide +kernel
theorem dX7_init_47 : decode cX7_init 47 = .ok (.putfield 31, 3) := by decide +kernel
theorem dX7_init_50 : decode cX7_init 50 = .ok (.aload_n 0, 1) := by decide +kernel
theorem dX7_init_51 : decode cX7_init 51 = .ok (.bipush 16, 2) := by decide +kernel
theorem dX7_init_53 : decode cX7_init 53 = .ok (.newarray .int, 2) := by decide +kernel
theorem dX7_init_55 : decode cX7_init 55 = .ok (.putfield 34, 3) := by decide +kernel
theorem dX7_init_58 : decode cX7_init 58 = .ok (.aload_n 0, 1) := by decide +kernel
theorem dX7_init_59 : decode cX7_init 59 = .ok (.bipush 16, 2) := by decide +kernel
theorem dX7_init_61 : decode cX7_init 61 = .ok (.newarray .int, 2) := by decide +kernel
theorem dX7_init_63 : decode cX7_init 63 = .ok (.putfield 37, 3) := by decide +kernel
theorem dX7_init_66 : decode cX7_init 66 = .ok (.aload_n 0, 1) := by decide +kernel
theorem dX7_init_67 : decode cX7_init 67 = .ok (.bipush 16, 2) := by decide +kernel
theorem dX7_init_69 : decode cX7_init 69 = .ok (.newarray .int, 2) := by decide +kernel
theorem dX7_init_71 : decode cX7_init 71 = .ok (.putfield 40, 3) := by decide +kernel
theorem dX7_init_74 : decode cX7_init 74 = .ok (.return_, 1) := by decide +kernel
theorem dX7_clear_0 : decode cX7_clear 0 = .ok (.aload_n 0, 1) := by decide +kernel
theorem dX7_clear_1 : decode cX7_clear 1 = .ok (.iconst 0, 1) := by decide +kernel
theorem dX7_clear_2 : decode cX7_clear 2 = .ok (.putfield 9, 3) := by decide +kernel
theorem dX7_clear_5 : decode cX7_clear 5 = .ok (.aload_n 0, 1) := by decide +kernel
theorem dX7_clear_6 : decode cX7_clear 6 = .ok (.iconst 0, 1) := by decide +kernel
theorem dX7_clear_7 : decode cX7_clear 7 = .ok (.putfield 15, 3) := by decide +kernel
theorem dX7_clear_10 : decode cX7_clear 10 = .ok (.aload_n 0, 1) := by decide +kernel
theorem dX7_clear_11 : decode cX7_clear 11 = .ok (.iconst 0, 1) := by decide +kernel
theorem dX7_clear_12 : decode cX7_clear 12 = .ok (.putfield 31, 3) := by decide +kernel
theorem dX7_clear_15 : decode cX7_clear 15 = .ok (.return_, 1) := by decide +kernel
theorem dX7_invite_0 : decode cX7_invite 0 = .ok (.aload_n 0, 1) := by decide +kernel
theorem dX7_invite_1 : decode cX7_invite 1 = .ok (.dup, 1) := by decide +kernel
theorem dX7_invite_2 : decode cX7_invite 2 = .ok (.getfield 9, 3) := by decide +kernel
theorem dX7_invite_5 : decode cX7_invite 5 = .ok (.iconst 1, 1) := by decide +kernel
theorem dX7_invite_6 : decode cX7_invite 6 = .ok (.iload_n 1, 1) := by decide +kernel
theorem dX7_invite_7 : decode cX7_invite 7 = .ok (.ishl, 1) := by decide +kernel
theorem dX7_invite_8 : decode cX7_invite 8 = .ok (.ior, 1) := by decide +kernel
theorem dX7_invite_9 : decode cX7_invite 9 = .ok (.putfield 9, 3) := by decide +kernel
theorem dX7_invite_12 : decode cX7_invite 12 = .ok (.return_, 1) := by decide +kernel
theorem dX7_seat_0 : decode cX7_seat 0 = .ok (.iconst 0, 1) := by decide +kernel
theorem dX7_seat_1 : decode cX7_seat 1 = .ok (.istore_n 1, 1) := by decide +kernel
theorem dX7_seat_2 : decode cX7_seat 2 = .ok (.iload_n 1, 1) := by decide +kernel
theorem dX7_seat_3 : decode cX7_seat 3 = .ok (.bipush 20, 2) := by decide +kernel
theorem dX7_seat_5 : decode cX7_seat 5 = .ok (.if_icmp .ge 49, 3) := by decide +kernel
theorem dX7_seat_8 : decode cX7_seat 8 = .ok (.aload_n 0, 1) := by decide +kernel
theorem dX7_seat_9 : decode cX7_seat 9 = .ok (.getfield 9, 3) := by decide +kernel
theorem dX7_seat_12 : decode cX7_seat 12 = .ok (.iload_n 1, 1) := by decide +kernel
theorem dX7_seat_13 : decode cX7_seat 13 = .ok (.ishr, 1) := by decide +kernel
theorem dX7_seat_14 : decode cX7_seat 14 = .ok (.iconst 1, 1) := by decide +kernel
theorem dX7_seat_15 : decode cX7_seat 15 = .ok (.iand, 1) := by decide +kernel
theorem dX7_seat_16 : decode cX7_seat 16 = .ok (.ifCond .eq 32, 3) := by decide +kernel
theorem dX7_seat_19 : decode cX7_seat 19 = .ok (.aload_n 0, 1) := by decide +kernel
theorem dX7_seat_20 : decode cX7_seat 20 = .ok (.getfield 15, 3) := by decide +kernel
theorem dX7_seat_23 : decode cX7_seat 23 = .ok (.bipush 7, 2) := by decide +kernel
theorem dX7_seat_25 : decode cX7_seat 25 = .ok (.if_icmp .ge 23, 3) := by decide +kernel
theorem dX7_seat_28 : decode cX7_seat 28 = .ok (.aload_n 0, 1) := by decide +kernel
theorem dX7_seat_29 : decode cX7_seat 29 = .ok (.getfield 18, 3) := by decide +kernel
theorem dX7_seat_32 : decode cX7_seat 32 = .ok (.aload_n 0, 1) := by decide +kernel
theorem dX7_seat_33 : decode cX7_seat 33 = .ok (.getfield 15, 3) := by decide +kernel
theorem dX7_seat_36 : decode cX7_seat 36 = .ok (.iload_n 1, 1) := by decide +kernel
theorem dX7_seat_37 : decode cX7_seat 37 = .ok (.iastore, 1) := by decide +kernel
theorem dX7_seat_38 : decode cX7_seat 38 = .ok (.aload_n 0, 1) := by decide +kernel
theorem dX7_seat_39 : decode cX7_seat 39 = .ok (.dup, 1) := by decide +kernel
theorem dX7_seat_40 : decode cX7_seat 40 = .ok (.getfield 15, 3) := by decide +kernel
theorem dX7_seat_43 : decode cX7_seat 43 = .ok (.iconst 1, 1) := by decide +kernel
theorem dX7_seat_44 : decode cX7_seat 44 = .ok (.iadd, 1) := by decide +kernel
theorem dX7_seat_45 : decode cX7_seat 45 = .ok (.putfield 15, 3) := by decide +kernel
theorem dX7_seat_48 : decode cX7_seat 48 = .ok (.iinc 1 1, 3) := by decide +kernel
theorem dX7_seat_51 : decode cX7_seat 51 = .ok (.goto (-49), 3) := by decide +kernel
theorem dX7_seat_54 : decode cX7_seat 54 = .ok (.return_, 1) := by decide +kernel
theorem dX7_seatOf_0 : decode cX7_seatOf 0 = .ok (.iconst 0, 1) := by decide +kernel
theorem dX7_seatOf_1 : decode cX7_seatOf 1 = .ok (.istore_n 2, 1) := by decide +kernel
theorem dX7_seatOf_2 : decode cX7_seatOf 2 = .ok (.iload_n 2, 1) := by decide +kernel
theorem dX7_seatOf_3 : decode cX7_seatOf 3 = .ok (.aload_n 0, 1) := by decide +kernel
theorem dX7_seatOf_4 : decode cX7_seatOf 4 = .ok (.getfield 15, 3) := by decide +kernel
theorem dX7_seatOf_7 : decode cX7_seatOf 7 = .ok (.if_icmp .ge 21, 3) := by decide +kernel
theorem dX7_seatOf_10 : decode cX7_seatOf 10 = .ok (.aload_n 0, 1) := by decide +kernel
theorem dX7_seatOf_11 : decode cX7_seatOf 11 = .ok (.getfield 18, 3) := by decide +kernel
theorem dX7_seatOf_14 : decode cX7_seatOf 14 = .ok (.iload_n 2, 1) := by decide +kernel
theorem dX7_seatOf_15 : decode cX7_seatOf 15 = .ok (.iaload, 1) := by decide +kernel
theorem dX7_seatOf_16 : decode cX7_seatOf 16 = .ok (.iload_n 1, 1) := by decide +kernel
theorem dX7_seatOf_17 : decode cX7_seatOf 17 = .ok (.if_icmp .ne 5, 3) := by decide +kernel
theorem dX7_seatOf_20 : decode cX7_seatOf 20 = .ok (.iload_n 2, 1) := by decide +kernel
theorem dX7_seatOf_21 : decode cX7_seatOf 21 = .ok (.ireturn, 1) := by decide +kernel
theorem dX7_seatOf_22 : decode cX7_seatOf 22 = .ok (.iinc 2 1, 3) := by decide +kernel
theorem dX7_seatOf_25 : decode cX7_seatOf 25 = .ok (.goto (-23), 3) := by decide +kernel
theorem dX7_seatOf_28 : decode cX7_seatOf 28 = .ok (.iconst (-1), 1) := by decide +kernel
theorem dX7_seatOf_29 : decode cX7_seatOf 29 = .ok (.ireturn, 1) := by decide +kernel
theorem dX7_addPair_0 : decode cX7_addPair 0 = .ok (.aload_n 0, 1) := by decide +kernel
theorem dX7_addPair_1 : decode cX7_addPair 1 = .ok (.aload_n 1, 1) := by decide +kernel
theorem dX7_addPair_2 : decode cX7_addPair 2 = .ok (.getfield 43, 3) := by decide +kernel
theorem dX7_addPair_5 : decode cX7_addPair 5 = .ok (.invokevirtual 48, 3) := by decide +kernel
theorem dX7_addPair_8 : decode cX7_addPair 8 = .ok (.istore_n 3, 1) := by decide +kernel
theorem dX7_addPair_9 : decode cX7_addPair 9 = .ok (.aload_n 0, 1) := by decide +kernel
theorem dX7_addPair_10 : decode cX7_addPair 10 = .ok (.aload_n 1, 1) := by decide +kernel
theorem dX7_addPair_11 : decode cX7_addPair 11 = .ok (.getfield 52, 3) := by decide +kernel
theorem dX7_addPair_14 : decode cX7_addPair 14 = .ok (.invokevirtual 48, 3) := by decide +kernel
theorem dX7_addPair_17 : decode cX7_addPair 17 = .ok (.istore 4, 2) := by decide +kernel
theorem dX7_addPair_19 : decode cX7_addPair 19 = .ok (.iload_n 3, 1) := by decide +kernel
theorem dX7_addPair_20 : decode cX7_addPair 20 = .ok (.iconst (-1), 1) := by decide +kernel
theorem dX7_addPair_21 : decode cX7_addPair 21 = .ok (.if_icmp .eq 18, 3) := by decide +kernel
theorem dX7_addPair_24 : decode cX7_addPair 24 = .ok (.iload 4, 2) := by decide +kernel
theorem dX7_addPair_26 : decode cX7_addPair 26 = .ok (.iconst (-1), 1) := by decide +kernel
theorem dX7_addPair_27 : decode cX7_addPair 27 = .ok (.if_icmp .eq 12, 3) := by decide +kernel
theorem dX7_addPair_30 : decode cX7_addPair 30 = .ok (.aload_n 0, 1) := by decide +kernel
theorem dX7_addPair_31 : decode cX7_addPair 31 = .ok (.getfield 31, 3) := by decide +kernel
theorem dX7_addPair_34 : decode cX7_addPair 34 = .ok (.bipush 16, 2) := by decide +kernel
theorem dX7_addPair_36 : decode cX7_addPair 36 = .ok (.if_icmp .lt 4, 3) := by decide +kernel
theorem dX7_addPair_39 : decode cX7_addPair 39 = .ok (.return_, 1) := by decide +kernel
theorem dX7_addPair_40 : decode cX7_addPair 40 = .ok (.aload_n 0, 1) := by decide +kernel
theorem dX7_addPair_41 : decode cX7_addPair 41 = .ok (.getfield 34, 3) := by decide +kernel
theorem dX7_addPair_44 : decode cX7_addPair 44 = .ok (.aload_n 0, 1) := by decide +kernel
theorem dX7_addPair_45 : decode cX7_addPair 45 = .ok (.getfield 31, 3) := by decide +kernel
theorem dX7_addPair_48 : decode cX7_addPair 48 = .ok (.iload_n 3, 1) := by decide +kernel
theorem dX7_addPair_49 : decode cX7_addPair 49 = .ok (.iastore, 1) := by decide +kernel
theorem dX7_addPair_50 : decode cX7_addPair 50 = .ok (.aload_n 0, 1) := by decide +kernel
theorem dX7_addPair_51 : decode cX7_addPair 51 = .ok (.getfield 37, 3) := by decide +kernel
theorem dX7_addPair_54 : decode cX7_addPair 54 = .ok (.aload_n 0, 1) := by decide +kernel
theorem dX7_addPair_55 : decode cX7_addPair 55 = .ok (.getfield 31, 3) := by decide +kernel
theorem dX7_addPair_58 : decode cX7_addPair 58 = .ok (.iload 4, 2) := by decide +kernel
theorem dX7_addPair_60 : decode cX7_addPair 60 = .ok (.iastore, 1) := by decide +kernel
theorem dX7_addPair_61 : decode cX7_addPair 61 = .ok (.aload_n 0, 1) := by decide +kernel
theorem dX7_addPair_62 : decode cX7_addPair 62 = .ok (.getfield 40, 3) := by decide +kernel
theorem dX7_addPair_65 : decode cX7_addPair 65 = .ok (.aload_n 0, 1) := by decide +kernel
theorem dX7_addPair_66 : decode cX7_addPair 66 = .ok (.getfield 31, 3) := by decide +kernel
theorem dX7_addPair_69 : decode cX7_addPair 69 = .ok (.iconst 0, 1) := by decide +kernel
theorem dX7_addPair_70 : decode cX7_addPair 70 = .ok (.iastore, 1) := by decide +kernel
theorem dX7_addPair_71 : decode cX7_addPair 71 = .ok (.iconst 0, 1) := by decide +kernel
theorem dX7_addPair_72 : decode cX7_addPair 72 = .ok (.istore 5, 2) := by decide +kernel
theorem dX7_addPair_74 : decode cX7_addPair 74 = .ok (.iload 5, 2) := by decide +kernel
theorem dX7_addPair_76 : decode cX7_addPair 76 = .ok (.iconst 3, 1) := by decide +kernel
theorem dX7_addPair_77 : decode cX7_addPair 77 = .ok (.if_icmp .ge 98, 3) := by decide +kernel
theorem dX7_addPair_80 : decode cX7_addPair 80 = .ok (.iconst 0, 1) := by decide +kernel
theorem dX7_addPair_81 : decode cX7_addPair 81 = .ok (.istore 6, 2) := by decide +kernel
theorem dX7_addPair_83 : decode cX7_addPair 83 = .ok (.iload 6, 2) := by decide +kernel
theorem dX7_addPair_85 : decode cX7_addPair 85 = .ok (.iconst 3, 1) := by decide +kernel
theorem dX7_addPair_86 : decode cX7_addPair 86 = .ok (.if_icmp .ge 83, 3) := by decide +kernel
theorem dX7_addPair_89 : decode cX7_addPair 89 = .ok (.aload_n 2, 1) := by decide +kernel
theorem dX7_addPair_90 : decode cX7_addPair 90 = .ok (.aload_n 0, 1) := by decide +kernel
theorem dX7_addPair_91 : decode cX7_addPair 91 = .ok (.getfield 25, 3) := by decide +kernel
theorem dX7_addPair_94 : decode cX7_addPair 94 = .ok (.iload 5, 2) := by decide +kernel
theorem dX7_addPair_96 : decode cX7_addPair 96 = .ok (.iaload, 1) := by decide +kernel
theorem dX7_addPair_97 : decode cX7_addPair 97 = .ok (.aload_n 1, 1) := by decide +kernel
theorem dX7_addPair_98 : decode cX7_addPair 98 = .ok (.getfield 43, 3) := by decide +kernel
theorem dX7_addPair_101 : decode cX7_addPair 101 = .ok (.invokevirtual 55, 3) := by decide +kernel
theorem dX7_addPair_104 : decode cX7_addPair 104 = .ok (.lstore 7, 2) := by decide +kernel
theorem dX7_addPair_106 : decode cX7_addPair 106 = .ok (.aload_n 2, 1) := by decide +kernel
theorem dX7_addPair_107 : decode cX7_addPair 107 = .ok (.aload_n 0, 1) := by decide +kernel
theorem dX7_addPair_108 : decode cX7_addPair 108 = .ok (.getfield 25, 3) := by decide +kernel
theorem dX7_addPair_111 : decode cX7_addPair 111 = .ok (.iload 6, 2) := by decide +kernel
theorem dX7_addPair_113 : decode cX7_addPair 113 = .ok (.iaload, 1) := by decide +kernel
theorem dX7_addPair_114 : decode cX7_addPair 114 = .ok (.aload_n 1, 1) := by decide +kernel
theorem dX7_addPair_115 : decode cX7_addPair 115 = .ok (.getfield 52, 3) := by decide +kernel
theorem dX7_addPair_118 : decode cX7_addPair 118 = .ok (.invokevirtual 55, 3) := by decide +kernel
theorem dX7_addPair_121 : decode cX7_addPair 121 = .ok (.lstore 9, 2) := by decide +kernel
theorem dX7_addPair_123 : decode cX7_addPair 123 = .ok (.aload_n 0, 1) := by decide +kernel
theorem dX7_addPair_124 : decode cX7_addPair 124 = .ok (.getfield 40, 3) := by decide +kernel
theorem dX7_addPair_127 : decode cX7_addPair 127 = .ok (.aload_n 0, 1) := by decide +kernel
theorem dX7_addPair_128 : decode cX7_addPair 128 = .ok (.getfield 31, 3) := by decide +kernel
theorem dX7_addPair_131 : decode cX7_addPair 131 = .ok (.dup2, 1) := by decide +kernel
theorem dX7_addPair_132 : decode cX7_addPair 132 = .ok (.iaload, 1) := by decide +kernel
theorem dX7_addPair_133 : decode cX7_addPair 133 = .ok (.aload_n 1, 1) := by decide +kernel
theorem dX7_addPair_134 : decode cX7_addPair 134 = .ok (.lload 7, 2) := by decide +kernel
theorem dX7_addPair_136 : decode cX7_addPair 136 = .ok (.lload 9, 2) := by decide +kernel
theorem dX7_addPair_138 : decode cX7_addPair 138 = .ok (.aload_n 2, 1) := by decide +kernel
theorem dX7_addPair_139 : decode cX7_addPair 139 = .ok (.invokevirtual 61, 3) := by decide +kernel
theorem dX7_addPair_142 : decode cX7_addPair 142 = .ok (.invokevirtual 65, 3) := by decide +kernel
theorem dX7_addPair_145 : decode cX7_addPair 145 = .ok (.ifCond .eq 15, 3) := by decide +kernel
theorem dX7_addPair_148 : decode cX7_addPair 148 = .ok (.iconst 1, 1) := by decide +kernel
theorem dX7_addPair_149 : decode cX7_addPair 149 = .ok (.iload 5, 2) := by decide +kernel
theorem dX7_addPair_151 : decode cX7_addPair 151 = .ok (.iconst 3, 1) := by decide +kernel
theorem dX7_addPair_152 : decode cX7_addPair 152 = .ok (.imul, 1) := by decide +kernel
theorem dX7_addPair_153 : decode cX7_addPair 153 = .ok (.iload 6, 2) := by decide +kernel
theorem dX7_addPair_155 : decode cX7_addPair 155 = .ok (.iadd, 1) := by decide +kernel
theorem dX7_addPair_156 : decode cX7_addPair 156 = .ok (.ishl, 1) := by decide +kernel
theorem dX7_addPair_157 : decode cX7_addPair 157 = .ok (.goto 4, 3) := by decide +kernel
theorem dX7_addPair_160 : decode cX7_addPair 160 = .ok (.iconst 0, 1) := by decide +kernel
theorem dX7_addPair_161 : decode cX7_addPair 161 = .ok (.ior, 1) := by decide +kernel
theorem dX7_addPair_162 : decode cX7_addPair 162 = .ok (.iastore, 1) := by decide +kernel
theorem dX7_addPair_163 : decode cX7_addPair 163 = .ok (.iinc 6 1, 3) := by decide +kernel
theorem dX7_addPair_166 : decode cX7_addPair 166 = .ok (.goto (-83), 3) := by decide +kernel
theorem dX7_addPair_169 : decode cX7_addPair 169 = .ok (.iinc 5 1, 3) := by decide +kernel
theorem dX7_addPair_172 : decode cX7_addPair 172 = .ok (.goto (-98), 3) := by decide +kernel
theorem dX7_addPair_175 : decode cX7_addPair 175 = .ok (.aload_n 0, 1) := by decide +kernel
theorem dX7_addPair_176 : decode cX7_addPair 176 = .ok (.dup, 1) := by decide +kernel
theorem dX7_addPair_177 : decode cX7_addPair 177 = .ok (.getfield 31, 3) := by decide +kernel
theorem dX7_addPair_180 : decode cX7_addPair 180 = .ok (.iconst 1, 1) := by decide +kernel
theorem dX7_addPair_181 : decode cX7_addPair 181 = .ok (.iadd, 1) := by decide +kernel
theorem dX7_addPair_182 : decode cX7_addPair 182 = .ok (.putfield 31, 3) := by decide +kernel
theorem dX7_addPair_185 : decode cX7_addPair 185 = .ok (.return_, 1) := by decide +kernel
theorem dX7_play_0 : decode cX7_play 0 = .ok (.iconst (-1), 1) := by decide +kernel
theorem dX7_play_1 : decode cX7_play 1 = .ok (.istore_n 1, 1) := by decide +kernel
theorem dX7_play_2 : decode cX7_play 2 = .ok (.iconst 1, 1) := by decide +kernel
theorem dX7_play_3 : decode cX7_play 3 = .ok (.istore_n 2, 1) := by decide +kernel
theorem dX7_play_4 : decode cX7_play 4 = .ok (.iconst 0, 1) := by decide +kernel
theorem dX7_play_5 : decode cX7_play 5 = .ok (.istore_n 3, 1) := by decide +kernel
theorem dX7_play_6 : decode cX7_play 6 = .ok (.iload_n 3, 1) := by decide +kernel
theorem dX7_play_7 : decode cX7_play 7 = .ok (.aload_n 0, 1) := by decide +kernel
theorem dX7_play_8 : decode cX7_play 8 = .ok (.getfield 15, 3) := by decide +kernel
theorem dX7_play_11 : decode cX7_play 11 = .ok (.if_icmp .ge 20, 3) := by decide +kernel
theorem dX7_play_14 : decode cX7_play 14 = .ok (.aload_n 0, 1) := by decide +kernel
theorem dX7_play_15 : decode cX7_play 15 = .ok (.getfield 28, 3) := by decide +kernel
theorem dX7_play_18 : decode cX7_play 18 = .ok (.iload_n 3, 1) := by decide +kernel
theorem dX7_play_19 : decode cX7_play 19 = .ok (.iconst 0, 1) := by decide +kernel
theorem dX7_play_20 : decode cX7_play 20 = .ok (.iastore, 1) := by decide +kernel
theorem dX7_play_21 : decode cX7_play 21 = .ok (.iload_n 2, 1) := by decide +kernel
theorem dX7_play_22 : decode cX7_play 22 = .ok (.iconst 3, 1) := by decide +kernel
theorem dX7_play_23 : decode cX7_play 23 = .ok (.imul, 1) := by decide +kernel
theorem dX7_play_24 : decode cX7_play 24 = .ok (.istore_n 2, 1) := by decide +kernel
theorem dX7_play_25 : decode cX7_play 25 = .ok (.iinc 3 1, 3) := by decide +kernel
theorem dX7_play_28 : decode cX7_play 28 = .ok (.goto (-22), 3) := by decide +kernel
theorem dX7_play_31 : decode cX7_play 31 = .ok (.iconst 0, 1) := by decide +kernel
theorem dX7_play_32 : decode cX7_play 32 = .ok (.istore_n 3, 1) := by decide +kernel
theorem dX7_play_33 : decode cX7_play 33 = .ok (.iload_n 3, 1) := by decide +kernel
theorem dX7_play_34 : decode cX7_play 34 = .ok (.iload_n 2, 1) := by decide +kernel
theorem dX7_play_35 : decode cX7_play 35 = .ok (.if_icmp .ge 45, 3) := by decide +kernel
theorem dX7_play_38 : decode cX7_play 38 = .ok (.aload_n 0, 1) := by decide +kernel
theorem dX7_play_39 : decode cX7_play 39 = .ok (.invokevirtual 69, 3) := by decide +kernel
theorem dX7_play_42 : decode cX7_play 42 = .ok (.istore 4, 2) := by decide +kernel
theorem dX7_play_44 : decode cX7_play 44 = .ok (.iload 4, 2) := by decide +kernel
theorem dX7_play_46 : decode cX7_play 46 = .ok (.iload_n 1, 1) := by decide +kernel
theorem dX7_play_47 : decode cX7_play 47 = .ok (.if_icmp .le 23, 3) := by decide +kernel
theorem dX7_play_50 : decode cX7_play 50 = .ok (.iload 4, 2) := by decide +kernel
theorem dX7_play_52 : decode cX7_play 52 = .ok (.istore_n 1, 1) := by decide +kernel
theorem dX7_play_53 : decode cX7_play 53 = .ok (.aload_n 0, 1) := by decide +kernel
theorem dX7_play_54 : decode cX7_play 54 = .ok (.getfield 28, 3) := by decide +kernel
theorem dX7_play_57 : decode cX7_play 57 = .ok (.iconst 0, 1) := by decide +kernel
theorem dX7_play_58 : decode cX7_play 58 = .ok (.aload_n 0, 1) := by decide +kernel
theorem dX7_play_59 : decode cX7_play 59 = .ok (.getfield 22, 3) := by decide +kernel
theorem dX7_play_62 : decode cX7_play 62 = .ok (.iconst 0, 1) := by decide +kernel
theorem dX7_play_63 : decode cX7_play 63 = .ok (.aload_n 0, 1) := by decide +kernel
theorem dX7_play_64 : decode cX7_play 64 = .ok (.getfield 15, 3) := by decide +kernel
theorem dX7_play_67 : decode cX7_play 67 = .ok (.invokestatic 72, 3) := by decide +kernel
theorem dX7_play_70 : decode cX7_play 70 = .ok (.aload_n 0, 1) := by decide +kernel
theorem dX7_play_71 : decode cX7_play 71 = .ok (.invokevirtual 78, 3) := by decide +kernel
theorem dX7_play_74 : decode cX7_play 74 = .ok (.iinc 3 1, 3) := by decide +kernel
theorem dX7_play_77 : decode cX7_play 77 = .ok (.goto (-44), 3) := by decide +kernel
theorem dX7_play_80 : decode cX7_play 80 = .ok (.iload_n 1, 1) := by decide +kernel
theorem dX7_play_81 : decode cX7_play 81 = .ok (.ireturn, 1) := by decide +kernel
theorem dX7_countSo_0 : decode cX7_countSo 0 = .ok (.iconst 0, 1) := by decide +kernel
theorem dX7_countSo_1 : decode cX7_countSo 1 = .ok (.istore_n 1, 1) := by decide +kernel
theorem dX7_countSo_2 : decode cX7_countSo 2 = .ok (.iconst 0, 1) := by decide +kernel
theorem dX7_countSo_3 : decode cX7_countSo 3 = .ok (.istore_n 2, 1) := by decide +kernel
theorem dX7_countSo_4 : decode cX7_countSo 4 = .ok (.iload_n 2, 1) := by decide +kernel
theorem dX7_countSo_5 : decode cX7_countSo 5 = .ok (.aload_n 0, 1) := by decide +kernel
theorem dX7_countSo_6 : decode cX7_countSo 6 = .ok (.getfield 31, 3) := by decide +kernel
theorem dX7_countSo_9 : decode cX7_countSo 9 = .ok (.if_icmp .ge 46, 3) := by decide +kernel
theorem dX7_countSo_12 : decode cX7_countSo 12 = .ok (.iload_n 1, 1) := by decide +kernel
theorem dX7_countSo_13 : decode cX7_countSo 13 = .ok (.aload_n 0, 1) := by decide +kernel
theorem dX7_countSo_14 : decode cX7_countSo 14 = .ok (.getfield 40, 3) := by decide +kernel
theorem dX7_countSo_17 : decode cX7_countSo 17 = .ok (.iload_n 2, 1) := by decide +kernel
theorem dX7_countSo_18 : decode cX7_countSo 18 = .ok (.iaload, 1) := by decide +kernel
theorem dX7_countSo_19 : decode cX7_countSo 19 = .ok (.aload_n 0, 1) := by decide +kernel
theorem dX7_countSo_20 : decode cX7_countSo 20 = .ok (.getfield 28, 3) := by decide +kernel
theorem dX7_countSo_23 : decode cX7_countSo 23 = .ok (.aload_n 0, 1) := by decide +kernel
theorem dX7_countSo_24 : decode cX7_countSo 24 = .ok (.getfield 34, 3) := by decide +kernel
theorem dX7_countSo_27 : decode cX7_countSo 27 = .ok (.iload_n 2, 1) := by decide +kernel
theorem dX7_countSo_28 : decode cX7_countSo 28 = .ok (.iaload, 1) := by decide +kernel
theorem dX7_countSo_29 : decode cX7_countSo 29 = .ok (.iaload, 1) := by decide +kernel
theorem dX7_countSo_30 : decode cX7_countSo 30 = .ok (.iconst 3, 1) := by decide +kernel
theorem dX7_countSo_31 : decode cX7_countSo 31 = .ok (.imul, 1) := by decide +kernel
theorem dX7_countSo_32 : decode cX7_countSo 32 = .ok (.aload_n 0, 1) := by decide +kernel
theorem dX7_countSo_33 : decode cX7_countSo 33 = .ok (.getfield 28, 3) := by decide +kernel
theorem dX7_countSo_36 : decode cX7_countSo 36 = .ok (.aload_n 0, 1) := by decide +kernel
theorem dX7_countSo_37 : decode cX7_countSo 37 = .ok (.getfield 37, 3) := by decide +kernel
theorem dX7_countSo_40 : decode cX7_countSo 40 = .ok (.iload_n 2, 1) := by decide +kernel
theorem dX7_countSo_41 : decode cX7_countSo 41 = .ok (.iaload, 1) := by decide +kernel
theorem dX7_countSo_42 : decode cX7_countSo 42 = .ok (.iaload, 1) := by decide +kernel
theorem dX7_countSo_43 : decode cX7_countSo 43 = .ok (.iadd, 1) := by decide +kernel
theorem dX7_countSo_44 : decode cX7_countSo 44 = .ok (.ishr, 1) := by decide +kernel
theorem dX7_countSo_45 : decode cX7_countSo 45 = .ok (.iconst 1, 1) := by decide +kernel
theorem dX7_countSo_46 : decode cX7_countSo 46 = .ok (.iand, 1) := by decide +kernel
theorem dX7_countSo_47 : decode cX7_countSo 47 = .ok (.iadd, 1) := by decide +kernel
theorem dX7_countSo_48 : decode cX7_countSo 48 = .ok (.istore_n 1, 1) := by decide +kernel
theorem dX7_countSo_49 : decode cX7_countSo 49 = .ok (.iinc 2 1, 3) := by decide +kernel
theorem dX7_countSo_52 : decode cX7_countSo 52 = .ok (.goto (-48), 3) := by decide +kernel
theorem dX7_countSo_55 : decode cX7_countSo 55 = .ok (.iload_n 1, 1) := by decide +kernel
theorem dX7_countSo_56 : decode cX7_countSo 56 = .ok (.ireturn, 1) := by decide +kernel
theorem dX7_chooseNext_0 : decode cX7_chooseNext 0 = .ok (.aload_n 0, 1) := by decide +kernel
theorem dX7_chooseNext_1 : decode cX7_chooseNext 1 = .ok (.getfield 15, 3) := by decide +kernel
theorem dX7_chooseNext_4 : decode cX7_chooseNext 4 = .ok (.iconst 1, 1) := by decide +kernel
theorem dX7_chooseNext_5 : decode cX7_chooseNext 5 = .ok (.isub, 1) := by decide +kernel
theorem dX7_chooseNext_6 : decode cX7_chooseNext 6 = .ok (.istore_n 1, 1) := by decide +kernel
theorem dX7_chooseNext_7 : decode cX7_chooseNext 7 = .ok (.iload_n 1, 1) := by decide +kernel
theorem dX7_chooseNext_8 : decode cX7_chooseNext 8 = .ok (.ifCond .lt 26, 3) := by decide +kernel
theorem dX7_chooseNext_11 : decode cX7_chooseNext 11 = .ok (.aload_n 0, 1) := by decide +kernel
theorem dX7_chooseNext_12 : decode cX7_chooseNext 12 = .ok (.getfield 28, 3) := by decide +kernel
theorem dX7_chooseNext_15 : decode cX7_chooseNext 15 = .ok (.iload_n 1, 1) := by decide +kernel
theorem dX7_chooseNext_16 : decode cX7_chooseNext 16 = .ok (.iaload, 1) := by decide +kernel
theorem dX7_chooseNext_17 : decode cX7_chooseNext 17 = .ok (.iconst 2, 1) := by decide +kernel
theorem dX7_chooseNext_18 : decode cX7_chooseNext 18 = .ok (.if_icmp .ne 16, 3) := by decide +kernel
theorem dX7_chooseNext_21 : decode cX7_chooseNext 21 = .ok (.aload_n 0, 1) := by decide +kernel
theorem dX7_chooseNext_22 : decode cX7_chooseNext 22 = .ok (.getfield 28, 3) := by decide +kernel
theorem dX7_chooseNext_25 : decode cX7_chooseNext 25 = .ok (.iload_n 1, 1) := by decide +kernel
theorem dX7_chooseNext_26 : decode cX7_chooseNext 26 = .ok (.iconst 0, 1) := by decide +kernel
theorem dX7_chooseNext_27 : decode cX7_chooseNext 27 = .ok (.iastore, 1) := by decide +kernel
theorem dX7_chooseNext_28 : decode cX7_chooseNext 28 = .ok (.iinc 1 (-1), 3) := by decide +kernel
theorem dX7_chooseNext_31 : decode cX7_chooseNext 31 = .ok (.goto (-24), 3) := by decide +kernel
theorem dX7_chooseNext_34 : decode cX7_chooseNext 34 = .ok (.iload_n 1, 1) := by decide +kernel
theorem dX7_chooseNext_35 : decode cX7_chooseNext 35 = .ok (.ifCond .lt 13, 3) := by decide +kernel
theorem dX7_chooseNext_38 : decode cX7_chooseNext 38 = .ok (.aload_n 0, 1) := by decide +kernel
theorem dX7_chooseNext_39 : decode cX7_chooseNext 39 = .ok (.getfield 28, 3) := by decide +kernel
theorem dX7_chooseNext_42 : decode cX7_chooseNext 42 = .ok (.iload_n 1, 1) := by decide +kernel
theorem dX7_chooseNext_43 : decode cX7_chooseNext 43 = .ok (.dup2, 1) := by decide +kernel
theorem dX7_chooseNext_44 : decode cX7_chooseNext 44 = .ok (.iaload, 1) := by decide +kernel
theorem dX7_chooseNext_45 : decode cX7_chooseNext 45 = .ok (.iconst 1, 1) := by decide +kernel
theorem dX7_chooseNext_46 : decode cX7_chooseNext 46 = .ok (.iadd, 1) := by decide +kernel
theorem dX7_chooseNext_47 : decode cX7_chooseNext 47 = .ok (.iastore, 1) := by decide +kernel
theorem dX7_chooseNext_48 : decode cX7_chooseNext 48 = .ok (.return_, 1) := by decide +kernel
theorem dX8_init_0 : decode cX8_init 0 = .ok (.aload_n 0, 1) := by decide +kernel
theorem dX8_init_1 : decode cX8_init 1 = .ok (.invokespecial 3, 3) := by decide +kernel
theorem dX8_init_4 : decode cX8_init 4 = .ok (.aload_n 0, 1) := by decide +kernel
theorem dX8_init_5 : decode cX8_init 5 = .ok (.bipush 40, 2) := by decide +kernel
theorem dX8_init_7 : decode cX8_init 7 = .ok (.newarray .int, 2) := by decide +kernel
theorem dX8_init_9 : decode cX8_init 9 = .ok (.putfield 11, 3) := by decide +kernel
theorem dX8_init_12 : decode cX8_init 12 = .ok (.aload_n 0, 1) := by decide +kernel
theorem dX8_init_13 : decode cX8_init 13 = .ok (.iconst 0, 1) := by decide +kernel
theorem dX8_init_14 : decode cX8_init 14 = .ok (.putfield 15, 3) := by decide +kernel
theorem dX8_init_17 : decode cX8_init 17 = .ok (.return_, 1) := by decide +kernel
theorem dX8_takes_0 : decode cX8_takes 0 = .ok (.aload_n 0, 1) := by decide +kernel
theorem dX8_takes_1 : decode cX8_takes 1 = .ok (.getfield 15, 3) := by decide +kernel
theorem dX8_takes_4 : decode cX8_takes 4 = .ok (.iconst 4, 1) := by decide +kernel
theorem dX8_takes_5 : decode cX8_takes 5 = .ok (.iadd, 1) := by decide +kernel
theorem dX8_takes_6 : decode cX8_takes 6 = .ok (.bipush 40, 2) := by decide +kernel
theorem dX8_takes_8 : decode cX8_takes 8 = .ok (.if_icmp .le 5, 3) := by decide +kernel
theorem dX8_takes_11 : decode cX8_takes 11 = .ok (.iconst 0, 1) := by decide +kernel
theorem dX8_takes_12 : decode cX8_takes 12 = .ok (.ireturn, 1) := by decide +kernel
theorem dX8_takes_13 : decode cX8_takes 13 = .ok (.bipush 24, 2) := by decide +kernel
theorem dX8_takes_15 : decode cX8_takes 15 = .ok (.istore_n 2, 1) := by decide +kernel
theorem dX8_takes_16 : decode cX8_takes 16 = .ok (.iload_n 2, 1) := by decide +kernel
theorem dX8_takes_17 : decode cX8_takes 17 = .ok (.ifCond .lt 35, 3) := by decide +kernel
theorem dX8_takes_20 : decode cX8_takes 20 = .ok (.aload_n 0, 1) := by decide +kernel
theorem dX8_takes_21 : decode cX8_takes 21 = .ok (.getfield 11, 3) := by decide +kernel
theorem dX8_takes_24 : decode cX8_takes 24 = .ok (.aload_n 0, 1) := by decide +kernel
theorem dX8_takes_25 : decode cX8_takes 25 = .ok (.getfield 15, 3) := by decide +kernel
theorem dX8_takes_28 : decode cX8_takes 28 = .ok (.iload_n 1, 1) := by decide +kernel
theorem dX8_takes_29 : decode cX8_takes 29 = .ok (.iload_n 2, 1) := by decide +kernel
theorem dX8_takes_30 : decode cX8_takes 30 = .ok (.ishr, 1) := by decide +kernel
theorem dX8_takes_31 : decode cX8_takes 31 = .ok (.sipush 255, 3) := by decide +kernel
theorem dX8_takes_34 : decode cX8_takes 34 = .ok (.iand, 1) := by decide +kernel
theorem dX8_takes_35 : decode cX8_takes 35 = .ok (.iastore, 1) := by decide +kernel
theorem dX8_takes_36 : decode cX8_takes 36 = .ok (.aload_n 0, 1) := by decide +kernel
theorem dX8_takes_37 : decode cX8_takes 37 = .ok (.dup, 1) := by decide +kernel
theorem dX8_takes_38 : decode cX8_takes 38 = .ok (.getfield 15, 3) := by decide +kernel
theorem dX8_takes_41 : decode cX8_takes 41 = .ok (.iconst 1, 1) := by decide +kernel
theorem dX8_takes_42 : decode cX8_takes 42 = .ok (.iadd, 1) := by decide +kernel
theorem dX8_takes_43 : decode cX8_takes 43 = .ok (.putfield 15, 3) := by decide +kernel
theorem dX8_takes_46 : decode cX8_takes 46 = .ok (.iinc 2 (-8), 3) := by decide +kernel
theorem dX8_takes_49 : decode cX8_takes 49 = .ok (.goto (-33), 3) := by decide +kernel
theorem dX8_takes_52 : decode cX8_takes 52 = .ok (.iconst 1, 1) := by decide +kernel
theorem dX8_takes_53 : decode cX8_takes 53 = .ok (.ireturn, 1) := by decide +kernel
theorem dX8_cutTo_0 : decode cX8_cutTo 0 = .ok (.iload_n 1, 1) := by decide +kernel
theorem dX8_cutTo_1 : decode cX8_cutTo 1 = .ok (.ifCond .lt 11, 3) := by decide +kernel
theorem dX8_cutTo_4 : decode cX8_cutTo 4 = .ok (.iload_n 1, 1) := by decide +kernel
theorem dX8_cutTo_5 : decode cX8_cutTo 5 = .ok (.aload_n 0, 1) := by decide +kernel
theorem dX8_cutTo_6 : decode cX8_cutTo 6 = .ok (.getfield 15, 3) := by decide +kernel
theorem dX8_cutTo_9 : decode cX8_cutTo 9 = .ok (.if_icmp .le 5, 3) := by decide +kernel
theorem dX8_cutTo_12 : decode cX8_cutTo 12 = .ok (.iconst 0, 1) := by decide +kernel
theorem dX8_cutTo_13 : decode cX8_cutTo 13 = .ok (.ireturn, 1) := by decide +kernel
theorem dX8_cutTo_14 : decode cX8_cutTo 14 = .ok (.aload_n 0, 1) := by decide +kernel
theorem dX8_cutTo_15 : decode cX8_cutTo 15 = .ok (.iload_n 1, 1) := by decide +kernel
theorem dX8_cutTo_16 : decode cX8_cutTo 16 = .ok (.putfield 15, 3) := by decide +kernel
theorem dX8_cutTo_19 : decode cX8_cutTo 19 = .ok (.iconst 1, 1) := by decide +kernel
theorem dX8_cutTo_20 : decode cX8_cutTo 20 = .ok (.ireturn, 1) := by decide +kernel
theorem dX8_signAt_0 : decode cX8_signAt 0 = .ok (.iload_n 1, 1) := by decide +kernel
theorem dX8_signAt_1 : decode cX8_signAt 1 = .ok (.aload_n 0, 1) := by decide +kernel
theorem dX8_signAt_2 : decode cX8_signAt 2 = .ok (.getfield 15, 3) := by decide +kernel
theorem dX8_signAt_5 : decode cX8_signAt 5 = .ok (.if_icmp .ge 12, 3) := by decide +kernel
theorem dX8_signAt_8 : decode cX8_signAt 8 = .ok (.aload_n 0, 1) := by decide +kernel
theorem dX8_signAt_9 : decode cX8_signAt 9 = .ok (.getfield 11, 3) := by decide +kernel
theorem dX8_signAt_12 : decode cX8_signAt 12 = .ok (.iload_n 1, 1) := by decide +kernel
theorem dX8_signAt_13 : decode cX8_signAt 13 = .ok (.iaload, 1) := by decide +kernel
theorem dX8_signAt_14 : decode cX8_signAt 14 = .ok (.goto 4, 3) := by decide +kernel
theorem dX8_signAt_17 : decode cX8_signAt 17 = .ok (.iconst (-1), 1) := by decide +kernel
theorem dX8_signAt_18 : decode cX8_signAt 18 = .ok (.ireturn, 1) := by decide +kernel
theorem dX8_firstNoWord_0 : decode cX8_firstNoWord 0 = .ok (.iconst 0, 1) := by decide +kernel
theorem dX8_firstNoWord_1 : decode cX8_firstNoWord 1 = .ok (.istore_n 1, 1) := by decide +kernel
theorem dX8_firstNoWord_2 : decode cX8_firstNoWord 2 = .ok (.iload_n 1, 1) := by decide +kernel
theorem dX8_firstNoWord_3 : decode cX8_firstNoWord 3 = .ok (.aload_n 0, 1) := by decide +kernel
theorem dX8_firstNoWord_4 : decode cX8_firstNoWord 4 = .ok (.getfield 15, 3) := by decide +kernel
theorem dX8_firstNoWord_7 : decode cX8_firstNoWord 7 = .ok (.if_icmp .ge 29, 3) := by decide +kernel
theorem dX8_firstNoWord_10 : decode cX8_firstNoWord 10 = .ok (.iload_n 1, 1) := by decide +kernel
theorem dX8_firstNoWord_11 : decode cX8_firstNoWord 11 = .ok (.bipush 8, 2) := by decide +kernel
theorem dX8_firstNoWord_13 : decode cX8_firstNoWord 13 = .ok (.if_icmp .eq 15, 3) := by decide +kernel
theorem dX8_firstNoWord_16 : decode cX8_firstNoWord 16 = .ok (.aload_n 0, 1) := by decide +kernel
theorem dX8_firstNoWord_17 : decode cX8_firstNoWord 17 = .ok (.getfield 11, 3) := by decide +kernel
theorem dX8_firstNoWord_20 : decode cX8_firstNoWord 20 = .ok (.iload_n 1, 1) := by decide +kernel
theorem dX8_firstNoWord_21 : decode cX8_firstNoWord 21 = .ok (.iaload, 1) := by decide +kernel
theorem dX8_firstNoWord_22 : decode cX8_firstNoWord 22 = .ok (.invokestatic 19, 3) := by decide +kernel
theorem dX8_firstNoWord_25 : decode cX8_firstNoWord 25 = .ok (.ifCond .ne 5, 3) := by decide +kernel
theorem dX8_firstNoWord_28 : decode cX8_firstNoWord 28 = .ok (.iload_n 1, 1) := by decide +kernel
theorem dX8_firstNoWord_29 : decode cX8_firstNoWord 29 = .ok (.ireturn, 1) := by decide +kernel
theorem dX8_firstNoWord_30 : decode cX8_firstNoWord 30 = .ok (.iinc 1 1, 3) := by decide +kernel
theorem dX8_firstNoWord_33 : decode cX8_firstNoWord 33 = .ok (.goto (-31), 3) := by decide +kernel
theorem dX8_firstNoWord_36 : decode cX8_firstNoWord 36 = .ok (.aload_n 0, 1) := by decide +kernel
theorem dX8_firstNoWord_37 : decode cX8_firstNoWord 37 = .ok (.getfield 15, 3) := by decide +kernel
theorem dX8_firstNoWord_40 : decode cX8_firstNoWord 40 = .ok (.ifCond .ne 7, 3) := by decide +kernel
theorem dX8_firstNoWord_43 : decode cX8_firstNoWord 43 = .ok (.iconst 0, 1) := by decide +kernel
theorem dX8_firstNoWord_44 : decode cX8_firstNoWord 44 = .ok (.goto 4, 3) := by decide +kernel
theorem dX8_firstNoWord_47 : decode cX8_firstNoWord 47 = .ok (.iconst (-1), 1) := by decide +kernel
theorem dX8_firstNoWord_48 : decode cX8_firstNoWord 48 = .ok (.ireturn, 1) := by decide +kernel
theorem dX8_asForm_0 : decode cX8_asForm 0 = .ok (.aload_n 0, 1) := by decide +kernel
theorem dX8_asForm_1 : decode cX8_asForm 1 = .ok (.getfield 15, 3) := by decide +kernel
theorem dX8_asForm_4 : decode cX8_asForm 4 = .ok (.bipush 8, 2) := by decide +kernel
theorem dX8_asForm_6 : decode cX8_asForm 6 = .ok (.invokestatic 23, 3) := by decide +kernel
theorem dX8_asForm_9 : decode cX8_asForm 9 = .ok (.istore_n 1, 1) := by decide +kernel
theorem dX8_asForm_10 : decode cX8_asForm 10 = .ok (.lconst 0, 1) := by decide +kernel
theorem dX8_asForm_11 : decode cX8_asForm 11 = .ok (.lstore_n 2, 1) := by decide +kernel
theorem dX8_asForm_12 : decode cX8_asForm 12 = .ok (.iconst 0, 1) := by decide +kernel
theorem dX8_asForm_13 : decode cX8_asForm 13 = .ok (.istore 4, 2) := by decide +kernel
theorem dX8_asForm_15 : decode cX8_asForm 15 = .ok (.iload 4, 2) := by decide +kernel
theorem dX8_asForm_17 : decode cX8_asForm 17 = .ok (.iload_n 1, 1) := by decide +kernel
theorem dX8_asForm_18 : decode cX8_asForm 18 = .ok (.if_icmp .ge 28, 3) := by decide +kernel
theorem dX8_asForm_21 : decode cX8_asForm 21 = .ok (.lload_n 2, 1) := by decide +kernel
theorem dX8_asForm_22 : decode cX8_asForm 22 = .ok (.aload_n 0, 1) := by decide +kernel
theorem dX8_asForm_23 : decode cX8_asForm 23 = .ok (.getfield 11, 3) := by decide +kernel
theorem dX8_asForm_26 : decode cX8_asForm 26 = .ok (.iload 4, 2) := by decide +kernel
theorem dX8_asForm_28 : decode cX8_asForm 28 = .ok (.iaload, 1) := by decide +kernel
theorem dX8_asForm_29 : decode cX8_asForm 29 = .ok (.bipush 97, 2) := by decide +kernel
theorem dX8_asForm_31 : decode cX8_asForm 31 = .ok (.isub, 1) := by decide +kernel
theorem dX8_asForm_32 : decode cX8_asForm 32 = .ok (.i2l, 1) := by decide +kernel
theorem dX8_asForm_33 : decode cX8_asForm 33 = .ok (.iconst 4, 1) := by decide +kernel
theorem dX8_asForm_34 : decode cX8_asForm 34 = .ok (.iload 4, 2) := by decide +kernel
theorem dX8_asForm_36 : decode cX8_asForm 36 = .ok (.imul, 1) := by decide +kernel
theorem dX8_asForm_37 : decode cX8_asForm 37 = .ok (.lshl, 1) := by decide +kernel
theorem dX8_asForm_38 : decode cX8_asForm 38 = .ok (.lor, 1) := by decide +kernel
theorem dX8_asForm_39 : decode cX8_asForm 39 = .ok (.lstore_n 2, 1) := by decide +kernel
theorem dX8_asForm_40 : decode cX8_asForm 40 = .ok (.iinc 4 1, 3) := by decide +kernel
theorem dX8_asForm_43 : decode cX8_asForm 43 = .ok (.goto (-28), 3) := by decide +kernel
theorem dX8_asForm_46 : decode cX8_asForm 46 = .ok (.lload_n 2, 1) := by decide +kernel
theorem dX8_asForm_47 : decode cX8_asForm 47 = .ok (.iload_n 1, 1) := by decide +kernel
theorem dX8_asForm_48 : decode cX8_asForm 48 = .ok (.invokestatic 29, 3) := by decide +kernel
theorem dX8_asForm_51 : decode cX8_asForm 51 = .ok (.lreturn, 1) := by decide +kernel
theorem dX8_isSound_0 : decode cX8_isSound 0 = .ok (.iload_n 0, 1) := by decide +kernel
theorem dX8_isSound_1 : decode cX8_isSound 1 = .ok (.bipush 97, 2) := by decide +kernel
theorem dX8_isSound_3 : decode cX8_isSound 3 = .ok (.if_icmp .lt 13, 3) := by decide +kernel
theorem dX8_isSound_6 : decode cX8_isSound 6 = .ok (.iload_n 0, 1) := by decide +kernel
theorem dX8_isSound_7 : decode cX8_isSound 7 = .ok (.bipush 112, 2) := by decide +kernel
theorem dX8_isSound_9 : decode cX8_isSound 9 = .ok (.if_icmp .gt 7, 3) := by decide +kernel
theorem dX8_isSound_12 : decode cX8_isSound 12 = .ok (.iconst 1, 1) := by decide +kernel
theorem dX8_isSound_13 : decode cX8_isSound 13 = .ok (.goto 4, 3) := by decide +kernel
theorem dX8_isSound_16 : decode cX8_isSound 16 = .ok (.iconst 0, 1) := by decide +kernel
theorem dX8_isSound_17 : decode cX8_isSound 17 = .ok (.ireturn, 1) := by decide +kernel
theorem dX8_isSoundOrClass_0 : decode cX8_isSoundOrClass 0 = .ok (.iload_n 0, 1) := by decide +kernel
theorem dX8_isSoundOrClass_1 : decode cX8_isSoundOrClass 1 = .ok (.invokestatic 19, 3) := by decide +kernel
theorem dX8_isSoundOrClass_4 : decode cX8_isSoundOrClass 4 = .ok (.ifCond .ne 15, 3) := by decide +kernel
theorem dX8_isSoundOrClass_7 : decode cX8_isSoundOrClass 7 = .ok (.iload_n 0, 1) := by decide +kernel
theorem dX8_isSoundOrClass_8 : decode cX8_isSoundOrClass 8 = .ok (.bipush 65, 2) := by decide +kernel
theorem dX8_isSoundOrClass_10 : decode cX8_isSoundOrClass 10 = .ok (.if_icmp .lt 13, 3) := by decide +kernel
theorem dX8_isSoundOrClass_13 : decode cX8_isSoundOrClass 13 = .ok (.iload_n 0, 1) := by decide +kernel
theorem dX8_isSoundOrClass_14 : decode cX8_isSoundOrClass 14 = .ok (.bipush 70, 2) := by decide +kernel
theorem dX8_isSoundOrClass_16 : decode cX8_isSoundOrClass 16 = .ok (.if_icmp .gt 7, 3) := by decide +kernel
theorem dX8_isSoundOrClass_19 : decode cX8_isSoundOrClass 19 = .ok (.iconst 1, 1) := by decide +kernel
theorem dX8_isSoundOrClass_20 : decode cX8_isSoundOrClass 20 = .ok (.goto 4, 3) := by decide +kernel
theorem dX8_isSoundOrClass_23 : decode cX8_isSoundOrClass 23 = .ok (.iconst 0, 1) := by decide +kernel
theorem dX8_isSoundOrClass_24 : decode cX8_isSoundOrClass 24 = .ok (.ireturn, 1) := by decide +kernel
theorem dX9_init_0 : decode cX9_init 0 = .ok (.aload_n 0, 1) := by decide +kernel
theorem dX9_init_1 : decode cX9_init 1 = .ok (.invokespecial 3, 3) := by decide +kernel
theorem dX9_init_4 : decode cX9_init 4 = .ok (.aload_n 0, 1) := by decide +kernel
theorem dX9_init_5 : decode cX9_init 5 = .ok (.bipush 6, 2) := by decide +kernel
theorem dX9_init_7 : decode cX9_init 7 = .ok (.anewarray 9, 3) := by decide +kernel
theorem dX9_init_10 : decode cX9_init 10 = .ok (.putfield 11, 3) := by decide +kernel
theorem dX9_init_13 : decode cX9_init 13 = .ok (.aload_n 0, 1) := by decide +kernel
theorem dX9_init_14 : decode cX9_init 14 = .ok (.iconst 0, 1) := by decide +kernel
theorem dX9_init_15 : decode cX9_init 15 = .ok (.putfield 17, 3) := by decide +kernel
theorem dX9_init_18 : decode cX9_init 18 = .ok (.aload_n 0, 1) := by decide +kernel
theorem dX9_init_19 : decode cX9_init 19 = .ok (.iconst 0, 1) := by decide +kernel
theorem dX9_init_20 : decode cX9_init 20 = .ok (.putfield 21, 3) := by decide +kernel
theorem dX9_init_23 : decode cX9_init 23 = .ok (.aload_n 0, 1) := by decide +kernel
theorem dX9_init_24 : decode cX9_init 24 = .ok (.bipush 6, 2) := by decide +kernel
theorem dX9_init_26 : decode cX9_init 26 = .ok (.newarray .int, 2) := by decide +kernel
theorem dX9_init_28 : decode cX9_init 28 = .ok (.putfield 24, 3) := by decide +kernel
theorem dX9_init_31 : decode cX9_init 31 = .ok (.aload_n 0, 1) := by decide +kernel
theorem dX9_init_32 : decode cX9_init 32 = .ok (.iconst 1, 1) := by decide +kernel
theorem dX9_init_33 : decode cX9_init 33 = .ok (.putfield 28, 3) := by decide +kernel
theorem dX9_init_36 : decode cX9_init 36 = .ok (.aload_n 0, 1) := by decide +kernel
theorem dX9_init_37 : decode cX9_init 37 = .ok (.sipush 192, 3) := by decide +kernel
theorem dX9_init_40 : decode cX9_init 40 = .ok (.newarray .int, 2) := by decide +kernel
theorem dX9_init_42 : decode cX9_init 42 = .ok (.putfield 31, 3) := by decide +kernel
theorem dX9_init_45 : decode cX9_init 45 = .ok (.aload_n 0, 1) := by decide +kernel
theorem dX9_init_46 : decode cX9_init 46 = .ok (.sipush 640, 3) := by decide +kernel
theorem dX9_init_49 : decode cX9_init 49 = .ok (.newarray .long, 2) := by decide +kernel
theorem dX9_init_51 : decode cX9_init 51 = .ok (.putfield 34, 3) := by decide +kernel
theorem dX9_init_54 : decode cX9_init 54 = .ok (.iconst 0, 1) := by decide +kernel
theorem dX9_init_55 : decode cX9_init 55 = .ok (.istore_n 1, 1) := by decide +kernel
theorem dX9_init_56 : decode cX9_init 56 = .ok (.iload_n 1, 1) := by decide +kernel
theorem dX9_init_57 : decode cX9_init 57 = .ok (.bipush 6, 2) := by decide +kernel
theorem dX9_init_59 : decode cX9_init 59 = .ok (.if_icmp .ge 22, 3) := by decide +kernel
theorem dX9_init_62 : decode cX9_init 62 = .ok (.aload_n 0, 1) := by decide +kernel
theorem dX9_init_63 : decode cX9_init 63 = .ok (.getfield 11, 3) := by decide +kernel
theorem dX9_init_66 : decode cX9_init 66 = .ok (.iload_n 1, 1) := by decide +kernel
theorem dX9_init_67 : decode cX9_init 67 = .ok (.new 9, 3) := by decide +kernel
theorem dX9_init_70 : decode cX9_init 70 = .ok (.dup, 1) := by decide +kernel
theorem dX9_init_71 : decode cX9_init 71 = .ok (.invokespecial 38, 3) := by decide +kernel
theorem dX9_init_74 : decode cX9_init 74 = .ok (.aastore, 1) := by decide +kernel
theorem dX9_init_75 : decode cX9_init 75 = .ok (.iinc 1 1, 3) := by decide +kernel
theorem dX9_init_78 : decode cX9_init 78 = .ok (.goto (-22), 3) := by decide +kernel
theorem dX9_init_81 : decode cX9_init 81 = .ok (.return_, 1) := by decide +kernel
theorem dX9_vowels_0 : decode cX9_vowels 0 = .ok (.aload_n 0, 1) := by decide +kernel
theorem dX9_vowels_1 : decode cX9_vowels 1 = .ok (.getfield 24, 3) := by decide +kernel
theorem dX9_vowels_4 : decode cX9_vowels 4 = .ok (.iconst 0, 1) := by decide +kernel
theorem dX9_vowels_5 : decode cX9_vowels 5 = .ok (.iaload, 1) := by decide +kernel
theorem dX9_vowels_6 : decode cX9_vowels 6 = .ok (.ireturn, 1) := by decide +kernel
theorem dX9_setClass_0 : decode cX9_setClass 0 = .ok (.aload_n 0, 1) := by decide +kernel
theorem dX9_setClass_1 : decode cX9_setClass 1 = .ok (.getfield 24, 3) := by decide +kernel
theorem dX9_setClass_4 : decode cX9_setClass 4 = .ok (.iload_n 1, 1) := by decide +kernel
theorem dX9_setClass_5 : decode cX9_setClass 5 = .ok (.iload_n 2, 1) := by decide +kernel
theorem dX9_setClass_6 : decode cX9_setClass 6 = .ok (.iastore, 1) := by decide +kernel
theorem dX9_setClass_7 : decode cX9_setClass 7 = .ok (.iconst 0, 1) := by decide +kernel
theorem dX9_setClass_8 : decode cX9_setClass 8 = .ok (.istore_n 3, 1) := by decide +kernel
theorem dX9_setClass_9 : decode cX9_setClass 9 = .ok (.iload_n 3, 1) := by decide +kernel
theorem dX9_setClass_10 : decode cX9_setClass 10 = .ok (.aload_n 0, 1) := by decide +kernel
theorem dX9_setClass_11 : decode cX9_setClass 11 = .ok (.getfield 17, 3) := by decide +kernel
theorem dX9_setClass_14 : decode cX9_setClass 14 = .ok (.if_icmp .ge 22, 3) := by decide +kernel
theorem dX9_setClass_17 : decode cX9_setClass 17 = .ok (.aload_n 0, 1) := by decide +kernel
theorem dX9_setClass_18 : decode cX9_setClass 18 = .ok (.getfield 11, 3) := by decide +kernel
theorem dX9_setClass_21 : decode cX9_setClass 21 = .ok (.iload_n 3, 1) := by decide +kernel
theorem dX9_setClass_22 : decode cX9_setClass 22 = .ok (.aaload, 1) := by decide +kernel
theorem dX9_setClass_23 : decode cX9_setClass 23 = .ok (.aload_n 0, 1) := by decide +kernel
theorem dX9_setClass_24 : decode cX9_setClass 24 = .ok (.getfield 24, 3) := by decide +kernel
theorem dX9_setClass_27 : decode cX9_setClass 27 = .ok (.invokevirtual 39, 3) := by decide +kernel
theorem dX9_setClass_30 : decode cX9_setClass 30 = .ok (.iinc 3 1, 3) := by decide +kernel
theorem dX9_setClass_33 : decode cX9_setClass 33 = .ok (.goto (-24), 3) := by decide +kernel
theorem dX9_setClass_36 : decode cX9_setClass 36 = .ok (.aload_n 0, 1) := by decide +kernel
theorem dX9_setClass_37 : decode cX9_setClass 37 = .ok (.invokevirtual 43, 3) := by decide +kernel
theorem dX9_setClass_40 : decode cX9_setClass 40 = .ok (.return_, 1) := by decide +kernel
theorem dX9_forgetCourses_0 : decode cX9_forgetCourses 0 = .ok (.aload_n 0, 1) := by decide +kernel
theorem dX9_forgetCourses_1 : decode cX9_forgetCourses 1 = .ok (.getfield 28, 3) := by decide +kernel
theorem dX9_forgetCourses_4 : decode cX9_forgetCourses 4 = .ok (.bipush 6, 2) := by decide +kernel
theorem dX9_forgetCourses_6 : decode cX9_forgetCourses 6 = .ok (.imul, 1) := by decide +kernel
theorem dX9_forgetCourses_7 : decode cX9_forgetCourses 7 = .ok (.istore_n 1, 1) := by decide +kernel
theorem dX9_forgetCourses_8 : decode cX9_forgetCourses 8 = .ok (.iconst 0, 1) := by decide +kernel
theorem dX9_forgetCourses_9 : decode cX9_forgetCourses 9 = .ok (.istore_n 2, 1) := by decide +kernel
theorem dX9_forgetCourses_10 : decode cX9_forgetCourses 10 = .ok (.iload_n 2, 1) := by decide +kernel
theorem dX9_forgetCourses_11 : decode cX9_forgetCourses 11 = .ok (.iload_n 1, 1) := by decide +kernel
theorem dX9_forgetCourses_12 : decode cX9_forgetCourses 12 = .ok (.if_icmp .ge 16, 3) := by decide +kernel
theorem dX9_forgetCourses_15 : decode cX9_forgetCourses 15 = .ok (.aload_n 0, 1) := by decide +kernel
theorem dX9_forgetCourses_16 : decode cX9_forgetCourses 16 = .ok (.getfield 31, 3) := by decide +kernel
theorem dX9_forgetCourses_19 : decode cX9_forgetCourses 19 = .ok (.iload_n 2, 1) := by decide +kernel
theorem dX9_forgetCourses_20 : decode cX9_forgetCourses 20 = .ok (.iconst 0, 1) := by decide +kernel
theorem dX9_forgetCourses_21 : decode cX9_forgetCourses 21 = .ok (.iastore, 1) := by decide +kernel
theorem dX9_forgetCourses_22 : decode cX9_forgetCourses 22 = .ok (.iinc 2 1, 3) := by decide +kernel
theorem dX9_forgetCourses_25 : decode cX9_forgetCourses 25 = .ok (.goto (-15), 3) := by decide +kernel
theorem dX9_forgetCourses_28 : decode cX9_forgetCourses 28 = .ok (.aload_n 0, 1) := by decide +kernel
theorem dX9_forgetCourses_29 : decode cX9_forgetCourses 29 = .ok (.iconst 1, 1) := by decide +kernel
theorem dX9_forgetCourses_30 : decode cX9_forgetCourses 30 = .ok (.putfield 28, 3) := by decide +kernel
theorem dX9_forgetCourses_33 : decode cX9_forgetCourses 33 = .ok (.return_, 1) := by decide +kernel
theorem dX9_addWord_0 : decode cX9_addWord 0 = .ok (.aload_n 0, 1) := by decide +kernel
theorem dX9_addWord_1 : decode cX9_addWord 1 = .ok (.getfield 21, 3) := by decide +kernel
theorem dX9_addWord_4 : decode cX9_addWord 4 = .ok (.istore_n 3, 1) := by decide +kernel
theorem dX9_addWord_5 : decode cX9_addWord 5 = .ok (.aload_n 0, 1) := by decide +kernel
theorem dX9_addWord_6 : decode cX9_addWord 6 = .ok (.getfield 34, 3) := by decide +kernel
theorem dX9_addWord_9 : decode cX9_addWord 9 = .ok (.iconst 0, 1) := by decide +kernel
theorem dX9_addWord_10 : decode cX9_addWord 10 = .ok (.iload_n 3, 1) := by decide +kernel
theorem dX9_addWord_11 : decode cX9_addWord 11 = .ok (.iadd, 1) := by decide +kernel
theorem dX9_addWord_12 : decode cX9_addWord 12 = .ok (.lload_n 1, 1) := by decide +kernel
theorem dX9_addWord_13 : decode cX9_addWord 13 = .ok (.lastore, 1) := by decide +kernel
theorem dX9_addWord_14 : decode cX9_addWord 14 = .ok (.aload_n 0, 1) := by decide +kernel
theorem dX9_addWord_15 : decode cX9_addWord 15 = .ok (.dup, 1) := by decide +kernel
theorem dX9_addWord_16 : decode cX9_addWord 16 = .ok (.getfield 21, 3) := by decide +kernel
theorem dX9_addWord_19 : decode cX9_addWord 19 = .ok (.iconst 1, 1) := by decide +kernel
theorem dX9_addWord_20 : decode cX9_addWord 20 = .ok (.iadd, 1) := by decide +kernel
theorem dX9_addWord_21 : decode cX9_addWord 21 = .ok (.putfield 21, 3) := by decide +kernel
theorem dX9_addWord_24 : decode cX9_addWord 24 = .ok (.aload_n 0, 1) := by decide +kernel
theorem dX9_addWord_25 : decode cX9_addWord 25 = .ok (.invokevirtual 43, 3) := by decide +kernel
theorem dX9_addWord_28 : decode cX9_addWord 28 = .ok (.iload_n 3, 1) := by decide +kernel
theorem dX9_addWord_29 : decode cX9_addWord 29 = .ok (.ireturn, 1) := by decide +kernel
theorem dX9_addLaw_0 : decode cX9_addLaw 0 = .ok (.aload_n 0, 1) := by decide +kernel
theorem dX9_addLaw_1 : decode cX9_addLaw 1 = .ok (.getfield 17, 3) := by decide +kernel
theorem dX9_addLaw_4 : decode cX9_addLaw 4 = .ok (.istore_n 1, 1) := by decide +kernel
theorem dX9_addLaw_5 : decode cX9_addLaw 5 = .ok (.aload_n 0, 1) := by decide +kernel
theorem dX9_addLaw_6 : decode cX9_addLaw 6 = .ok (.getfield 11, 3) := by decide +kernel
theorem dX9_addLaw_9 : decode cX9_addLaw 9 = .ok (.iload_n 1, 1) := by decide +kernel
theorem dX9_addLaw_10 : decode cX9_addLaw 10 = .ok (.aaload, 1) := by decide +kernel
theorem dX9_addLaw_11 : decode cX9_addLaw 11 = .ok (.aload_n 0, 1) := by decide +kernel
theorem dX9_addLaw_12 : decode cX9_addLaw 12 = .ok (.getfield 24, 3) := by decide +kernel
theorem dX9_addLaw_15 : decode cX9_addLaw 15 = .ok (.invokevirtual 39, 3) := by decide +kernel
theorem dX9_addLaw_18 : decode cX9_addLaw 18 = .ok (.aload_n 0, 1) := by decide +kernel
theorem dX9_addLaw_19 : decode cX9_addLaw 19 = .ok (.dup, 1) := by decide +kernel
theorem dX9_addLaw_20 : decode cX9_addLaw 20 = .ok (.getfield 17, 3) := by decide +kernel
theorem dX9_addLaw_23 : decode cX9_addLaw 23 = .ok (.iconst 1, 1) := by decide +kernel
theorem dX9_addLaw_24 : decode cX9_addLaw 24 = .ok (.iadd, 1) := by decide +kernel
theorem dX9_addLaw_25 : decode cX9_addLaw 25 = .ok (.putfield 17, 3) := by decide +kernel
theorem dX9_addLaw_28 : decode cX9_addLaw 28 = .ok (.iload_n 1, 1) := by decide +kernel
theorem dX9_addLaw_29 : decode cX9_addLaw 29 = .ok (.ireturn, 1) := by decide +kernel
theorem dX9_courseAfter_0 : decode cX9_courseAfter 0 = .ok (.iload_n 1, 1) := by decide +kernel
theorem dX9_courseAfter_1 : decode cX9_courseAfter 1 = .ok (.bipush 6, 2) := by decide +kernel
theorem dX9_courseAfter_3 : decode cX9_courseAfter 3 = .ok (.imul, 1) := by decide +kernel
theorem dX9_courseAfter_4 : decode cX9_courseAfter 4 = .ok (.iload_n 2, 1) := by decide +kernel
theorem dX9_courseAfter_5 : decode cX9_courseAfter 5 = .ok (.iadd, 1) := by decide +kernel
theorem dX9_courseAfter_6 : decode cX9_courseAfter 6 = .ok (.istore_n 3, 1) := by decide +kernel
theorem dX9_courseAfter_7 : decode cX9_courseAfter 7 = .ok (.aload_n 0, 1) := by decide +kernel
theorem dX9_courseAfter_8 : decode cX9_courseAfter 8 = .ok (.getfield 31, 3) := by decide +kernel
theorem dX9_courseAfter_11 : decode cX9_courseAfter 11 = .ok (.iload_n 3, 1) := by decide +kernel
theorem dX9_courseAfter_12 : decode cX9_courseAfter 12 = .ok (.iaload, 1) := by decide +kernel
theorem dX9_courseAfter_13 : decode cX9_courseAfter 13 = .ok (.ifCond .ne 81, 3) := by decide +kernel
theorem dX9_courseAfter_16 : decode cX9_courseAfter 16 = .ok (.aload_n 0, 1) := by decide +kernel
theorem dX9_courseAfter_17 : decode cX9_courseAfter 17 = .ok (.invokevirtual 46, 3) := by decide +kernel
theorem dX9_courseAfter_20 : decode cX9_courseAfter 20 = .ok (.iconst 0, 1) := by decide +kernel
theorem dX9_courseAfter_21 : decode cX9_courseAfter 21 = .ok (.istore 4, 2) := by decide +kernel
theorem dX9_courseAfter_23 : decode cX9_courseAfter 23 = .ok (.iload 4, 2) := by decide +kernel
theorem dX9_courseAfter_25 : decode cX9_courseAfter 25 = .ok (.aload_n 0, 1) := by decide +kernel
theorem dX9_courseAfter_26 : decode cX9_courseAfter 26 = .ok (.getfield 21, 3) := by decide +kernel
theorem dX9_courseAfter_29 : decode cX9_courseAfter 29 = .ok (.if_icmp .ge 45, 3) := by decide +kernel
theorem dX9_courseAfter_32 : decode cX9_courseAfter 32 = .ok (.aload_n 0, 1) := by decide +kernel
theorem dX9_courseAfter_33 : decode cX9_courseAfter 33 = .ok (.getfield 34, 3) := by decide +kernel
theorem dX9_courseAfter_36 : decode cX9_courseAfter 36 = .ok (.aload_n 0, 1) := by decide +kernel
theorem dX9_courseAfter_37 : decode cX9_courseAfter 37 = .ok (.getfield 28, 3) := by decide +kernel
theorem dX9_courseAfter_40 : decode cX9_courseAfter 40 = .ok (.bipush 20, 2) := by decide +kernel
theorem dX9_courseAfter_42 : decode cX9_courseAfter 42 = .ok (.imul, 1) := by decide +kernel
theorem dX9_courseAfter_43 : decode cX9_courseAfter 43 = .ok (.iload 4, 2) := by decide +kernel
theorem dX9_courseAfter_45 : decode cX9_courseAfter 45 = .ok (.iadd, 1) := by decide +kernel
theorem dX9_courseAfter_46 : decode cX9_courseAfter 46 = .ok (.aload_n 0, 1) := by decide +kernel
theorem dX9_courseAfter_47 : decode cX9_courseAfter 47 = .ok (.getfield 11, 3) := by decide +kernel
theorem dX9_courseAfter_50 : decode cX9_courseAfter 50 = .ok (.iload_n 2, 1) := by decide +kernel
theorem dX9_courseAfter_51 : decode cX9_courseAfter 51 = .ok (.aaload, 1) := by decide +kernel
theorem dX9_courseAfter_52 : decode cX9_courseAfter 52 = .ok (.aload_n 0, 1) := by decide +kernel
theorem dX9_courseAfter_53 : decode cX9_courseAfter 53 = .ok (.getfield 34, 3) := by decide +kernel
theorem dX9_courseAfter_56 : decode cX9_courseAfter 56 = .ok (.iload_n 1, 1) := by decide +kernel
theorem dX9_courseAfter_57 : decode cX9_courseAfter 57 = .ok (.bipush 20, 2) := by decide +kernel
theorem dX9_courseAfter_59 : decode cX9_courseAfter 59 = .ok (.imul, 1) := by decide +kernel
theorem dX9_courseAfter_60 : decode cX9_courseAfter 60 = .ok (.iload 4, 2) := by decide +kernel
theorem dX9_courseAfter_62 : decode cX9_courseAfter 62 = .ok (.iadd, 1) := by decide +kernel
theorem dX9_courseAfter_63 : decode cX9_courseAfter 63 = .ok (.laload, 1) := by decide +kernel
theorem dX9_courseAfter_64 : decode cX9_courseAfter 64 = .ok (.invokevirtual 49, 3) := by decide +kernel
theorem dX9_courseAfter_67 : decode cX9_courseAfter 67 = .ok (.lastore, 1) := by decide +kernel
theorem dX9_courseAfter_68 : decode cX9_courseAfter 68 = .ok (.iinc 4 1, 3) := by decide +kernel
theorem dX9_courseAfter_71 : decode cX9_courseAfter 71 = .ok (.goto (-48), 3) := by decide +kernel
theorem dX9_courseAfter_74 : decode cX9_courseAfter 74 = .ok (.aload_n 0, 1) := by decide +kernel
theorem dX9_courseAfter_75 : decode cX9_courseAfter 75 = .ok (.getfield 31, 3) := by decide +kernel
theorem dX9_courseAfter_78 : decode cX9_courseAfter 78 = .ok (.iload_n 3, 1) := by decide +kernel
theorem dX9_courseAfter_79 : decode cX9_courseAfter 79 = .ok (.aload_n 0, 1) := by decide +kernel
theorem dX9_courseAfter_80 : decode cX9_courseAfter 80 = .ok (.getfield 28, 3) := by decide +kernel
theorem dX9_courseAfter_83 : decode cX9_courseAfter 83 = .ok (.iastore, 1) := by decide +kernel
theorem dX9_courseAfter_84 : decode cX9_courseAfter 84 = .ok (.aload_n 0, 1) := by decide +kernel
theorem dX9_courseAfter_85 : decode cX9_courseAfter 85 = .ok (.dup, 1) := by decide +kernel
theorem dX9_courseAfter_86 : decode cX9_courseAfter 86 = .ok (.getfield 28, 3) := by decide +kernel
theorem dX9_courseAfter_89 : decode cX9_courseAfter 89 = .ok (.iconst 1, 1) := by decide +kernel
theorem dX9_courseAfter_90 : decode cX9_courseAfter 90 = .ok (.iadd, 1) := by decide +kernel
theorem dX9_courseAfter_91 : decode cX9_courseAfter 91 = .ok (.putfield 28, 3) := by decide +kernel
theorem dX9_courseAfter_94 : decode cX9_courseAfter 94 = .ok (.aload_n 0, 1) := by decide +kernel
theorem dX9_courseAfter_95 : decode cX9_courseAfter 95 = .ok (.getfield 31, 3) := by decide +kernel
theorem dX9_courseAfter_98 : decode cX9_courseAfter 98 = .ok (.iload_n 3, 1) := by decide +kernel
theorem dX9_courseAfter_99 : decode cX9_courseAfter 99 = .ok (.iaload, 1) := by decide +kernel
theorem dX9_courseAfter_100 : decode cX9_courseAfter 100 = .ok (.ireturn, 1) := by decide +kernel
theorem dX9_makeRoom_0 : decode cX9_makeRoom 0 = .ok (.aload_n 0, 1) := by decide +kernel
theorem dX9_makeRoom_1 : decode cX9_makeRoom 1 = .ok (.getfield 28, 3) := by decide +kernel
theorem dX9_makeRoom_4 : decode cX9_makeRoom 4 = .ok (.iconst 1, 1) := by decide +kernel
theorem dX9_makeRoom_5 : decode cX9_makeRoom 5 = .ok (.iadd, 1) := by decide +kernel
theorem dX9_makeRoom_6 : decode cX9_makeRoom 6 = .ok (.bipush 6, 2) := by decide +kernel
theorem dX9_makeRoom_8 : decode cX9_makeRoom 8 = .ok (.imul, 1) := by decide +kernel
theorem dX9_makeRoom_9 : decode cX9_makeRoom 9 = .ok (.aload_n 0, 1) := by decide +kernel
theorem dX9_makeRoom_10 : decode cX9_makeRoom 10 = .ok (.getfield 31, 3) := by decide +kernel
theorem dX9_makeRoom_13 : decode cX9_makeRoom 13 = .ok (.arraylength, 1) := by decide +kernel
theorem dX9_makeRoom_14 : decode cX9_makeRoom 14 = .ok (.if_icmp .le 39, 3) := by decide +kernel
theorem dX9_makeRoom_17 : decode cX9_makeRoom 17 = .ok (.aload_n 0, 1) := by decide +kernel
theorem dX9_makeRoom_18 : decode cX9_makeRoom 18 = .ok (.aload_n 0, 1) := by decide +kernel
theorem dX9_makeRoom_19 : decode cX9_makeRoom 19 = .ok (.getfield 31, 3) := by decide +kernel
theorem dX9_makeRoom_22 : decode cX9_makeRoom 22 = .ok (.iconst 2, 1) := by decide +kernel
theorem dX9_makeRoom_23 : decode cX9_makeRoom 23 = .ok (.aload_n 0, 1) := by decide +kernel
theorem dX9_makeRoom_24 : decode cX9_makeRoom 24 = .ok (.getfield 31, 3) := by decide +kernel
theorem dX9_makeRoom_27 : decode cX9_makeRoom 27 = .ok (.arraylength, 1) := by decide +kernel
theorem dX9_makeRoom_28 : decode cX9_makeRoom 28 = .ok (.imul, 1) := by decide +kernel
theorem dX9_makeRoom_29 : decode cX9_makeRoom 29 = .ok (.invokestatic 53, 3) := by decide +kernel
theorem dX9_makeRoom_32 : decode cX9_makeRoom 32 = .ok (.putfield 31, 3) := by decide +kernel
theorem dX9_makeRoom_35 : decode cX9_makeRoom 35 = .ok (.aload_n 0, 1) := by decide +kernel
theorem dX9_makeRoom_36 : decode cX9_makeRoom 36 = .ok (.aload_n 0, 1) := by decide +kernel
theorem dX9_makeRoom_37 : decode cX9_makeRoom 37 = .ok (.getfield 34, 3) := by decide +kernel
theorem dX9_makeRoom_40 : decode cX9_makeRoom 40 = .ok (.iconst 2, 1) := by decide +kernel
theorem dX9_makeRoom_41 : decode cX9_makeRoom 41 = .ok (.aload_n 0, 1) := by decide +kernel
theorem dX9_makeRoom_42 : decode cX9_makeRoom 42 = .ok (.getfield 34, 3) := by decide +kernel
theorem dX9_makeRoom_45 : decode cX9_makeRoom 45 = .ok (.arraylength, 1) := by decide +kernel
theorem dX9_makeRoom_46 : decode cX9_makeRoom 46 = .ok (.imul, 1) := by decide +kernel
theorem dX9_makeRoom_47 : decode cX9_makeRoom 47 = .ok (.invokestatic 59, 3) := by decide +kernel
theorem dX9_makeRoom_50 : decode cX9_makeRoom 50 = .ok (.putfield 34, 3) := by decide +kernel
theorem dX9_makeRoom_53 : decode cX9_makeRoom 53 = .ok (.return_, 1) := by decide +kernel
theorem dX9_formOn_0 : decode cX9_formOn 0 = .ok (.aload_n 0, 1) := by decide +kernel
theorem dX9_formOn_1 : decode cX9_formOn 1 = .ok (.getfield 34, 3) := by decide +kernel
theorem dX9_formOn_4 : decode cX9_formOn 4 = .ok (.iload_n 1, 1) := by decide +kernel
theorem dX9_formOn_5 : decode cX9_formOn 5 = .ok (.bipush 20, 2) := by decide +kernel
theorem dX9_formOn_7 : decode cX9_formOn 7 = .ok (.imul, 1) := by decide +kernel
theorem dX9_formOn_8 : decode cX9_formOn 8 = .ok (.iload_n 2, 1) := by decide +kernel
theorem dX9_formOn_9 : decode cX9_formOn 9 = .ok (.iadd, 1) := by decide +kernel
theorem dX9_formOn_10 : decode cX9_formOn 10 = .ok (.laload, 1) := by decide +kernel
theorem dX9_formOn_11 : decode cX9_formOn 11 = .ok (.lreturn, 1) := by decide +kernel
theorem dX9_tailOn_0 : decode cX9_tailOn 0 = .ok (.aload_n 0, 1) := by decide +kernel
theorem dX9_tailOn_1 : decode cX9_tailOn 1 = .ok (.iload_n 1, 1) := by decide +kernel
theorem dX9_tailOn_2 : decode cX9_tailOn 2 = .ok (.iload_n 2, 1) := by decide +kernel
theorem dX9_tailOn_3 : decode cX9_tailOn 3 = .ok (.invokevirtual 62, 3) := by decide +kernel
theorem dX9_tailOn_6 : decode cX9_tailOn 6 = .ok (.aload_n 0, 1) := by decide +kernel
theorem dX9_tailOn_7 : decode cX9_tailOn 7 = .ok (.invokevirtual 66, 3) := by decide +kernel
theorem dX9_tailOn_10 : decode cX9_tailOn 10 = .ok (.invokestatic 70, 3) := by decide +kernel
theorem dX9_tailOn_13 : decode cX9_tailOn 13 = .ok (.lreturn, 1) := by decide +kernel
theorem dX9_rhymeOn_0 : decode cX9_rhymeOn 0 = .ok (.aload_n 0, 1) := by decide +kernel
theorem dX9_rhymeOn_1 : decode cX9_rhymeOn 1 = .ok (.iload_n 1, 1) := by decide +kernel
theorem dX9_rhymeOn_2 : decode cX9_rhymeOn 2 = .ok (.iload_n 2, 1) := by decide +kernel
theorem dX9_rhymeOn_3 : decode cX9_rhymeOn 3 = .ok (.invokevirtual 76, 3) := by decide +kernel
theorem dX9_rhymeOn_6 : decode cX9_rhymeOn 6 = .ok (.lstore 4, 2) := by decide +kernel
theorem dX9_rhymeOn_8 : decode cX9_rhymeOn 8 = .ok (.lload 4, 2) := by decide +kernel
theorem dX9_rhymeOn_10 : decode cX9_rhymeOn 10 = .ok (.lconst 0, 1) := by decide +kernel
theorem dX9_rhymeOn_11 : decode cX9_rhymeOn 11 = .ok (.lcmp, 1) := by decide +kernel
theorem dX9_rhymeOn_12 : decode cX9_rhymeOn 12 = .ok (.ifCond .eq 19, 3) := by decide +kernel
theorem dX9_rhymeOn_15 : decode cX9_rhymeOn 15 = .ok (.lload 4, 2) := by decide +kernel
theorem dX9_rhymeOn_17 : decode cX9_rhymeOn 17 = .ok (.aload_n 0, 1) := by decide +kernel
theorem dX9_rhymeOn_18 : decode cX9_rhymeOn 18 = .ok (.iload_n 1, 1) := by decide +kernel
theorem dX9_rhymeOn_19 : decode cX9_rhymeOn 19 = .ok (.iload_n 3, 1) := by decide +kernel
theorem dX9_rhymeOn_20 : decode cX9_rhymeOn 20 = .ok (.invokevirtual 76, 3) := by decide +kernel
theorem dX9_rhymeOn_23 : decode cX9_rhymeOn 23 = .ok (.lcmp, 1) := by decide +kernel
theorem dX9_rhymeOn_24 : decode cX9_rhymeOn 24 = .ok (.ifCond .ne 7, 3) := by decide +kernel
theorem dX9_rhymeOn_27 : decode cX9_rhymeOn 27 = .ok (.iconst 1, 1) := by decide +kernel
theorem dX9_rhymeOn_28 : decode cX9_rhymeOn 28 = .ok (.goto 4, 3) := by decide +kernel
theorem dX9_rhymeOn_31 : decode cX9_rhymeOn 31 = .ok (.iconst 0, 1) := by decide +kernel
theorem dX9_rhymeOn_32 : decode cX9_rhymeOn 32 = .ok (.ireturn, 1) := by decide +kernel
theorem dX9_differing_0 : decode cX9_differing 0 = .ok (.iconst 0, 1) := by decide +kernel
theorem dX9_differing_1 : decode cX9_differing 1 = .ok (.istore_n 3, 1) := by decide +kernel
theorem dX9_differing_2 : decode cX9_differing 2 = .ok (.iconst 0, 1) := by decide +kernel
theorem dX9_differing_3 : decode cX9_differing 3 = .ok (.istore 4, 2) := by decide +kernel
theorem dX9_differing_5 : decode cX9_differing 5 = .ok (.iload 4, 2) := by decide +kernel
theorem dX9_differing_7 : decode cX9_differing 7 = .ok (.aload_n 0, 1) := by decide +kernel
theorem dX9_differing_8 : decode cX9_differing 8 = .ok (.getfield 21, 3) := by decide +kernel
theorem dX9_differing_11 : decode cX9_differing 11 = .ok (.if_icmp .ge 38, 3) := by decide +kernel
theorem dX9_differing_14 : decode cX9_differing 14 = .ok (.iload_n 3, 1) := by decide +kernel
theorem dX9_differing_15 : decode cX9_differing 15 = .ok (.aload_n 0, 1) := by decide +kernel
theorem dX9_differing_16 : decode cX9_differing 16 = .ok (.iload_n 1, 1) := by decide +kernel
theorem dX9_differing_17 : decode cX9_differing 17 = .ok (.iload 4, 2) := by decide +kernel
theorem dX9_differing_19 : decode cX9_differing 19 = .ok (.invokevirtual 62, 3) := by decide +kernel
theorem dX9_differing_22 : decode cX9_differing 22 = .ok (.aload_n 0, 1) := by decide +kernel
theorem dX9_differing_23 : decode cX9_differing 23 = .ok (.iload_n 2, 1) := by decide +kernel
theorem dX9_differing_24 : decode cX9_differing 24 = .ok (.iload 4, 2) := by decide +kernel
theorem dX9_differing_26 : decode cX9_differing 26 = .ok (.invokevirtual 62, 3) := by decide +kernel
theorem dX9_differing_29 : decode cX9_differing 29 = .ok (.lcmp, 1) := by decide +kernel
theorem dX9_differing_30 : decode cX9_differing 30 = .ok (.ifCond .eq 10, 3) := by decide +kernel
theorem dX9_differing_33 : decode cX9_differing 33 = .ok (.iconst 1, 1) := by decide +kernel
theorem dX9_differing_34 : decode cX9_differing 34 = .ok (.iload 4, 2) := by decide +kernel
theorem dX9_differing_36 : decode cX9_differing 36 = .ok (.ishl, 1) := by decide +kernel
theorem dX9_differing_37 : decode cX9_differing 37 = .ok (.goto 4, 3) := by decide +kernel
theorem dX9_differing_40 : decode cX9_differing 40 = .ok (.iconst 0, 1) := by decide +kernel
theorem dX9_differing_41 : decode cX9_differing 41 = .ok (.ior, 1) := by decide +kernel
theorem dX9_differing_42 : decode cX9_differing 42 = .ok (.istore_n 3, 1) := by decide +kernel
theorem dX9_differing_43 : decode cX9_differing 43 = .ok (.iinc 4 1, 3) := by decide +kernel
theorem dX9_differing_46 : decode cX9_differing 46 = .ok (.goto (-41), 3) := by decide +kernel
theorem dX9_differing_49 : decode cX9_differing 49 = .ok (.iload_n 3, 1) := by decide +kernel
theorem dX9_differing_50 : decode cX9_differing 50 = .ok (.ireturn, 1) := by decide +kernel
theorem dX9_saidLike_0 : decode cX9_saidLike 0 = .ok (.iconst 0, 1) := by decide +kernel
theorem dX9_saidLike_1 : decode cX9_saidLike 1 = .ok (.istore_n 3, 1) := by decide +kernel
theorem dX9_saidLike_2 : decode cX9_saidLike 2 = .ok (.iconst 0, 1) := by decide +kernel
theorem dX9_saidLike_3 : decode cX9_saidLike 3 = .ok (.istore 4, 2) := by decide +kernel
theorem dX9_saidLike_5 : decode cX9_saidLike 5 = .ok (.iload 4, 2) := by decide +kernel
theorem dX9_saidLike_7 : decode cX9_saidLike 7 = .ok (.aload_n 0, 1) := by decide +kernel
theorem dX9_saidLike_8 : decode cX9_saidLike 8 = .ok (.getfield 21, 3) := by decide +kernel
theorem dX9_saidLike_11 : decode cX9_saidLike 11 = .ok (.if_icmp .ge 37, 3) := by decide +kernel
theorem dX9_saidLike_14 : decode cX9_saidLike 14 = .ok (.iload_n 3, 1) := by decide +kernel
theorem dX9_saidLike_15 : decode cX9_saidLike 15 = .ok (.aload_n 0, 1) := by decide +kernel
theorem dX9_saidLike_16 : decode cX9_saidLike 16 = .ok (.iload_n 1, 1) := by decide +kernel
theorem dX9_saidLike_17 : decode cX9_saidLike 17 = .ok (.iload 4, 2) := by decide +kernel
theorem dX9_saidLike_19 : decode cX9_saidLike 19 = .ok (.invokevirtual 62, 3) := by decide +kernel
theorem dX9_saidLike_22 : decode cX9_saidLike 22 = .ok (.aload_n 0, 1) := by decide +kernel
theorem dX9_saidLike_23 : decode cX9_saidLike 23 = .ok (.iload_n 1, 1) := by decide +kernel
theorem dX9_saidLike_24 : decode cX9_saidLike 24 = .ok (.iload_n 2, 1) := by decide +kernel
theorem dX9_saidLike_25 : decode cX9_saidLike 25 = .ok (.invokevirtual 62, 3) := by decide +kernel
theorem dX9_saidLike_28 : decode cX9_saidLike 28 = .ok (.lcmp, 1) := by decide +kernel
theorem dX9_saidLike_29 : decode cX9_saidLike 29 = .ok (.ifCond .ne 10, 3) := by decide +kernel
theorem dX9_saidLike_32 : decode cX9_saidLike 32 = .ok (.iconst 1, 1) := by decide +kernel
theorem dX9_saidLike_33 : decode cX9_saidLike 33 = .ok (.iload 4, 2) := by decide +kernel
theorem dX9_saidLike_35 : decode cX9_saidLike 35 = .ok (.ishl, 1) := by decide +kernel
theorem dX9_saidLike_36 : decode cX9_saidLike 36 = .ok (.goto 4, 3) := by decide +kernel
theorem dX9_saidLike_39 : decode cX9_saidLike 39 = .ok (.iconst 0, 1) := by decide +kernel
theorem dX9_saidLike_40 : decode cX9_saidLike 40 = .ok (.ior, 1) := by decide +kernel
theorem dX9_saidLike_41 : decode cX9_saidLike 41 = .ok (.istore_n 3, 1) := by decide +kernel
theorem dX9_saidLike_42 : decode cX9_saidLike 42 = .ok (.iinc 4 1, 3) := by decide +kernel
theorem dX9_saidLike_45 : decode cX9_saidLike 45 = .ok (.goto (-40), 3) := by decide +kernel
theorem dX9_saidLike_48 : decode cX9_saidLike 48 = .ok (.iload_n 3, 1) := by decide +kernel
theorem dX9_saidLike_49 : decode cX9_saidLike 49 = .ok (.ireturn, 1) := by decide +kernel
theorem dX10_init_0 : decode cX10_init 0 = .ok (.aload_n 0, 1) := by decide +kernel
theorem dX10_init_1 : decode cX10_init 1 = .ok (.invokespecial 3, 3) := by decide +kernel
theorem dX10_init_4 : decode cX10_init 4 = .ok (.aload_n 0, 1) := by decide +kernel
theorem dX10_init_5 : decode cX10_init 5 = .ok (.sipush 600, 3) := by decide +kernel
theorem dX10_init_8 : decode cX10_init 8 = .ok (.newarray .long, 2) := by decide +kernel
theorem dX10_init_10 : decode cX10_init 10 = .ok (.putfield 9, 3) := by decide +kernel
theorem dX10_init_13 : decode cX10_init 13 = .ok (.aload_n 0, 1) := by decide +kernel
theorem dX10_init_14 : decode cX10_init 14 = .ok (.sipush 600, 3) := by decide +kernel
theorem dX10_init_17 : decode cX10_init 17 = .ok (.newarray .long, 2) := by decide +kernel
theorem dX10_init_19 : decode cX10_init 19 = .ok (.putfield 15, 3) := by decide +kernel
theorem dX10_init_22 : decode cX10_init 22 = .ok (.aload_n 0, 1) := by decide +kernel
theorem dX10_init_23 : decode cX10_init 23 = .ok (.iconst 0, 1) := by decide +kernel
theorem dX10_init_24 : decode cX10_init 24 = .ok (.putfield 18, 3) := by decide +kernel
theorem dX10_init_27 : decode cX10_init 27 = .ok (.return_, 1) := by decide +kernel
theorem dX10_clear_0 : decode cX10_clear 0 = .ok (.aload_n 0, 1) := by decide +kernel
theorem dX10_clear_1 : decode cX10_clear 1 = .ok (.iconst 0, 1) := by decide +kernel
theorem dX10_clear_2 : decode cX10_clear 2 = .ok (.putfield 18, 3) := by decide +kernel
theorem dX10_clear_5 : decode cX10_clear 5 = .ok (.return_, 1) := by decide +kernel
theorem dX10_add_0 : decode cX10_add 0 = .ok (.iconst 0, 1) := by decide +kernel
theorem dX10_add_1 : decode cX10_add 1 = .ok (.istore 5, 2) := by decide +kernel
theorem dX10_add_3 : decode cX10_add 3 = .ok (.iload 5, 2) := by decide +kernel
theorem dX10_add_5 : decode cX10_add 5 = .ok (.aload_n 0, 1) := by decide +kernel
theorem dX10_add_6 : decode cX10_add 6 = .ok (.getfield 18, 3) := by decide +kernel
theorem dX10_add_9 : decode cX10_add 9 = .ok (.if_icmp .ge 21, 3) := by decide +kernel
theorem dX10_add_12 : decode cX10_add 12 = .ok (.aload_n 0, 1) := by decide +kernel
theorem dX10_add_13 : decode cX10_add 13 = .ok (.getfield 9, 3) := by decide +kernel
theorem dX10_add_16 : decode cX10_add 16 = .ok (.iload 5, 2) := by decide +kernel
theorem dX10_add_18 : decode cX10_add 18 = .ok (.laload, 1) := by decide +kernel
theorem dX10_add_19 : decode cX10_add 19 = .ok (.lload_n 1, 1) := by decide +kernel
theorem dX10_add_20 : decode cX10_add 20 = .ok (.lcmp, 1) := by decide +kernel
theorem dX10_add_21 : decode cX10_add 21 = .ok (.ifCond .eq 9, 3) := by decide +kernel
theorem dX10_add_24 : decode cX10_add 24 = .ok (.iinc 5 1, 3) := by decide +kernel
theorem dX10_add_27 : decode cX10_add 27 = .ok (.goto (-24), 3) := by decide +kernel
theorem dX10_add_30 : decode cX10_add 30 = .ok (.iload 5, 2) := by decide +kernel
theorem dX10_add_32 : decode cX10_add 32 = .ok (.aload_n 0, 1) := by decide +kernel
theorem dX10_add_33 : decode cX10_add 33 = .ok (.getfield 18, 3) := by decide +kernel
theorem dX10_add_36 : decode cX10_add 36 = .ok (.if_icmp .ge 17, 3) := by decide +kernel
theorem dX10_add_39 : decode cX10_add 39 = .ok (.aload_n 0, 1) := by decide +kernel
theorem dX10_add_40 : decode cX10_add 40 = .ok (.getfield 15, 3) := by decide +kernel
theorem dX10_add_43 : decode cX10_add 43 = .ok (.iload 5, 2) := by decide +kernel
theorem dX10_add_45 : decode cX10_add 45 = .ok (.dup2, 1) := by decide +kernel
theorem dX10_add_46 : decode cX10_add 46 = .ok (.laload, 1) := by decide +kernel
theorem dX10_add_47 : decode cX10_add 47 = .ok (.lload_n 3, 1) := by decide +kernel
theorem dX10_add_48 : decode cX10_add 48 = .ok (.ladd, 1) := by decide +kernel
theorem dX10_add_49 : decode cX10_add 49 = .ok (.lastore, 1) := by decide +kernel
theorem dX10_add_50 : decode cX10_add 50 = .ok (.goto 43, 3) := by decide +kernel
theorem dX10_add_53 : decode cX10_add 53 = .ok (.aload_n 0, 1) := by decide +kernel
theorem dX10_add_54 : decode cX10_add 54 = .ok (.getfield 18, 3) := by decide +kernel
theorem dX10_add_57 : decode cX10_add 57 = .ok (.sipush 600, 3) := by decide +kernel
theorem dX10_add_60 : decode cX10_add 60 = .ok (.if_icmp .ge 33, 3) := by decide +kernel
theorem dX10_add_63 : decode cX10_add 63 = .ok (.aload_n 0, 1) := by decide +kernel
theorem dX10_add_64 : decode cX10_add 64 = .ok (.getfield 9, 3) := by decide +kernel
theorem dX10_add_67 : decode cX10_add 67 = .ok (.aload_n 0, 1) := by decide +kernel
theorem dX10_add_68 : decode cX10_add 68 = .ok (.getfield 18, 3) := by decide +kernel
theorem dX10_add_71 : decode cX10_add 71 = .ok (.lload_n 1, 1) := by decide +kernel
theorem dX10_add_72 : decode cX10_add 72 = .ok (.lastore, 1) := by decide +kernel
theorem dX10_add_73 : decode cX10_add 73 = .ok (.aload_n 0, 1) := by decide +kernel
theorem dX10_add_74 : decode cX10_add 74 = .ok (.getfield 15, 3) := by decide +kernel
theorem dX10_add_77 : decode cX10_add 77 = .ok (.aload_n 0, 1) := by decide +kernel
theorem dX10_add_78 : decode cX10_add 78 = .ok (.getfield 18, 3) := by decide +kernel
theorem dX10_add_81 : decode cX10_add 81 = .ok (.lload_n 3, 1) := by decide +kernel
theorem dX10_add_82 : decode cX10_add 82 = .ok (.lastore, 1) := by decide +kernel
theorem dX10_add_83 : decode cX10_add 83 = .ok (.aload_n 0, 1) := by decide +kernel
theorem dX10_add_84 : decode cX10_add 84 = .ok (.dup, 1) := by decide +kernel
theorem dX10_add_85 : decode cX10_add 85 = .ok (.getfield 18, 3) := by decide +kernel
theorem dX10_add_88 : decode cX10_add 88 = .ok (.iconst 1, 1) := by decide +kernel
theorem dX10_add_89 : decode cX10_add 89 = .ok (.iadd, 1) := by decide +kernel
theorem dX10_add_90 : decode cX10_add 90 = .ok (.putfield 18, 3) := by decide +kernel
theorem dX10_add_93 : decode cX10_add 93 = .ok (.return_, 1) := by decide +kernel
theorem dX10_heaviest_0 : decode cX10_heaviest 0 = .ok (.iconst 0, 1) := by decide +kernel
theorem dX10_heaviest_1 : decode cX10_heaviest 1 = .ok (.istore_n 1, 1) := by decide +kernel
theorem dX10_heaviest_2 : decode cX10_heaviest 2 = .ok (.iconst 1, 1) := by decide +kernel
theorem dX10_heaviest_3 : decode cX10_heaviest 3 = .ok (.istore_n 2, 1) := by decide +kernel
theorem dX10_heaviest_4 : decode cX10_heaviest 4 = .ok (.iload_n 2, 1) := by decide +kernel
theorem dX10_heaviest_5 : decode cX10_heaviest 5 = .ok (.aload_n 0, 1) := by decide +kernel
theorem dX10_heaviest_6 : decode cX10_heaviest 6 = .ok (.getfield 18, 3) := by decide +kernel
theorem dX10_heaviest_9 : decode cX10_heaviest 9 = .ok (.if_icmp .ge 27, 3) := by decide +kernel
theorem dX10_heaviest_12 : decode cX10_heaviest 12 = .ok (.aload_n 0, 1) := by decide +kernel
theorem dX10_heaviest_13 : decode cX10_heaviest 13 = .ok (.getfield 15, 3) := by decide +kernel
theorem dX10_heaviest_16 : decode cX10_heaviest 16 = .ok (.iload_n 2, 1) := by decide +kernel
theorem dX10_heaviest_17 : decode cX10_heaviest 17 = .ok (.laload, 1) := by decide +kernel
theorem dX10_heaviest_18 : decode cX10_heaviest 18 = .ok (.aload_n 0, 1) := by decide +kernel
theorem dX10_heaviest_19 : decode cX10_heaviest 19 = .ok (.getfield 15, 3) := by decide +kernel
theorem dX10_heaviest_22 : decode cX10_heaviest 22 = .ok (.iload_n 1, 1) := by decide +kernel
theorem dX10_heaviest_23 : decode cX10_heaviest 23 = .ok (.laload, 1) := by decide +kernel
theorem dX10_heaviest_24 : decode cX10_heaviest 24 = .ok (.lcmp, 1) := by decide +kernel
theorem dX10_heaviest_25 : decode cX10_heaviest 25 = .ok (.ifCond .le 5, 3) := by decide +kernel
theorem dX10_heaviest_28 : decode cX10_heaviest 28 = .ok (.iload_n 2, 1) := by decide +kernel
theorem dX10_heaviest_29 : decode cX10_heaviest 29 = .ok (.istore_n 1, 1) := by decide +kernel
theorem dX10_heaviest_30 : decode cX10_heaviest 30 = .ok (.iinc 2 1, 3) := by decide +kernel
theorem dX10_heaviest_33 : decode cX10_heaviest 33 = .ok (.goto (-29), 3) := by decide +kernel
theorem dX10_heaviest_36 : decode cX10_heaviest 36 = .ok (.iload_n 1, 1) := by decide +kernel
theorem dX10_heaviest_37 : decode cX10_heaviest 37 = .ok (.ireturn, 1) := by decide +kernel
theorem dX10_shortest_0 : decode cX10_shortest 0 = .ok (.bipush 8, 2) := by decide +kernel
theorem dX10_shortest_2 : decode cX10_shortest 2 = .ok (.istore_n 1, 1) := by decide +kernel
theorem dX10_shortest_3 : decode cX10_shortest 3 = .ok (.iconst 0, 1) := by decide +kernel
theorem dX10_shortest_4 : decode cX10_shortest 4 = .ok (.istore_n 2, 1) := by decide +kernel
theorem dX10_shortest_5 : decode cX10_shortest 5 = .ok (.iload_n 2, 1) := by decide +kernel
theorem dX10_shortest_6 : decode cX10_shortest 6 = .ok (.aload_n 0, 1) := by decide +kernel
theorem dX10_shortest_7 : decode cX10_shortest 7 = .ok (.getfield 18, 3) := by decide +kernel
theorem dX10_shortest_10 : decode cX10_shortest 10 = .ok (.if_icmp .ge 23, 3) := by decide +kernel
theorem dX10_shortest_13 : decode cX10_shortest 13 = .ok (.iload_n 1, 1) := by decide +kernel
theorem dX10_shortest_14 : decode cX10_shortest 14 = .ok (.aload_n 0, 1) := by decide +kernel
theorem dX10_shortest_15 : decode cX10_shortest 15 = .ok (.getfield 9, 3) := by decide +kernel
theorem dX10_shortest_18 : decode cX10_shortest 18 = .ok (.iload_n 2, 1) := by decide +kernel
theorem dX10_shortest_19 : decode cX10_shortest 19 = .ok (.laload, 1) := by decide +kernel
theorem dX10_shortest_20 : decode cX10_shortest 20 = .ok (.invokestatic 22, 3) := by decide +kernel
theorem dX10_shortest_23 : decode cX10_shortest 23 = .ok (.invokestatic 28, 3) := by decide +kernel
theorem dX10_shortest_26 : decode cX10_shortest 26 = .ok (.istore_n 1, 1) := by decide +kernel
theorem dX10_shortest_27 : decode cX10_shortest 27 = .ok (.iinc 2 1, 3) := by decide +kernel
theorem dX10_shortest_30 : decode cX10_shortest 30 = .ok (.goto (-25), 3) := by decide +kernel
theorem dX10_shortest_33 : decode cX10_shortest 33 = .ok (.iload_n 1, 1) := by decide +kernel
theorem dX10_shortest_34 : decode cX10_shortest 34 = .ok (.ireturn, 1) := by decide +kernel
theorem dX10_longest_0 : decode cX10_longest 0 = .ok (.iconst 0, 1) := by decide +kernel
theorem dX10_longest_1 : decode cX10_longest 1 = .ok (.istore_n 1, 1) := by decide +kernel
theorem dX10_longest_2 : decode cX10_longest 2 = .ok (.iconst 0, 1) := by decide +kernel
theorem dX10_longest_3 : decode cX10_longest 3 = .ok (.istore_n 2, 1) := by decide +kernel
theorem dX10_longest_4 : decode cX10_longest 4 = .ok (.iload_n 2, 1) := by decide +kernel
theorem dX10_longest_5 : decode cX10_longest 5 = .ok (.aload_n 0, 1) := by decide +kernel
theorem dX10_longest_6 : decode cX10_longest 6 = .ok (.getfield 18, 3) := by decide +kernel
theorem dX10_longest_9 : decode cX10_longest 9 = .ok (.if_icmp .ge 23, 3) := by decide +kernel
theorem dX10_longest_12 : decode cX10_longest 12 = .ok (.iload_n 1, 1) := by decide +kernel
theorem dX10_longest_13 : decode cX10_longest 13 = .ok (.aload_n 0, 1) := by decide +kernel
theorem dX10_longest_14 : decode cX10_longest 14 = .ok (.getfield 9, 3) := by decide +kernel
theorem dX10_longest_17 : decode cX10_longest 17 = .ok (.iload_n 2, 1) := by decide +kernel
theorem dX10_longest_18 : decode cX10_longest 18 = .ok (.laload, 1) := by decide +kernel
theorem dX10_longest_19 : decode cX10_longest 19 = .ok (.invokestatic 22, 3) := by decide +kernel
theorem dX10_longest_22 : decode cX10_longest 22 = .ok (.invokestatic 34, 3) := by decide +kernel
theorem dX10_longest_25 : decode cX10_longest 25 = .ok (.istore_n 1, 1) := by decide +kernel
theorem dX10_longest_26 : decode cX10_longest 26 = .ok (.iinc 2 1, 3) := by decide +kernel
theorem dX10_longest_29 : decode cX10_longest 29 = .ok (.goto (-25), 3) := by decide +kernel
theorem dX10_longest_32 : decode cX10_longest 32 = .ok (.iload_n 1, 1) := by decide +kernel
theorem dX10_longest_33 : decode cX10_longest 33 = .ok (.ireturn, 1) := by decide +kernel
theorem dX11_init_0 : decode cX11_init 0 = .ok (.aload_n 0, 1) := by decide +kernel
theorem dX11_init_1 : decode cX11_init 1 = .ok (.invokespecial 1, 3) := by decide +kernel
theorem dX11_init_4 : decode cX11_init 4 = .ok (.aload_n 0, 1) := by decide +kernel
theorem dX11_init_5 : decode cX11_init 5 = .ok (.new 7, 3) := by decide +kernel
theorem dX11_init_8 : decode cX11_init 8 = .ok (.dup, 1) := by decide +kernel
theorem dX11_init_9 : decode cX11_init 9 = .ok (.invokespecial 9, 3) := by decide +kernel
theorem dX11_init_12 : decode cX11_init 12 = .ok (.putfield 10, 3) := by decide +kernel
theorem dX11_init_15 : decode cX11_init 15 = .ok (.aload_n 0, 1) := by decide +kernel
theorem dX11_init_16 : decode cX11_init 16 = .ok (.new 16, 3) := by decide +kernel
theorem dX11_init_19 : decode cX11_init 19 = .ok (.dup, 1) := by decide +kernel
theorem dX11_init_20 : decode cX11_init 20 = .ok (.invokespecial 18, 3) := by decide +kernel
theorem dX11_init_23 : decode cX11_init 23 = .ok (.putfield 19, 3) := by decide +kernel
theorem dX11_init_26 : decode cX11_init 26 = .ok (.aload_n 0, 1) := by decide +kernel
theorem dX11_init_27 : decode cX11_init 27 = .ok (.new 23, 3) := by decide +kernel
theorem dX11_init_30 : decode cX11_init 30 = .ok (.dup, 1) := by decide +kernel
theorem dX11_init_31 : decode cX11_init 31 = .ok (.invokespecial 25, 3) := by decide +kernel
theorem dX11_init_34 : decode cX11_init 34 = .ok (.putfield 26, 3) := by decide +kernel
theorem dX11_init_37 : decode cX11_init 37 = .ok (.aload_n 0, 1) := by decide +kernel
theorem dX11_init_38 : decode cX11_init 38 = .ok (.new 30, 3) := by decide +kernel
theorem dX11_init_41 : decode cX11_init 41 = .ok (.dup, 1) := by decide +kernel
theorem dX11_init_42 : decode cX11_init 42 = .ok (.aload_n 0, 1) := by decide +kernel
theorem dX11_init_43 : decode cX11_init 43 = .ok (.getfield 26, 3) := by decide +kernel
theorem dX11_init_46 : decode cX11_init 46 = .ok (.invokespecial 32, 3) := by decide +kernel
theorem dX11_init_49 : decode cX11_init 49 = .ok (.putfield 35, 3) := by decide +kernel
theorem dX11_init_52 : decode cX11_init 52 = .ok (.aload_n 0, 1) := by decide +kernel
theorem dX11_init_53 : decode cX11_init 53 = .ok (.new 39, 3) := by decide +kernel
theorem dX11_init_56 : decode cX11_init 56 = .ok (.dup, 1) := by decide +kernel
theorem dX11_init_57 : decode cX11_init 57 = .ok (.aload_n 0, 1) := by decide +kernel
theorem dX11_init_58 : decode cX11_init 58 = .ok (.getfield 26, 3) := by decide +kernel
theorem dX11_init_61 : decode cX11_init 61 = .ok (.aload_n 0, 1) := by decide +kernel
theorem dX11_init_62 : decode cX11_init 62 = .ok (.getfield 35, 3) := by decide +kernel
theorem dX11_init_65 : decode cX11_init 65 = .ok (.invokespecial 41, 3) := by decide +kernel
theorem dX11_init_68 : decode cX11_init 68 = .ok (.putfield 44, 3) := by decide +kernel
theorem dX11_init_71 : decode cX11_init 71 = .ok (.aload_n 0, 1) := by decide +kernel
theorem dX11_init_72 : decode cX11_init 72 = .ok (.new 48, 3) := by decide +kernel
theorem dX11_init_75 : decode cX11_init 75 = .ok (.dup, 1) := by decide +kernel
theorem dX11_init_76 : decode cX11_init 76 = .ok (.invokespecial 50, 3) := by decide +kernel
theorem dX11_init_79 : decode cX11_init 79 = .ok (.putfield 51, 3) := by decide +kernel
theorem dX11_init_82 : decode cX11_init 82 = .ok (.aload_n 0, 1) := by decide +kernel
theorem dX11_init_83 : decode cX11_init 83 = .ok (.new 55, 3) := by decide +kernel
theorem dX11_init_86 : decode cX11_init 86 = .ok (.dup, 1) := by decide +kernel
theorem dX11_init_87 : decode cX11_init 87 = .ok (.invokespecial 57, 3) := by decide +kernel
theorem dX11_init_90 : decode cX11_init 90 = .ok (.putfield 58, 3) := by decide +kernel
theorem dX11_init_93 : decode cX11_init 93 = .ok (.aload_n 0, 1) := by decide +kernel
theorem dX11_init_94 : decode cX11_init 94 = .ok (.new 62, 3) := by decide +kernel
theorem dX11_init_97 : decode cX11_init 97 = .ok (.dup, 1) := by decide +kernel
theorem dX11_init_98 : decode cX11_init 98 = .ok (.invokespecial 64, 3) := by decide +kernel
theorem dX11_init_101 : decode cX11_init 101 = .ok (.putfield 65, 3) := by decide +kernel
theorem dX11_init_104 : decode cX11_init 104 = .ok (.aload_n 0, 1) := by decide +kernel
theorem dX11_init_105 : decode cX11_init 105 = .ok (.iconst 3, 1) := by decide +kernel
theorem dX11_init_106 : decode cX11_init 106 = .ok (.anewarray 69, 3) := by decide +kernel
theorem dX11_init_109 : decode cX11_init 109 = .ok (.putfield 71, 3) := by decide +kernel
theorem dX11_init_112 : decode cX11_init 112 = .ok (.aload_n 0, 1) := by decide +kernel
theorem dX11_init_113 : decode cX11_init 113 = .ok (.sipush 600, 3) := by decide +kernel
theorem dX11_init_116 : decode cX11_init 116 = .ok (.newarray .int, 2) := by decide +kernel
theorem dX11_init_118 : decode cX11_init 118 = .ok (.putfield 75, 3) := by decide +kernel
theorem dX11_init_121 : decode cX11_init 121 = .ok (.aload_n 0, 1) := by decide +kernel
theorem dX11_init_122 : decode cX11_init 122 = .ok (.sipush 600, 3) := by decide +kernel
theorem dX11_init_125 : decode cX11_init 125 = .ok (.newarray .long, 2) := by decide +kernel
theorem dX11_init_127 : decode cX11_init 127 = .ok (.putfield 79, 3) := by decide +kernel
theorem dX11_init_130 : decode cX11_init 130 = .ok (.aload_n 0, 1) := by decide +kernel
theorem dX11_init_131 : decode cX11_init 131 = .ok (.bipush 20, 2) := by decide +kernel
theorem dX11_init_133 : decode cX11_init 133 = .ok (.newarray .long, 2) := by decide +kernel
theorem dX11_init_135 : decode cX11_init 135 = .ok (.putfield 83, 3) := by decide +kernel
theorem dX11_init_138 : decode cX11_init 138 = .ok (.aload_n 0, 1) := by decide +kernel
theorem dX11_init_139 : decode cX11_init 139 = .ok (.sipush 400, 3) := by decide +kernel
theorem dX11_init_142 : decode cX11_init 142 = .ok (.newarray .int, 2) := by decide +kernel
theorem dX11_init_144 : decode cX11_init 144 = .ok (.putfield 86, 3) := by decide +kernel
theorem dX11_init_147 : decode cX11_init 147 = .ok (.iconst 0, 1) := by decide +kernel
theorem dX11_init_148 : decode cX11_init 148 = .ok (.istore_n 1, 1) := by decide +kernel
theorem dX11_init_149 : decode cX11_init 149 = .ok (.iload_n 1, 1) := by decide +kernel
theorem dX11_init_150 : decode cX11_init 150 = .ok (.iconst 3, 1) := by decide +kernel
theorem dX11_init_151 : decode cX11_init 151 = .ok (.if_icmp .ge 22, 3) := by decide +kernel
theorem dX11_init_154 : decode cX11_init 154 = .ok (.aload_n 0, 1) := by decide +kernel
theorem dX11_init_155 : decode cX11_init 155 = .ok (.getfield 71, 3) := by decide +kernel
theorem dX11_init_158 : decode cX11_init 158 = .ok (.iload_n 1, 1) := by decide +kernel
theorem dX11_init_159 : decode cX11_init 159 = .ok (.new 69, 3) := by decide +kernel
theorem dX11_init_162 : decode cX11_init 162 = .ok (.dup, 1) := by decide +kernel
theorem dX11_init_163 : decode cX11_init 163 = .ok (.invokespecial 89, 3) := by decide +kernel
theorem dX11_init_166 : decode cX11_init 166 = .ok (.aastore, 1) := by decide +kernel
theorem dX11_init_167 : decode cX11_init 167 = .ok (.iinc 1 1, 3) := by decide +kernel
theorem dX11_init_170 : decode cX11_init 170 = .ok (.goto (-21), 3) := by decide +kernel
theorem dX11_init_173 : decode cX11_init 173 = .ok (.return_, 1) := by decide +kernel
theorem dX11_sign_0 : decode cX11_sign 0 = .ok (.aload_n 0, 1) := by decide +kernel
theorem dX11_sign_1 : decode cX11_sign 1 = .ok (.getfield 10, 3) := by decide +kernel
theorem dX11_sign_4 : decode cX11_sign 4 = .ok (.iload_n 1, 1) := by decide +kernel
theorem dX11_sign_5 : decode cX11_sign 5 = .ok (.invokevirtual 90, 3) := by decide +kernel
theorem dX11_sign_8 : decode cX11_sign 8 = .ok (.ifCond .eq 13, 3) := by decide +kernel
theorem dX11_sign_11 : decode cX11_sign 11 = .ok (.aload_n 0, 1) := by decide +kernel
theorem dX11_sign_12 : decode cX11_sign 12 = .ok (.getfield 10, 3) := by decide +kernel
theorem dX11_sign_15 : decode cX11_sign 15 = .ok (.getfield 94, 3) := by decide +kernel
theorem dX11_sign_18 : decode cX11_sign 18 = .ok (.goto 4, 3) := by decide +kernel
theorem dX11_sign_21 : decode cX11_sign 21 = .ok (.iconst (-1), 1) := by decide +kernel
theorem dX11_sign_22 : decode cX11_sign 22 = .ok (.ireturn, 1) := by decide +kernel
theorem dX11_end_0 : decode cX11_end 0 = .ok (.aload_n 0, 1) := by decide +kernel
theorem dX11_end_1 : decode cX11_end 1 = .ok (.getfield 10, 3) := by decide +kernel
theorem dX11_end_4 : decode cX11_end 4 = .ok (.iload_n 1, 1) := by decide +kernel
theorem dX11_end_5 : decode cX11_end 5 = .ok (.invokevirtual 98, 3) := by decide +kernel
theorem dX11_end_8 : decode cX11_end 8 = .ok (.ireturn, 1) := by decide +kernel
theorem dX11_group_0 : decode cX11_group 0 = .ok (.iload_n 1, 1) := by decide +kernel
theorem dX11_group_1 : decode cX11_group 1 = .ok (.bipush 6, 2) := by decide +kernel
theorem dX11_group_3 : decode cX11_group 3 = .ok (.invokestatic 101, 3) := by decide +kernel
theorem dX11_group_6 : decode cX11_group 6 = .ok (.ifCond .eq 13, 3) := by decide +kernel
theorem dX11_group_9 : decode cX11_group 9 = .ok (.iload_n 2, 1) := by decide +kernel
theorem dX11_group_10 : decode cX11_group 10 = .ok (.ifCond .lt 9, 3) := by decide +kernel
theorem dX11_group_13 : decode cX11_group 13 = .ok (.iload_n 2, 1) := by decide +kernel
theorem dX11_group_14 : decode cX11_group 14 = .ok (.ldc 105, 2) := by decide +kernel
theorem dX11_group_16 : decode cX11_group 16 = .ok (.if_icmp .le 5, 3) := by decide +kernel
theorem dX11_group_19 : decode cX11_group 19 = .ok (.iconst (-1), 1) := by decide +kernel
theorem dX11_group_20 : decode cX11_group 20 = .ok (.ireturn, 1) := by decide +kernel
theorem dX11_group_21 : decode cX11_group 21 = .ok (.aload_n 0, 1) := by decide +kernel
theorem dX11_group_22 : decode cX11_group 22 = .ok (.getfield 26, 3) := by decide +kernel
theorem dX11_group_25 : decode cX11_group 25 = .ok (.getfield 106, 3) := by decide +kernel
theorem dX11_group_28 : decode cX11_group 28 = .ok (.iload_n 1, 1) := by decide +kernel
theorem dX11_group_29 : decode cX11_group 29 = .ok (.iaload, 1) := by decide +kernel
theorem dX11_group_30 : decode cX11_group 30 = .ok (.istore_n 3, 1) := by decide +kernel
theorem dX11_group_31 : decode cX11_group 31 = .ok (.aload_n 0, 1) := by decide +kernel
theorem dX11_group_32 : decode cX11_group 32 = .ok (.getfield 26, 3) := by decide +kernel
theorem dX11_group_35 : decode cX11_group 35 = .ok (.iload_n 1, 1) := by decide +kernel
theorem dX11_group_36 : decode cX11_group 36 = .ok (.iload_n 2, 1) := by decide +kernel
theorem dX11_group_37 : decode cX11_group 37 = .ok (.invokevirtual 109, 3) := by decide +kernel
theorem dX11_group_40 : decode cX11_group 40 = .ok (.aload_n 0, 1) := by decide +kernel
theorem dX11_group_41 : decode cX11_group 41 = .ok (.getfield 44, 3) := by decide +kernel
theorem dX11_group_44 : decode cX11_group 44 = .ok (.invokevirtual 113, 3) := by decide +kernel
theorem dX11_group_47 : decode cX11_group 47 = .ok (.iload_n 3, 1) := by decide +kernel
theorem dX11_group_48 : decode cX11_group 48 = .ok (.ireturn, 1) := by decide +kernel
theorem dX11_word_0 : decode cX11_word 0 = .ok (.aload_n 0, 1) := by decide +kernel
theorem dX11_word_1 : decode cX11_word 1 = .ok (.getfield 26, 3) := by decide +kernel
theorem dX11_word_4 : decode cX11_word 4 = .ok (.getfield 116, 3) := by decide +kernel
theorem dX11_word_7 : decode cX11_word 7 = .ok (.bipush 20, 2) := by decide +kernel
theorem dX11_word_9 : decode cX11_word 9 = .ok (.if_icmp .lt 8, 3) := by decide +kernel
theorem dX11_word_12 : decode cX11_word 12 = .ok (.bipush (-100), 2) := by decide +kernel
theorem dX11_word_14 : decode cX11_word 14 = .ok (.goto 7, 3) := by decide +kernel
theorem dX11_word_17 : decode cX11_word 17 = .ok (.aload_n 0, 1) := by decide +kernel
theorem dX11_word_18 : decode cX11_word 18 = .ok (.invokevirtual 119, 3) := by decide +kernel
theorem dX11_word_21 : decode cX11_word 21 = .ok (.istore_n 1, 1) := by decide +kernel
theorem dX11_word_22 : decode cX11_word 22 = .ok (.aload_n 0, 1) := by decide +kernel
theorem dX11_word_23 : decode cX11_word 23 = .ok (.getfield 10, 3) := by decide +kernel
theorem dX11_word_26 : decode cX11_word 26 = .ok (.iconst 0, 1) := by decide +kernel
theorem dX11_word_27 : decode cX11_word 27 = .ok (.invokevirtual 98, 3) := by decide +kernel
theorem dX11_word_30 : decode cX11_word 30 = .ok (.pop, 1) := by decide +kernel
theorem dX11_word_31 : decode cX11_word 31 = .ok (.iload_n 1, 1) := by decide +kernel
theorem dX11_word_32 : decode cX11_word 32 = .ok (.ireturn, 1) := by decide +kernel
theorem dX11_wordFromText_0 : decode cX11_wordFromText 0 = .ok (.aload_n 0, 1) := by decide +kernel
theorem dX11_wordFromText_1 : decode cX11_wordFromText 1 = .ok (.getfield 10, 3) := by decide +kernel
theorem dX11_wordFromText_4 : decode cX11_wordFromText 4 = .ok (.invokevirtual 123, 3) := by decide +kernel
theorem dX11_wordFromText_7 : decode cX11_wordFromText 7 = .ok (.istore_n 1, 1) := by decide +kernel
theorem dX11_wordFromText_8 : decode cX11_wordFromText 8 = .ok (.iload_n 1, 1) := by decide +kernel
theorem dX11_wordFromText_9 : decode cX11_wordFromText 9 = .ok (.iconst (-1), 1) := by decide +kernel
theorem dX11_wordFromText_10 : decode cX11_wordFromText 10 = .ok (.if_icmp .ne 20, 3) := by decide +kernel
theorem dX11_wordFromText_13 : decode cX11_wordFromText 13 = .ok (.aload_n 0, 1) := by decide +kernel
theorem dX11_wordFromText_14 : decode cX11_wordFromText 14 = .ok (.getfield 26, 3) := by decide +kernel
theorem dX11_wordFromText_17 : decode cX11_wordFromText 17 = .ok (.aload_n 0, 1) := by decide +kernel
theorem dX11_wordFromText_18 : decode cX11_wordFromText 18 = .ok (.getfield 10, 3) := by decide +kernel
theorem dX11_wordFromText_21 : decode cX11_wordFromText 21 = .ok (.invokevirtual 126, 3) := by decide +kernel
theorem dX11_wordFromText_24 : decode cX11_wordFromText 24 = .ok (.invokevirtual 130, 3) := by decide +kernel
theorem dX11_wordFromText_27 : decode cX11_wordFromText 27 = .ok (.goto 6, 3) := by decide +kernel
theorem dX11_wordFromText_30 : decode cX11_wordFromText 30 = .ok (.iconst (-1), 1) := by decide +kernel
theorem dX11_wordFromText_31 : decode cX11_wordFromText 31 = .ok (.iload_n 1, 1) := by decide +kernel
theorem dX11_wordFromText_32 : decode cX11_wordFromText 32 = .ok (.isub, 1) := by decide +kernel
theorem dX11_wordFromText_33 : decode cX11_wordFromText 33 = .ok (.ireturn, 1) := by decide +kernel
theorem dX11_law_0 : decode cX11_law 0 = .ok (.aload_n 0, 1) := by decide +kernel
theorem dX11_law_1 : decode cX11_law 1 = .ok (.iload_n 1, 1) := by decide +kernel
theorem dX11_law_2 : decode cX11_law 2 = .ok (.iload_n 2, 1) := by decide +kernel
theorem dX11_law_3 : decode cX11_law 3 = .ok (.iload_n 3, 1) := by decide +kernel
theorem dX11_law_4 : decode cX11_law 4 = .ok (.invokevirtual 134, 3) := by decide +kernel
theorem dX11_law_7 : decode cX11_law 7 = .ok (.istore 4, 2) := by decide +kernel
theorem dX11_law_9 : decode cX11_law 9 = .ok (.aload_n 0, 1) := by decide +kernel
theorem dX11_law_10 : decode cX11_law 10 = .ok (.getfield 10, 3) := by decide +kernel
theorem dX11_law_13 : decode cX11_law 13 = .ok (.iconst 0, 1) := by decide +kernel
theorem dX11_law_14 : decode cX11_law 14 = .ok (.invokevirtual 98, 3) := by decide +kernel
theorem dX11_law_17 : decode cX11_law 17 = .ok (.pop, 1) := by decide +kernel
theorem dX11_law_18 : decode cX11_law 18 = .ok (.iload 4, 2) := by decide +kernel
theorem dX11_law_20 : decode cX11_law 20 = .ok (.ireturn, 1) := by decide +kernel
theorem dX11_lawFromText_0 : decode cX11_lawFromText 0 = .ok (.aload_n 0, 1) := by decide +kernel
theorem dX11_lawFromText_1 : decode cX11_lawFromText 1 = .ok (.getfield 26, 3) := by decide +kernel
theorem dX11_lawFromText_4 : decode cX11_lawFromText 4 = .ok (.getfield 138, 3) := by decide +kernel
theorem dX11_lawFromText_7 : decode cX11_lawFromText 7 = .ok (.bipush 6, 2) := by decide +kernel
theorem dX11_lawFromText_9 : decode cX11_lawFromText 9 = .ok (.if_icmp .lt 6, 3) := by decide +kernel
theorem dX11_lawFromText_12 : decode cX11_lawFromText 12 = .ok (.bipush (-100), 2) := by decide +kernel
theorem dX11_lawFromText_14 : decode cX11_lawFromText 14 = .ok (.ireturn, 1) := by decide +kernel
theorem dX11_lawFromText_15 : decode cX11_lawFromText 15 = .ok (.iload_n 1, 1) := by decide +kernel
theorem dX11_lawFromText_16 : decode cX11_lawFromText 16 = .ok (.iload_n 2, 1) := by decide +kernel
theorem dX11_lawFromText_17 : decode cX11_lawFromText 17 = .ok (.iload_n 3, 1) := by decide +kernel
theorem dX11_lawFromText_18 : decode cX11_lawFromText 18 = .ok (.invokestatic 141, 3) := by decide +kernel
theorem dX11_lawFromText_21 : decode cX11_lawFromText 21 = .ok (.istore 4, 2) := by decide +kernel
theorem dX11_lawFromText_23 : decode cX11_lawFromText 23 = .ok (.iload 4, 2) := by decide +kernel
theorem dX11_lawFromText_25 : decode cX11_lawFromText 25 = .ok (.iconst 1, 1) := by decide +kernel
theorem dX11_lawFromText_26 : decode cX11_lawFromText 26 = .ok (.if_icmp .lt 10, 3) := by decide +kernel
theorem dX11_lawFromText_29 : decode cX11_lawFromText 29 = .ok (.iload 4, 2) := by decide +kernel
theorem dX11_lawFromText_31 : decode cX11_lawFromText 31 = .ok (.bipush 8, 2) := by decide +kernel
theorem dX11_lawFromText_33 : decode cX11_lawFromText 33 = .ok (.if_icmp .le 6, 3) := by decide +kernel
theorem dX11_lawFromText_36 : decode cX11_lawFromText 36 = .ok (.bipush (-101), 2) := by decide +kernel
theorem dX11_lawFromText_38 : decode cX11_lawFromText 38 = .ok (.ireturn, 1) := by decide +kernel
theorem dX11_lawFromText_39 : decode cX11_lawFromText 39 = .ok (.aload_n 0, 1) := by decide +kernel
theorem dX11_lawFromText_40 : decode cX11_lawFromText 40 = .ok (.getfield 35, 3) := by decide +kernel
theorem dX11_lawFromText_43 : decode cX11_lawFromText 43 = .ok (.getfield 144, 3) := by decide +kernel
theorem dX11_lawFromText_46 : decode cX11_lawFromText 46 = .ok (.iload 4, 2) := by decide +kernel
theorem dX11_lawFromText_48 : decode cX11_lawFromText 48 = .ok (.imul, 1) := by decide +kernel
theorem dX11_lawFromText_49 : decode cX11_lawFromText 49 = .ok (.sipush 600, 3) := by decide +kernel
theorem dX11_lawFromText_52 : decode cX11_lawFromText 52 = .ok (.if_icmp .le 6, 3) := by decide +kernel
theorem dX11_lawFromText_55 : decode cX11_lawFromText 55 = .ok (.bipush (-102), 2) := by decide +kernel
theorem dX11_lawFromText_57 : decode cX11_lawFromText 57 = .ok (.ireturn, 1) := by decide +kernel
theorem dX11_lawFromText_58 : decode cX11_lawFromText 58 = .ok (.aload_n 0, 1) := by decide +kernel
theorem dX11_lawFromText_59 : decode cX11_lawFromText 59 = .ok (.getfield 26, 3) := by decide +kernel
theorem dX11_lawFromText_62 : decode cX11_lawFromText 62 = .ok (.getfield 147, 3) := by decide +kernel
theorem dX11_lawFromText_65 : decode cX11_lawFromText 65 = .ok (.aload_n 0, 1) := by decide +kernel
theorem dX11_lawFromText_66 : decode cX11_lawFromText 66 = .ok (.getfield 26, 3) := by decide +kernel
theorem dX11_lawFromText_69 : decode cX11_lawFromText 69 = .ok (.getfield 138, 3) := by decide +kernel
theorem dX11_lawFromText_72 : decode cX11_lawFromText 72 = .ok (.aaload, 1) := by decide +kernel
theorem dX11_lawFromText_73 : decode cX11_lawFromText 73 = .ok (.aload_n 0, 1) := by decide +kernel
theorem dX11_lawFromText_74 : decode cX11_lawFromText 74 = .ok (.getfield 10, 3) := by decide +kernel
theorem dX11_lawFromText_77 : decode cX11_lawFromText 77 = .ok (.invokevirtual 151, 3) := by decide +kernel
theorem dX11_lawFromText_80 : decode cX11_lawFromText 80 = .ok (.istore 5, 2) := by decide +kernel
theorem dX11_lawFromText_82 : decode cX11_lawFromText 82 = .ok (.iload 5, 2) := by decide +kernel
theorem dX11_lawFromText_84 : decode cX11_lawFromText 84 = .ok (.iconst (-1), 1) := by decide +kernel
theorem dX11_lawFromText_85 : decode cX11_lawFromText 85 = .ok (.if_icmp .eq 8, 3) := by decide +kernel
theorem dX11_lawFromText_88 : decode cX11_lawFromText 88 = .ok (.iconst (-1), 1) := by decide +kernel
theorem dX11_lawFromText_89 : decode cX11_lawFromText 89 = .ok (.iload 5, 2) := by decide +kernel
theorem dX11_lawFromText_91 : decode cX11_lawFromText 91 = .ok (.isub, 1) := by decide +kernel
theorem dX11_lawFromText_92 : decode cX11_lawFromText 92 = .ok (.ireturn, 1) := by decide +kernel
theorem dX11_lawFromText_93 : decode cX11_lawFromText 93 = .ok (.aload_n 0, 1) := by decide +kernel
theorem dX11_lawFromText_94 : decode cX11_lawFromText 94 = .ok (.getfield 26, 3) := by decide +kernel
theorem dX11_lawFromText_97 : decode cX11_lawFromText 97 = .ok (.invokevirtual 157, 3) := by decide +kernel
theorem dX11_lawFromText_100 : decode cX11_lawFromText 100 = .ok (.istore 6, 2) := by decide +kernel
theorem dX11_lawFromText_102 : decode cX11_lawFromText 102 = .ok (.aload_n 0, 1) := by decide +kernel
theorem dX11_lawFromText_103 : decode cX11_lawFromText 103 = .ok (.getfield 35, 3) := by decide +kernel
theorem dX11_lawFromText_106 : decode cX11_lawFromText 106 = .ok (.iload_n 1, 1) := by decide +kernel
theorem dX11_lawFromText_107 : decode cX11_lawFromText 107 = .ok (.iload_n 3, 1) := by decide +kernel
theorem dX11_lawFromText_108 : decode cX11_lawFromText 108 = .ok (.iload 4, 2) := by decide +kernel
theorem dX11_lawFromText_110 : decode cX11_lawFromText 110 = .ok (.invokevirtual 160, 3) := by decide +kernel
theorem dX11_lawFromText_113 : decode cX11_lawFromText 113 = .ok (.aload_n 0, 1) := by decide +kernel
theorem dX11_lawFromText_114 : decode cX11_lawFromText 114 = .ok (.getfield 44, 3) := by decide +kernel
theorem dX11_lawFromText_117 : decode cX11_lawFromText 117 = .ok (.invokevirtual 113, 3) := by decide +kernel
theorem dX11_lawFromText_120 : decode cX11_lawFromText 120 = .ok (.iload 6, 2) := by decide +kernel
theorem dX11_lawFromText_122 : decode cX11_lawFromText 122 = .ok (.ireturn, 1) := by decide +kernel
theorem dX11_yearsOfLaw_0 : decode cX11_yearsOfLaw 0 = .ok (.iload_n 0, 1) := by decide +kernel
theorem dX11_yearsOfLaw_1 : decode cX11_yearsOfLaw 1 = .ok (.ifCond .lt 20, 3) := by decide +kernel
theorem dX11_yearsOfLaw_4 : decode cX11_yearsOfLaw 4 = .ok (.iload_n 1, 1) := by decide +kernel
theorem dX11_yearsOfLaw_5 : decode cX11_yearsOfLaw 5 = .ok (.sipush 400, 3) := by decide +kernel
theorem dX11_yearsOfLaw_8 : decode cX11_yearsOfLaw 8 = .ok (.if_icmp .gt 13, 3) := by decide +kernel
theorem dX11_yearsOfLaw_11 : decode cX11_yearsOfLaw 11 = .ok (.iload_n 1, 1) := by decide +kernel
theorem dX11_yearsOfLaw_12 : decode cX11_yearsOfLaw 12 = .ok (.iload_n 0, 1) := by decide +kernel
theorem dX11_yearsOfLaw_13 : decode cX11_yearsOfLaw 13 = .ok (.if_icmp .lt 8, 3) := by decide +kernel
theorem dX11_yearsOfLaw_16 : decode cX11_yearsOfLaw 16 = .ok (.iload_n 2, 1) := by decide +kernel
theorem dX11_yearsOfLaw_17 : decode cX11_yearsOfLaw 17 = .ok (.iconst 1, 1) := by decide +kernel
theorem dX11_yearsOfLaw_18 : decode cX11_yearsOfLaw 18 = .ok (.if_icmp .ge 5, 3) := by decide +kernel
theorem dX11_yearsOfLaw_21 : decode cX11_yearsOfLaw 21 = .ok (.iconst 0, 1) := by decide +kernel
theorem dX11_yearsOfLaw_22 : decode cX11_yearsOfLaw 22 = .ok (.ireturn, 1) := by decide +kernel
theorem dX11_yearsOfLaw_23 : decode cX11_yearsOfLaw 23 = .ok (.iload_n 1, 1) := by decide +kernel
theorem dX11_yearsOfLaw_24 : decode cX11_yearsOfLaw 24 = .ok (.iload_n 0, 1) := by decide +kernel
theorem dX11_yearsOfLaw_25 : decode cX11_yearsOfLaw 25 = .ok (.isub, 1) := by decide +kernel
theorem dX11_yearsOfLaw_26 : decode cX11_yearsOfLaw 26 = .ok (.iload_n 2, 1) := by decide +kernel
theorem dX11_yearsOfLaw_27 : decode cX11_yearsOfLaw 27 = .ok (.idiv, 1) := by decide +kernel
theorem dX11_yearsOfLaw_28 : decode cX11_yearsOfLaw 28 = .ok (.iconst 1, 1) := by decide +kernel
theorem dX11_yearsOfLaw_29 : decode cX11_yearsOfLaw 29 = .ok (.iadd, 1) := by decide +kernel
theorem dX11_yearsOfLaw_30 : decode cX11_yearsOfLaw 30 = .ok (.ireturn, 1) := by decide +kernel
theorem dX11_lag_0 : decode cX11_lag 0 = .ok (.iload_n 1, 1) := by decide +kernel
theorem dX11_lag_1 : decode cX11_lag 1 = .ok (.invokestatic 163, 3) := by decide +kernel
theorem dX11_lag_4 : decode cX11_lag 4 = .ok (.ifCond .eq 14, 3) := by decide +kernel
theorem dX11_lag_7 : decode cX11_lag 7 = .ok (.iload_n 2, 1) := by decide +kernel
theorem dX11_lag_8 : decode cX11_lag 8 = .ok (.ifCond .lt 10, 3) := by decide +kernel
theorem dX11_lag_11 : decode cX11_lag 11 = .ok (.iload_n 2, 1) := by decide +kernel
theorem dX11_lag_12 : decode cX11_lag 12 = .ok (.sipush 200, 3) := by decide +kernel
theorem dX11_lag_15 : decode cX11_lag 15 = .ok (.if_icmp .le 5, 3) := by decide +kernel
theorem dX11_lag_18 : decode cX11_lag 18 = .ok (.iconst (-1), 1) := by decide +kernel
theorem dX11_lag_19 : decode cX11_lag 19 = .ok (.ireturn, 1) := by decide +kernel
theorem dX11_lag_20 : decode cX11_lag 20 = .ok (.aload_n 0, 1) := by decide +kernel
theorem dX11_lag_21 : decode cX11_lag 21 = .ok (.getfield 35, 3) := by decide +kernel
theorem dX11_lag_24 : decode cX11_lag 24 = .ok (.getfield 166, 3) := by decide +kernel
theorem dX11_lag_27 : decode cX11_lag 27 = .ok (.iload_n 1, 1) := by decide +kernel
theorem dX11_lag_28 : decode cX11_lag 28 = .ok (.iaload, 1) := by decide +kernel
theorem dX11_lag_29 : decode cX11_lag 29 = .ok (.istore_n 3, 1) := by decide +kernel
theorem dX11_lag_30 : decode cX11_lag 30 = .ok (.aload_n 0, 1) := by decide +kernel
theorem dX11_lag_31 : decode cX11_lag 31 = .ok (.getfield 35, 3) := by decide +kernel
theorem dX11_lag_34 : decode cX11_lag 34 = .ok (.getfield 166, 3) := by decide +kernel
theorem dX11_lag_37 : decode cX11_lag 37 = .ok (.iload_n 1, 1) := by decide +kernel
theorem dX11_lag_38 : decode cX11_lag 38 = .ok (.iload_n 2, 1) := by decide +kernel
theorem dX11_lag_39 : decode cX11_lag 39 = .ok (.iastore, 1) := by decide +kernel
theorem dX11_lag_40 : decode cX11_lag 40 = .ok (.aload_n 0, 1) := by decide +kernel
theorem dX11_lag_41 : decode cX11_lag 41 = .ok (.getfield 44, 3) := by decide +kernel
theorem dX11_lag_44 : decode cX11_lag 44 = .ok (.iload_n 1, 1) := by decide +kernel
theorem dX11_lag_45 : decode cX11_lag 45 = .ok (.invokevirtual 169, 3) := by decide +kernel
theorem dX11_lag_48 : decode cX11_lag 48 = .ok (.iload_n 3, 1) := by decide +kernel
theorem dX11_lag_49 : decode cX11_lag 49 = .ok (.ireturn, 1) := by decide +kernel
theorem dX11_lags_0 : decode cX11_lags 0 = .ok (.iload_n 1, 1) := by decide +kernel
theorem dX11_lags_1 : decode cX11_lags 1 = .ok (.iconst 4, 1) := by decide +kernel
theorem dX11_lags_2 : decode cX11_lags 2 = .ok (.invokestatic 101, 3) := by decide +kernel
theorem dX11_lags_5 : decode cX11_lags 5 = .ok (.ifCond .eq 9, 3) := by decide +kernel
theorem dX11_lags_8 : decode cX11_lags 8 = .ok (.iload_n 2, 1) := by decide +kernel
theorem dX11_lags_9 : decode cX11_lags 9 = .ok (.bipush 6, 2) := by decide +kernel
theorem dX11_lags_11 : decode cX11_lags 11 = .ok (.if_icmp .le 5, 3) := by decide +kernel
theorem dX11_lags_14 : decode cX11_lags 14 = .ok (.iconst (-1), 1) := by decide +kernel
theorem dX11_lags_15 : decode cX11_lags 15 = .ok (.ireturn, 1) := by decide +kernel
theorem dX11_lags_16 : decode cX11_lags 16 = .ok (.iload_n 1, 1) := by decide +kernel
theorem dX11_lags_17 : decode cX11_lags 17 = .ok (.iconst 3, 1) := by decide +kernel
theorem dX11_lags_18 : decode cX11_lags 18 = .ok (.if_icmp .ne 7, 3) := by decide +kernel
theorem dX11_lags_21 : decode cX11_lags 21 = .ok (.iconst 1, 1) := by decide +kernel
theorem dX11_lags_22 : decode cX11_lags 22 = .ok (.goto 4, 3) := by decide +kernel
theorem dX11_lags_25 : decode cX11_lags 25 = .ok (.iconst 0, 1) := by decide +kernel
theorem dX11_lags_26 : decode cX11_lags 26 = .ok (.istore 5, 2) := by decide +kernel
theorem dX11_lags_28 : decode cX11_lags 28 = .ok (.iload 5, 2) := by decide +kernel
theorem dX11_lags_30 : decode cX11_lags 30 = .ok (.ifCond .ne 10, 3) := by decide +kernel
theorem dX11_lags_33 : decode cX11_lags 33 = .ok (.iload_n 2, 1) := by decide +kernel
theorem dX11_lags_34 : decode cX11_lags 34 = .ok (.ifCond .ge 6, 3) := by decide +kernel
theorem dX11_lags_37 : decode cX11_lags 37 = .ok (.bipush (-2), 2) := by decide +kernel
theorem dX11_lags_39 : decode cX11_lags 39 = .ok (.ireturn, 1) := by decide +kernel
theorem dX11_lags_40 : decode cX11_lags 40 = .ok (.iload 5, 2) := by decide +kernel
theorem dX11_lags_42 : decode cX11_lags 42 = .ok (.ifCond .eq 7, 3) := by decide +kernel
theorem dX11_lags_45 : decode cX11_lags 45 = .ok (.iconst 0, 1) := by decide +kernel
theorem dX11_lags_46 : decode cX11_lags 46 = .ok (.goto 4, 3) := by decide +kernel
theorem dX11_lags_49 : decode cX11_lags 49 = .ok (.iload_n 2, 1) := by decide +kernel
theorem dX11_lags_50 : decode cX11_lags 50 = .ok (.istore 6, 2) := by decide +kernel
theorem dX11_lags_52 : decode cX11_lags 52 = .ok (.iconst 0, 1) := by decide +kernel
theorem dX11_lags_53 : decode cX11_lags 53 = .ok (.istore 7, 2) := by decide +kernel
theorem dX11_lags_55 : decode cX11_lags 55 = .ok (.iconst 0, 1) := by decide +kernel
theorem dX11_lags_56 : decode cX11_lags 56 = .ok (.istore 8, 2) := by decide +kernel
theorem dX11_lags_58 : decode cX11_lags 58 = .ok (.iload 8, 2) := by decide +kernel
theorem dX11_lags_60 : decode cX11_lags 60 = .ok (.bipush 6, 2) := by decide +kernel
theorem dX11_lags_62 : decode cX11_lags 62 = .ok (.if_icmp .ge 52, 3) := by decide +kernel
theorem dX11_lags_65 : decode cX11_lags 65 = .ok (.iload 8, 2) := by decide +kernel
theorem dX11_lags_67 : decode cX11_lags 67 = .ok (.iload 6, 2) := by decide +kernel
theorem dX11_lags_69 : decode cX11_lags 69 = .ok (.if_icmp .ge 17, 3) := by decide +kernel
theorem dX11_lags_72 : decode cX11_lags 72 = .ok (.iload_n 1, 1) := by decide +kernel
theorem dX11_lags_73 : decode cX11_lags 73 = .ok (.iload_n 3, 1) := by decide +kernel
theorem dX11_lags_74 : decode cX11_lags 74 = .ok (.iload 8, 2) := by decide +kernel
theorem dX11_lags_76 : decode cX11_lags 76 = .ok (.iload 4, 2) := by decide +kernel
theorem dX11_lags_78 : decode cX11_lags 78 = .ok (.imul, 1) := by decide +kernel
theorem dX11_lags_79 : decode cX11_lags 79 = .ok (.iadd, 1) := by decide +kernel
theorem dX11_lags_80 : decode cX11_lags 80 = .ok (.invokestatic 173, 3) := by decide +kernel
theorem dX11_lags_83 : decode cX11_lags 83 = .ok (.goto 4, 3) := by decide +kernel
theorem dX11_lags_86 : decode cX11_lags 86 = .ok (.iconst 0, 1) := by decide +kernel
theorem dX11_lags_87 : decode cX11_lags 87 = .ok (.istore 9, 2) := by decide +kernel
theorem dX11_lags_89 : decode cX11_lags 89 = .ok (.aload_n 0, 1) := by decide +kernel
theorem dX11_lags_90 : decode cX11_lags 90 = .ok (.getfield 35, 3) := by decide +kernel
theorem dX11_lags_93 : decode cX11_lags 93 = .ok (.getfield 166, 3) := by decide +kernel
theorem dX11_lags_96 : decode cX11_lags 96 = .ok (.iload 8, 2) := by decide +kernel
theorem dX11_lags_98 : decode cX11_lags 98 = .ok (.iload 9, 2) := by decide +kernel
theorem dX11_lags_100 : decode cX11_lags 100 = .ok (.iastore, 1) := by decide +kernel
theorem dX11_lags_101 : decode cX11_lags 101 = .ok (.iload 7, 2) := by decide +kernel
theorem dX11_lags_103 : decode cX11_lags 103 = .ok (.iload 9, 2) := by decide +kernel
theorem dX11_lags_105 : decode cX11_lags 105 = .ok (.iadd, 1) := by decide +kernel
theorem dX11_lags_106 : decode cX11_lags 106 = .ok (.istore 7, 2) := by decide +kernel
theorem dX11_lags_108 : decode cX11_lags 108 = .ok (.iinc 8 1, 3) := by decide +kernel
theorem dX11_lags_111 : decode cX11_lags 111 = .ok (.goto (-53), 3) := by decide +kernel
theorem dX11_lags_114 : decode cX11_lags 114 = .ok (.aload_n 0, 1) := by decide +kernel
theorem dX11_lags_115 : decode cX11_lags 115 = .ok (.getfield 44, 3) := by decide +kernel
theorem dX11_lags_118 : decode cX11_lags 118 = .ok (.invokevirtual 113, 3) := by decide +kernel
theorem dX11_lags_121 : decode cX11_lags 121 = .ok (.iload 5, 2) := by decide +kernel
theorem dX11_lags_123 : decode cX11_lags 123 = .ok (.ifCond .eq 8, 3) := by decide +kernel
theorem dX11_lags_126 : decode cX11_lags 126 = .ok (.bipush (-3), 2) := by decide +kernel
theorem dX11_lags_128 : decode cX11_lags 128 = .ok (.goto 5, 3) := by decide +kernel
theorem dX11_lags_131 : decode cX11_lags 131 = .ok (.iload 7, 2) := by decide +kernel
theorem dX11_lags_133 : decode cX11_lags 133 = .ok (.ireturn, 1) := by decide +kernel
theorem dX11_lagOnSheet_0 : decode cX11_lagOnSheet 0 = .ok (.iload_n 0, 1) := by decide +kernel
theorem dX11_lagOnSheet_1 : decode cX11_lagOnSheet 1 = .ok (.ifCond .ne 8, 3) := by decide +kernel
theorem dX11_lagOnSheet_4 : decode cX11_lagOnSheet 4 = .ok (.iload_n 1, 1) := by decide +kernel
theorem dX11_lagOnSheet_5 : decode cX11_lagOnSheet 5 = .ok (.i2b, 1) := by decide +kernel
theorem dX11_lagOnSheet_6 : decode cX11_lagOnSheet 6 = .ok (.goto 14, 3) := by decide +kernel
theorem dX11_lagOnSheet_9 : decode cX11_lagOnSheet 9 = .ok (.iload_n 0, 1) := by decide +kernel
theorem dX11_lagOnSheet_10 : decode cX11_lagOnSheet 10 = .ok (.iconst 1, 1) := by decide +kernel
theorem dX11_lagOnSheet_11 : decode cX11_lagOnSheet 11 = .ok (.if_icmp .ne 8, 3) := by decide +kernel
theorem dX11_lagOnSheet_14 : decode cX11_lagOnSheet 14 = .ok (.iload_n 1, 1) := by decide +kernel
theorem dX11_lagOnSheet_15 : decode cX11_lagOnSheet 15 = .ok (.i2s, 1) := by decide +kernel
theorem dX11_lagOnSheet_16 : decode cX11_lagOnSheet 16 = .ok (.goto 4, 3) := by decide +kernel
theorem dX11_lagOnSheet_19 : decode cX11_lagOnSheet 19 = .ok (.iload_n 1, 1) := by decide +kernel
theorem dX11_lagOnSheet_20 : decode cX11_lagOnSheet 20 = .ok (.istore_n 2, 1) := by decide +kernel
theorem dX11_lagOnSheet_21 : decode cX11_lagOnSheet 21 = .ok (.iconst 0, 1) := by decide +kernel
theorem dX11_lagOnSheet_22 : decode cX11_lagOnSheet 22 = .ok (.sipush 200, 3) := by decide +kernel
theorem dX11_lagOnSheet_25 : decode cX11_lagOnSheet 25 = .ok (.iload_n 2, 1) := by decide +kernel
theorem dX11_lagOnSheet_26 : decode cX11_lagOnSheet 26 = .ok (.invokestatic 177, 3) := by decide +kernel
theorem dX11_lagOnSheet_29 : decode cX11_lagOnSheet 29 = .ok (.invokestatic 182, 3) := by decide +kernel
theorem dX11_lagOnSheet_32 : decode cX11_lagOnSheet 32 = .ok (.ireturn, 1) := by decide +kernel
theorem dX11_said_0 : decode cX11_said 0 = .ok (.aload_n 0, 1) := by decide +kernel
theorem dX11_said_1 : decode cX11_said 1 = .ok (.iload_n 1, 1) := by decide +kernel
theorem dX11_said_2 : decode cX11_said 2 = .ok (.invokevirtual 185, 3) := by decide +kernel
theorem dX11_said_5 : decode cX11_said 5 = .ok (.ifCond .eq 14, 3) := by decide +kernel
theorem dX11_said_8 : decode cX11_said 8 = .ok (.aload_n 0, 1) := by decide +kernel
theorem dX11_said_9 : decode cX11_said 9 = .ok (.iload_n 2, 1) := by decide +kernel
theorem dX11_said_10 : decode cX11_said 10 = .ok (.iload_n 3, 1) := by decide +kernel
theorem dX11_said_11 : decode cX11_said 11 = .ok (.iload 4, 2) := by decide +kernel
theorem dX11_said_13 : decode cX11_said 13 = .ok (.invokevirtual 188, 3) := by decide +kernel
theorem dX11_said_16 : decode cX11_said 16 = .ok (.ifCond .ne 5, 3) := by decide +kernel
theorem dX11_said_19 : decode cX11_said 19 = .ok (.iconst (-1), 1) := by decide +kernel
theorem dX11_said_20 : decode cX11_said 20 = .ok (.ireturn, 1) := by decide +kernel
theorem dX11_said_21 : decode cX11_said 21 = .ok (.aload_n 0, 1) := by decide +kernel
theorem dX11_said_22 : decode cX11_said 22 = .ok (.getfield 19, 3) := by decide +kernel
theorem dX11_said_25 : decode cX11_said 25 = .ok (.invokevirtual 192, 3) := by decide +kernel
theorem dX11_said_28 : decode cX11_said 28 = .ok (.aload_n 0, 1) := by decide +kernel
theorem dX11_said_29 : decode cX11_said 29 = .ok (.aload_n 0, 1) := by decide +kernel
theorem dX11_said_30 : decode cX11_said 30 = .ok (.getfield 26, 3) := by decide +kernel
theorem dX11_said_33 : decode cX11_said 33 = .ok (.aload_n 0, 1) := by decide +kernel
theorem dX11_said_34 : decode cX11_said 34 = .ok (.getfield 35, 3) := by decide +kernel
theorem dX11_said_37 : decode cX11_said 37 = .ok (.iload_n 2, 1) := by decide +kernel
theorem dX11_said_38 : decode cX11_said 38 = .ok (.iload_n 3, 1) := by decide +kernel
theorem dX11_said_39 : decode cX11_said 39 = .ok (.iload 4, 2) := by decide +kernel
theorem dX11_said_41 : decode cX11_said 41 = .ok (.invokevirtual 195, 3) := by decide +kernel
theorem dX11_said_44 : decode cX11_said 44 = .ok (.iload_n 1, 1) := by decide +kernel
theorem dX11_said_45 : decode cX11_said 45 = .ok (.invokevirtual 198, 3) := by decide +kernel
theorem dX11_said_48 : decode cX11_said 48 = .ok (.invokevirtual 202, 3) := by decide +kernel
theorem dX11_said_51 : decode cX11_said 51 = .ok (.ireturn, 1) := by decide +kernel
theorem dX11_tellSounds_0 : decode cX11_tellSounds 0 = .ok (.lload_n 1, 1) := by decide +kernel
theorem dX11_tellSounds_1 : decode cX11_tellSounds 1 = .ok (.invokestatic 205, 3) := by decide +kernel
theorem dX11_tellSounds_4 : decode cX11_tellSounds 4 = .ok (.istore_n 3, 1) := by decide +kernel
theorem dX11_tellSounds_5 : decode cX11_tellSounds 5 = .ok (.iconst 0, 1) := by decide +kernel
theorem dX11_tellSounds_6 : decode cX11_tellSounds 6 = .ok (.istore 4, 2) := by decide +kernel
theorem dX11_tellSounds_8 : decode cX11_tellSounds 8 = .ok (.iload 4, 2) := by decide +kernel
theorem dX11_tellSounds_10 : decode cX11_tellSounds 10 = .ok (.iload_n 3, 1) := by decide +kernel
theorem dX11_tellSounds_11 : decode cX11_tellSounds 11 = .ok (.if_icmp .ge 23, 3) := by decide +kernel
theorem dX11_tellSounds_14 : decode cX11_tellSounds 14 = .ok (.aload_n 0, 1) := by decide +kernel
theorem dX11_tellSounds_15 : decode cX11_tellSounds 15 = .ok (.getfield 19, 3) := by decide +kernel
theorem dX11_tellSounds_18 : decode cX11_tellSounds 18 = .ok (.lload_n 1, 1) := by decide +kernel
theorem dX11_tellSounds_19 : decode cX11_tellSounds 19 = .ok (.iload 4, 2) := by decide +kernel
theorem dX11_tellSounds_21 : decode cX11_tellSounds 21 = .ok (.invokestatic 210, 3) := by decide +kernel
theorem dX11_tellSounds_24 : decode cX11_tellSounds 24 = .ok (.i2l, 1) := by decide +kernel
theorem dX11_tellSounds_25 : decode cX11_tellSounds 25 = .ok (.invokevirtual 214, 3) := by decide +kernel
theorem dX11_tellSounds_28 : decode cX11_tellSounds 28 = .ok (.iinc 4 1, 3) := by decide +kernel
theorem dX11_tellSounds_31 : decode cX11_tellSounds 31 = .ok (.goto (-23), 3) := by decide +kernel
theorem dX11_tellSounds_34 : decode cX11_tellSounds 34 = .ok (.iload_n 3, 1) := by decide +kernel
theorem dX11_tellSounds_35 : decode cX11_tellSounds 35 = .ok (.ireturn, 1) := by decide +kernel
theorem dX11_changes_0 : decode cX11_changes 0 = .ok (.aload_n 0, 1) := by decide +kernel
theorem dX11_changes_1 : decode cX11_changes 1 = .ok (.iload_n 1, 1) := by decide +kernel
theorem dX11_changes_2 : decode cX11_changes 2 = .ok (.invokevirtual 185, 3) := by decide +kernel
theorem dX11_changes_5 : decode cX11_changes 5 = .ok (.ifCond .eq 18, 3) := by decide +kernel
theorem dX11_changes_8 : decode cX11_changes 8 = .ok (.aload_n 0, 1) := by decide +kernel
theorem dX11_changes_9 : decode cX11_changes 9 = .ok (.iload_n 2, 1) := by decide +kernel
theorem dX11_changes_10 : decode cX11_changes 10 = .ok (.invokevirtual 218, 3) := by decide +kernel
theorem dX11_changes_13 : decode cX11_changes 13 = .ok (.ifCond .eq 10, 3) := by decide +kernel
theorem dX11_changes_16 : decode cX11_changes 16 = .ok (.iload_n 3, 1) := by decide +kernel
theorem dX11_changes_17 : decode cX11_changes 17 = .ok (.invokestatic 163, 3) := by decide +kernel
theorem dX11_changes_20 : decode cX11_changes 20 = .ok (.ifCond .ne 5, 3) := by decide +kernel
theorem dX11_changes_23 : decode cX11_changes 23 = .ok (.iconst (-1), 1) := by decide +kernel
theorem dX11_changes_24 : decode cX11_changes 24 = .ok (.ireturn, 1) := by decide +kernel
theorem dX11_changes_25 : decode cX11_changes 25 = .ok (.aload_n 0, 1) := by decide +kernel
theorem dX11_changes_26 : decode cX11_changes 26 = .ok (.getfield 19, 3) := by decide +kernel
theorem dX11_changes_29 : decode cX11_changes 29 = .ok (.invokevirtual 192, 3) := by decide +kernel
theorem dX11_changes_32 : decode cX11_changes 32 = .ok (.aload_n 0, 1) := by decide +kernel
theorem dX11_changes_33 : decode cX11_changes 33 = .ok (.getfield 26, 3) := by decide +kernel
theorem dX11_changes_36 : decode cX11_changes 36 = .ok (.iconst 0, 1) := by decide +kernel
theorem dX11_changes_37 : decode cX11_changes 37 = .ok (.iload_n 1, 1) := by decide +kernel
theorem dX11_changes_38 : decode cX11_changes 38 = .ok (.invokevirtual 198, 3) := by decide +kernel
theorem dX11_changes_41 : decode cX11_changes 41 = .ok (.lstore 4, 2) := by decide +kernel
theorem dX11_changes_43 : decode cX11_changes 43 = .ok (.iconst 0, 1) := by decide +kernel
theorem dX11_changes_44 : decode cX11_changes 44 = .ok (.istore 6, 2) := by decide +kernel
theorem dX11_changes_46 : decode cX11_changes 46 = .ok (.iload 6, 2) := by decide +kernel
theorem dX11_changes_48 : decode cX11_changes 48 = .ok (.aload_n 0, 1) := by decide +kernel
theorem dX11_changes_49 : decode cX11_changes 49 = .ok (.getfield 26, 3) := by decide +kernel
theorem dX11_changes_52 : decode cX11_changes 52 = .ok (.getfield 138, 3) := by decide +kernel
theorem dX11_changes_55 : decode cX11_changes 55 = .ok (.if_icmp .gt 65, 3) := by decide +kernel
theorem dX11_changes_58 : decode cX11_changes 58 = .ok (.aload_n 0, 1) := by decide +kernel
theorem dX11_changes_59 : decode cX11_changes 59 = .ok (.getfield 35, 3) := by decide +kernel
theorem dX11_changes_62 : decode cX11_changes 62 = .ok (.iload_n 2, 1) := by decide +kernel
theorem dX11_changes_63 : decode cX11_changes 63 = .ok (.iload 6, 2) := by decide +kernel
theorem dX11_changes_65 : decode cX11_changes 65 = .ok (.iload_n 3, 1) := by decide +kernel
theorem dX11_changes_66 : decode cX11_changes 66 = .ok (.invokevirtual 221, 3) := by decide +kernel
theorem dX11_changes_69 : decode cX11_changes 69 = .ok (.istore 7, 2) := by decide +kernel
theorem dX11_changes_71 : decode cX11_changes 71 = .ok (.aload_n 0, 1) := by decide +kernel
theorem dX11_changes_72 : decode cX11_changes 72 = .ok (.getfield 26, 3) := by decide +kernel
theorem dX11_changes_75 : decode cX11_changes 75 = .ok (.aload_n 0, 1) := by decide +kernel
theorem dX11_changes_76 : decode cX11_changes 76 = .ok (.getfield 35, 3) := by decide +kernel
theorem dX11_changes_79 : decode cX11_changes 79 = .ok (.iload_n 2, 1) := by decide +kernel
theorem dX11_changes_80 : decode cX11_changes 80 = .ok (.iload 7, 2) := by decide +kernel
theorem dX11_changes_82 : decode cX11_changes 82 = .ok (.iload_n 3, 1) := by decide +kernel
theorem dX11_changes_83 : decode cX11_changes 83 = .ok (.invokevirtual 195, 3) := by decide +kernel
theorem dX11_changes_86 : decode cX11_changes 86 = .ok (.iload_n 1, 1) := by decide +kernel
theorem dX11_changes_87 : decode cX11_changes 87 = .ok (.invokevirtual 198, 3) := by decide +kernel
theorem dX11_changes_90 : decode cX11_changes 90 = .ok (.lstore 8, 2) := by decide +kernel
theorem dX11_changes_92 : decode cX11_changes 92 = .ok (.lload 8, 2) := by decide +kernel
theorem dX11_changes_94 : decode cX11_changes 94 = .ok (.lload 4, 2) := by decide +kernel
theorem dX11_changes_96 : decode cX11_changes 96 = .ok (.lcmp, 1) := by decide +kernel
theorem dX11_changes_97 : decode cX11_changes 97 = .ok (.ifCond .eq 17, 3) := by decide +kernel
theorem dX11_changes_100 : decode cX11_changes 100 = .ok (.aload_n 0, 1) := by decide +kernel
theorem dX11_changes_101 : decode cX11_changes 101 = .ok (.getfield 19, 3) := by decide +kernel
theorem dX11_changes_104 : decode cX11_changes 104 = .ok (.iload 7, 2) := by decide +kernel
theorem dX11_changes_106 : decode cX11_changes 106 = .ok (.i2l, 1) := by decide +kernel
theorem dX11_changes_107 : decode cX11_changes 107 = .ok (.invokevirtual 214, 3) := by decide +kernel
theorem dX11_changes_110 : decode cX11_changes 110 = .ok (.lload 8, 2) := by decide +kernel
theorem dX11_changes_112 : decode cX11_changes 112 = .ok (.lstore 4, 2) := by decide +kernel
theorem dX11_changes_114 : decode cX11_changes 114 = .ok (.iinc 6 1, 3) := by decide +kernel
theorem dX11_changes_117 : decode cX11_changes 117 = .ok (.goto (-71), 3) := by decide +kernel
theorem dX11_changes_120 : decode cX11_changes 120 = .ok (.aload_n 0, 1) := by decide +kernel
theorem dX11_changes_121 : decode cX11_changes 121 = .ok (.getfield 19, 3) := by decide +kernel
theorem dX11_changes_124 : decode cX11_changes 124 = .ok (.getfield 224, 3) := by decide +kernel
theorem dX11_changes_127 : decode cX11_changes 127 = .ok (.ireturn, 1) := by decide +kernel
theorem dX11_alike_0 : decode cX11_alike 0 = .ok (.aload_n 0, 1) := by decide +kernel
theorem dX11_alike_1 : decode cX11_alike 1 = .ok (.iload_n 1, 1) := by decide +kernel
theorem dX11_alike_2 : decode cX11_alike 2 = .ok (.invokevirtual 185, 3) := by decide +kernel
theorem dX11_alike_5 : decode cX11_alike 5 = .ok (.ifCond .eq 23, 3) := by decide +kernel
theorem dX11_alike_8 : decode cX11_alike 8 = .ok (.aload_n 0, 1) := by decide +kernel
theorem dX11_alike_9 : decode cX11_alike 9 = .ok (.iload_n 2, 1) := by decide +kernel
theorem dX11_alike_10 : decode cX11_alike 10 = .ok (.invokevirtual 185, 3) := by decide +kernel
theorem dX11_alike_13 : decode cX11_alike 13 = .ok (.ifCond .eq 15, 3) := by decide +kernel
theorem dX11_alike_16 : decode cX11_alike 16 = .ok (.aload_n 0, 1) := by decide +kernel
theorem dX11_alike_17 : decode cX11_alike 17 = .ok (.iload_n 3, 1) := by decide +kernel
theorem dX11_alike_18 : decode cX11_alike 18 = .ok (.iload 4, 2) := by decide +kernel
theorem dX11_alike_20 : decode cX11_alike 20 = .ok (.iload 5, 2) := by decide +kernel
theorem dX11_alike_22 : decode cX11_alike 22 = .ok (.invokevirtual 188, 3) := by decide +kernel
theorem dX11_alike_25 : decode cX11_alike 25 = .ok (.ifCond .ne 5, 3) := by decide +kernel
theorem dX11_alike_28 : decode cX11_alike 28 = .ok (.iconst (-1), 1) := by decide +kernel
theorem dX11_alike_29 : decode cX11_alike 29 = .ok (.ireturn, 1) := by decide +kernel
theorem dX11_alike_30 : decode cX11_alike 30 = .ok (.aload_n 0, 1) := by decide +kernel
theorem dX11_alike_31 : decode cX11_alike 31 = .ok (.getfield 35, 3) := by decide +kernel
theorem dX11_alike_34 : decode cX11_alike 34 = .ok (.iload_n 3, 1) := by decide +kernel
theorem dX11_alike_35 : decode cX11_alike 35 = .ok (.iload 4, 2) := by decide +kernel
theorem dX11_alike_37 : decode cX11_alike 37 = .ok (.iload 5, 2) := by decide +kernel
theorem dX11_alike_39 : decode cX11_alike 39 = .ok (.invokevirtual 195, 3) := by decide +kernel
theorem dX11_alike_42 : decode cX11_alike 42 = .ok (.istore 6, 2) := by decide +kernel
