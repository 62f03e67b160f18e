theorem dX5_takeNumber_87 : decode cX5_takeNumber 87 = .ok (.putfield 31, 3) := by decide +kernel
theorem dX5_takeNumber_90 : decode cX5_takeNumber 90 = .ok (.return_, 1) := by decide +kernel
theorem dX5_isLetter_0 : decode cX5_isLetter 0 = .ok (.iload_n 0, 1) := by decide +kernel
theorem dX5_isLetter_1 : decode cX5_isLetter 1 = .ok (.bipush 97, 2) := by decide +kernel
theorem dX5_isLetter_3 : decode cX5_isLetter 3 = .ok (.if_icmp .lt 13, 3) := by decide +kernel
theorem dX5_isLetter_6 : decode cX5_isLetter 6 = .ok (.iload_n 0, 1) := by decide +kernel
theorem dX5_isLetter_7 : decode cX5_isLetter 7 = .ok (.bipush 122, 2) := by decide +kernel
theorem dX5_isLetter_9 : decode cX5_isLetter 9 = .ok (.if_icmp .gt 7, 3) := by decide +kernel
theorem dX5_isLetter_12 : decode cX5_isLetter 12 = .ok (.iconst 1, 1) := by decide +kernel
theorem dX5_isLetter_13 : decode cX5_isLetter 13 = .ok (.goto 4, 3) := by decide +kernel
theorem dX5_isLetter_16 : decode cX5_isLetter 16 = .ok (.iconst 0, 1) := by decide +kernel
theorem dX5_isLetter_17 : decode cX5_isLetter 17 = .ok (.ireturn, 1) := by decide +kernel
theorem dX5_isDigit_0 : decode cX5_isDigit 0 = .ok (.iload_n 0, 1) := by decide +kernel
theorem dX5_isDigit_1 : decode cX5_isDigit 1 = .ok (.bipush 48, 2) := by decide +kernel
theorem dX5_isDigit_3 : decode cX5_isDigit 3 = .ok (.if_icmp .lt 13, 3) := by decide +kernel
theorem dX5_isDigit_6 : decode cX5_isDigit 6 = .ok (.iload_n 0, 1) := by decide +kernel
theorem dX5_isDigit_7 : decode cX5_isDigit 7 = .ok (.bipush 57, 2) := by decide +kernel
theorem dX5_isDigit_9 : decode cX5_isDigit 9 = .ok (.if_icmp .gt 7, 3) := by decide +kernel
theorem dX5_isDigit_12 : decode cX5_isDigit 12 = .ok (.iconst 1, 1) := by decide +kernel
theorem dX5_isDigit_13 : decode cX5_isDigit 13 = .ok (.goto 4, 3) := by decide +kernel
theorem dX5_isDigit_16 : decode cX5_isDigit 16 = .ok (.iconst 0, 1) := by decide +kernel
theorem dX5_isDigit_17 : decode cX5_isDigit 17 = .ok (.ireturn, 1) := by decide +kernel
theorem dX6_init_0 : decode cX6_init 0 = .ok (.aload_n 0, 1) := by decide +kernel
theorem dX6_init_1 : decode cX6_init 1 = .ok (.invokespecial 3, 3) := by decide +kernel
theorem dX6_init_4 : decode cX6_init 4 = .ok (.aload_n 0, 1) := by decide +kernel
theorem dX6_init_5 : decode cX6_init 5 = .ok (.iconst 5, 1) := by decide +kernel
theorem dX6_init_6 : decode cX6_init 6 = .ok (.newarray .int, 2) := by decide +kernel
theorem dX6_init_8 : decode cX6_init 8 = .ok (.putfield 11, 3) := by decide +kernel
theorem dX6_init_11 : decode cX6_init 11 = .ok (.aload_n 0, 1) := by decide +kernel
theorem dX6_init_12 : decode cX6_init 12 = .ok (.bipush 30, 2) := by decide +kernel
theorem dX6_init_14 : decode cX6_init 14 = .ok (.newarray .long, 2) := by decide +kernel
theorem dX6_init_16 : decode cX6_init 16 = .ok (.putfield 15, 3) := by decide +kernel
theorem dX6_init_19 : decode cX6_init 19 = .ok (.aload_n 0, 1) := by decide +kernel
theorem dX6_init_20 : decode cX6_init 20 = .ok (.iconst 5, 1) := by decide +kernel
theorem dX6_init_21 : decode cX6_init 21 = .ok (.newarray .int, 2) := by decide +kernel
theorem dX6_init_23 : decode cX6_init 23 = .ok (.putfield 19, 3) := by decide +kernel
theorem dX6_init_26 : decode cX6_init 26 = .ok (.aload_n 0, 1) := by decide +kernel
theorem dX6_init_27 : decode cX6_init 27 = .ok (.iconst 5, 1) := by decide +kernel
theorem dX6_init_28 : decode cX6_init 28 = .ok (.newarray .int, 2) := by decide +kernel
theorem dX6_init_30 : decode cX6_init 30 = .ok (.putfield 22, 3) := by decide +kernel
theorem dX6_init_33 : decode cX6_init 33 = .ok (.aload_n 0, 1) := by decide +kernel
theorem dX6_init_34 : decode cX6_init 34 = .ok (.iconst 5, 1) := by decide +kernel
theorem dX6_init_35 : decode cX6_init 35 = .ok (.newarray .int, 2) := by decide +kernel
theorem dX6_init_37 : decode cX6_init 37 = .ok (.putfield 25, 3) := by decide +kernel
theorem dX6_init_40 : decode cX6_init 40 = .ok (.aload_n 0, 1) := by decide +kernel
theorem dX6_init_41 : decode cX6_init 41 = .ok (.iconst 4, 1) := by decide +kernel
theorem dX6_init_42 : decode cX6_init 42 = .ok (.newarray .int, 2) := by decide +kernel
theorem dX6_init_44 : decode cX6_init 44 = .ok (.putfield 28, 3) := by decide +kernel
theorem dX6_init_47 : decode cX6_init 47 = .ok (.aload_n 0, 1) := by decide +kernel
theorem dX6_init_48 : decode cX6_init 48 = .ok (.bipush 20, 2) := by decide +kernel
theorem dX6_init_50 : decode cX6_init 50 = .ok (.newarray .int, 2) := by decide +kernel
theorem dX6_init_52 : decode cX6_init 52 = .ok (.putfield 31, 3) := by decide +kernel
theorem dX6_init_55 : decode cX6_init 55 = .ok (.aload_n 0, 1) := by decide +kernel
theorem dX6_init_56 : decode cX6_init 56 = .ok (.bipush 24, 2) := by decide +kernel
theorem dX6_init_58 : decode cX6_init 58 = .ok (.newarray .int, 2) := by decide +kernel
theorem dX6_init_60 : decode cX6_init 60 = .ok (.putfield 34, 3) := by decide +kernel
theorem dX6_init_63 : decode cX6_init 63 = .ok (.aload_n 0, 1) := by decide +kernel
theorem dX6_init_64 : decode cX6_init 64 = .ok (.iconst 4, 1) := by decide +kernel
theorem dX6_init_65 : decode cX6_init 65 = .ok (.newarray .int, 2) := by decide +kernel
theorem dX6_init_67 : decode cX6_init 67 = .ok (.putfield 37, 3) := by decide +kernel
theorem dX6_init_70 : decode cX6_init 70 = .ok (.aload_n 0, 1) := by decide +kernel
theorem dX6_init_71 : decode cX6_init 71 = .ok (.bipush 12, 2) := by decide +kernel
theorem dX6_init_73 : decode cX6_init 73 = .ok (.newarray .int, 2) := by decide +kernel
theorem dX6_init_75 : decode cX6_init 75 = .ok (.putfield 40, 3) := by decide +kernel
theorem dX6_init_78 : decode cX6_init 78 = .ok (.aload_n 0, 1) := by decide +kernel
theorem dX6_init_79 : decode cX6_init 79 = .ok (.new 43, 3) := by decide +kernel
theorem dX6_init_82 : decode cX6_init 82 = .ok (.dup, 1) := by decide +kernel
theorem dX6_init_83 : decode cX6_init 83 = .ok (.iconst 1, 1) := by decide +kernel
theorem dX6_init_84 : decode cX6_init 84 = .ok (.invokespecial 45, 3) := by decide +kernel
theorem dX6_init_87 : decode cX6_init 87 = .ok (.putfield 48, 3) := by decide +kernel
theorem dX6_init_90 : decode cX6_init 90 = .ok (.aload_n 0, 1) := by decide +kernel
theorem dX6_init_91 : decode cX6_init 91 = .ok (.new 43, 3) := by decide +kernel
theorem dX6_init_94 : decode cX6_init 94 = .ok (.dup, 1) := by decide +kernel
theorem dX6_init_95 : decode cX6_init 95 = .ok (.iconst 0, 1) := by decide +kernel
theorem dX6_init_96 : decode cX6_init 96 = .ok (.invokespecial 45, 3) := by decide +kernel
theorem dX6_init_99 : decode cX6_init 99 = .ok (.putfield 52, 3) := by decide +kernel
theorem dX6_init_102 : decode cX6_init 102 = .ok (.aload_n 0, 1) := by decide +kernel
theorem dX6_init_103 : decode cX6_init 103 = .ok (.sipush 1000, 3) := by decide +kernel
theorem dX6_init_106 : decode cX6_init 106 = .ok (.newarray .int, 2) := by decide +kernel
theorem dX6_init_108 : decode cX6_init 108 = .ok (.putfield 55, 3) := by decide +kernel
theorem dX6_init_111 : decode cX6_init 111 = .ok (.return_, 1) := by decide +kernel
theorem dX6_clear_0 : decode cX6_clear 0 = .ok (.aload_n 0, 1) := by decide +kernel
theorem dX6_clear_1 : decode cX6_clear 1 = .ok (.getfield 11, 3) := by decide +kernel
theorem dX6_clear_4 : decode cX6_clear 4 = .ok (.iconst 0, 1) := by decide +kernel
theorem dX6_clear_5 : decode cX6_clear 5 = .ok (.invokestatic 58, 3) := by decide +kernel
theorem dX6_clear_8 : decode cX6_clear 8 = .ok (.aload_n 0, 1) := by decide +kernel
theorem dX6_clear_9 : decode cX6_clear 9 = .ok (.getfield 31, 3) := by decide +kernel
theorem dX6_clear_12 : decode cX6_clear 12 = .ok (.iconst 0, 1) := by decide +kernel
theorem dX6_clear_13 : decode cX6_clear 13 = .ok (.invokestatic 58, 3) := by decide +kernel
theorem dX6_clear_16 : decode cX6_clear 16 = .ok (.aload_n 0, 1) := by decide +kernel
theorem dX6_clear_17 : decode cX6_clear 17 = .ok (.iconst 0, 1) := by decide +kernel
theorem dX6_clear_18 : decode cX6_clear 18 = .ok (.putfield 64, 3) := by decide +kernel
theorem dX6_clear_21 : decode cX6_clear 21 = .ok (.aload_n 0, 1) := by decide +kernel
theorem dX6_clear_22 : decode cX6_clear 22 = .ok (.getfield 55, 3) := by decide +kernel
theorem dX6_clear_25 : decode cX6_clear 25 = .ok (.iconst (-1), 1) := by decide +kernel
theorem dX6_clear_26 : decode cX6_clear 26 = .ok (.invokestatic 58, 3) := by decide +kernel
theorem dX6_clear_29 : decode cX6_clear 29 = .ok (.aload_n 0, 1) := by decide +kernel
theorem dX6_clear_30 : decode cX6_clear 30 = .ok (.iconst 0, 1) := by decide +kernel
theorem dX6_clear_31 : decode cX6_clear 31 = .ok (.putfield 68, 3) := by decide +kernel
theorem dX6_clear_34 : decode cX6_clear 34 = .ok (.aload_n 0, 1) := by decide +kernel
theorem dX6_clear_35 : decode cX6_clear 35 = .ok (.getfield 48, 3) := by decide +kernel
theorem dX6_clear_38 : decode cX6_clear 38 = .ok (.invokevirtual 71, 3) := by decide +kernel
theorem dX6_clear_41 : decode cX6_clear 41 = .ok (.aload_n 0, 1) := by decide +kernel
theorem dX6_clear_42 : decode cX6_clear 42 = .ok (.getfield 52, 3) := by decide +kernel
theorem dX6_clear_45 : decode cX6_clear 45 = .ok (.invokevirtual 71, 3) := by decide +kernel
theorem dX6_clear_48 : decode cX6_clear 48 = .ok (.return_, 1) := by decide +kernel
theorem dX6_has_0 : decode cX6_has 0 = .ok (.iload_n 2, 1) := by decide +kernel
theorem dX6_has_1 : decode cX6_has 1 = .ok (.ifCond .lt 17, 3) := by decide +kernel
theorem dX6_has_4 : decode cX6_has 4 = .ok (.iload_n 2, 1) := by decide +kernel
theorem dX6_has_5 : decode cX6_has 5 = .ok (.aload_n 0, 1) := by decide +kernel
theorem dX6_has_6 : decode cX6_has 6 = .ok (.getfield 11, 3) := by decide +kernel
theorem dX6_has_9 : decode cX6_has 9 = .ok (.iload_n 1, 1) := by decide +kernel
theorem dX6_has_10 : decode cX6_has 10 = .ok (.iaload, 1) := by decide +kernel
theorem dX6_has_11 : decode cX6_has 11 = .ok (.if_icmp .ge 7, 3) := by decide +kernel
theorem dX6_has_14 : decode cX6_has 14 = .ok (.iconst 1, 1) := by decide +kernel
theorem dX6_has_15 : decode cX6_has 15 = .ok (.goto 4, 3) := by decide +kernel
theorem dX6_has_18 : decode cX6_has 18 = .ok (.iconst 0, 1) := by decide +kernel
theorem dX6_has_19 : decode cX6_has 19 = .ok (.ireturn, 1) := by decide +kernel
theorem dX6_find_0 : decode cX6_find 0 = .ok (.iconst 0, 1) := by decide +kernel
theorem dX6_find_1 : decode cX6_find 1 = .ok (.istore 4, 2) := by decide +kernel
theorem dX6_find_3 : decode cX6_find 3 = .ok (.iload 4, 2) := by decide +kernel
theorem dX6_find_5 : decode cX6_find 5 = .ok (.aload_n 0, 1) := by decide +kernel
theorem dX6_find_6 : decode cX6_find 6 = .ok (.getfield 11, 3) := by decide +kernel
theorem dX6_find_9 : decode cX6_find 9 = .ok (.iload_n 1, 1) := by decide +kernel
theorem dX6_find_10 : decode cX6_find 10 = .ok (.iaload, 1) := by decide +kernel
theorem dX6_find_11 : decode cX6_find 11 = .ok (.if_icmp .ge 29, 3) := by decide +kernel
theorem dX6_find_14 : decode cX6_find 14 = .ok (.aload_n 0, 1) := by decide +kernel
theorem dX6_find_15 : decode cX6_find 15 = .ok (.getfield 15, 3) := by decide +kernel
theorem dX6_find_18 : decode cX6_find 18 = .ok (.iload_n 1, 1) := by decide +kernel
theorem dX6_find_19 : decode cX6_find 19 = .ok (.bipush 6, 2) := by decide +kernel
theorem dX6_find_21 : decode cX6_find 21 = .ok (.imul, 1) := by decide +kernel
theorem dX6_find_22 : decode cX6_find 22 = .ok (.iload 4, 2) := by decide +kernel
theorem dX6_find_24 : decode cX6_find 24 = .ok (.iadd, 1) := by decide +kernel
theorem dX6_find_25 : decode cX6_find 25 = .ok (.laload, 1) := by decide +kernel
theorem dX6_find_26 : decode cX6_find 26 = .ok (.lload_n 2, 1) := by decide +kernel
theorem dX6_find_27 : decode cX6_find 27 = .ok (.lcmp, 1) := by decide +kernel
theorem dX6_find_28 : decode cX6_find 28 = .ok (.ifCond .ne 6, 3) := by decide +kernel
theorem dX6_find_31 : decode cX6_find 31 = .ok (.iload 4, 2) := by decide +kernel
theorem dX6_find_33 : decode cX6_find 33 = .ok (.ireturn, 1) := by decide +kernel
theorem dX6_find_34 : decode cX6_find 34 = .ok (.iinc 4 1, 3) := by decide +kernel
theorem dX6_find_37 : decode cX6_find 37 = .ok (.goto (-34), 3) := by decide +kernel
theorem dX6_find_40 : decode cX6_find 40 = .ok (.iconst (-1), 1) := by decide +kernel
theorem dX6_find_41 : decode cX6_find 41 = .ok (.ireturn, 1) := by decide +kernel
theorem dX6_knows_0 : decode cX6_knows 0 = .ok (.iconst 0, 1) := by decide +kernel
theorem dX6_knows_1 : decode cX6_knows 1 = .ok (.istore_n 3, 1) := by decide +kernel
theorem dX6_knows_2 : decode cX6_knows 2 = .ok (.iload_n 3, 1) := by decide +kernel
theorem dX6_knows_3 : decode cX6_knows 3 = .ok (.iconst 5, 1) := by decide +kernel
theorem dX6_knows_4 : decode cX6_knows 4 = .ok (.if_icmp .ge 21, 3) := by decide +kernel
theorem dX6_knows_7 : decode cX6_knows 7 = .ok (.aload_n 0, 1) := by decide +kernel
theorem dX6_knows_8 : decode cX6_knows 8 = .ok (.iload_n 3, 1) := by decide +kernel
theorem dX6_knows_9 : decode cX6_knows 9 = .ok (.lload_n 1, 1) := by decide +kernel
theorem dX6_knows_10 : decode cX6_knows 10 = .ok (.invokevirtual 74, 3) := by decide +kernel
theorem dX6_knows_13 : decode cX6_knows 13 = .ok (.iconst (-1), 1) := by decide +kernel
theorem dX6_knows_14 : decode cX6_knows 14 = .ok (.if_icmp .eq 5, 3) := by decide +kernel
theorem dX6_knows_17 : decode cX6_knows 17 = .ok (.iconst 1, 1) := by decide +kernel
theorem dX6_knows_18 : decode cX6_knows 18 = .ok (.ireturn, 1) := by decide +kernel
theorem dX6_knows_19 : decode cX6_knows 19 = .ok (.iinc 3 1, 3) := by decide +kernel
theorem dX6_knows_22 : decode cX6_knows 22 = .ok (.goto (-20), 3) := by decide +kernel
theorem dX6_knows_25 : decode cX6_knows 25 = .ok (.iconst 0, 1) := by decide +kernel
theorem dX6_knows_26 : decode cX6_knows 26 = .ok (.ireturn, 1) := by decide +kernel
theorem dX6_enter_0 : decode cX6_enter 0 = .ok (.aload_n 0, 1) := by decide +kernel
theorem dX6_enter_1 : decode cX6_enter 1 = .ok (.getfield 11, 3) := by decide +kernel
theorem dX6_enter_4 : decode cX6_enter 4 = .ok (.iload_n 1, 1) := by decide +kernel
theorem dX6_enter_5 : decode cX6_enter 5 = .ok (.iaload, 1) := by decide +kernel
theorem dX6_enter_6 : decode cX6_enter 6 = .ok (.bipush 6, 2) := by decide +kernel
theorem dX6_enter_8 : decode cX6_enter 8 = .ok (.if_icmp .ge 30, 3) := by decide +kernel
theorem dX6_enter_11 : decode cX6_enter 11 = .ok (.aload_n 0, 1) := by decide +kernel
theorem dX6_enter_12 : decode cX6_enter 12 = .ok (.getfield 15, 3) := by decide +kernel
theorem dX6_enter_15 : decode cX6_enter 15 = .ok (.iload_n 1, 1) := by decide +kernel
theorem dX6_enter_16 : decode cX6_enter 16 = .ok (.bipush 6, 2) := by decide +kernel
theorem dX6_enter_18 : decode cX6_enter 18 = .ok (.imul, 1) := by decide +kernel
theorem dX6_enter_19 : decode cX6_enter 19 = .ok (.aload_n 0, 1) := by decide +kernel
theorem dX6_enter_20 : decode cX6_enter 20 = .ok (.getfield 11, 3) := by decide +kernel
theorem dX6_enter_23 : decode cX6_enter 23 = .ok (.iload_n 1, 1) := by decide +kernel
theorem dX6_enter_24 : decode cX6_enter 24 = .ok (.iaload, 1) := by decide +kernel
theorem dX6_enter_25 : decode cX6_enter 25 = .ok (.iadd, 1) := by decide +kernel
theorem dX6_enter_26 : decode cX6_enter 26 = .ok (.lload_n 2, 1) := by decide +kernel
theorem dX6_enter_27 : decode cX6_enter 27 = .ok (.lastore, 1) := by decide +kernel
theorem dX6_enter_28 : decode cX6_enter 28 = .ok (.aload_n 0, 1) := by decide +kernel
theorem dX6_enter_29 : decode cX6_enter 29 = .ok (.getfield 11, 3) := by decide +kernel
theorem dX6_enter_32 : decode cX6_enter 32 = .ok (.iload_n 1, 1) := by decide +kernel
theorem dX6_enter_33 : decode cX6_enter 33 = .ok (.dup2, 1) := by decide +kernel
theorem dX6_enter_34 : decode cX6_enter 34 = .ok (.iaload, 1) := by decide +kernel
theorem dX6_enter_35 : decode cX6_enter 35 = .ok (.iconst 1, 1) := by decide +kernel
theorem dX6_enter_36 : decode cX6_enter 36 = .ok (.iadd, 1) := by decide +kernel
theorem dX6_enter_37 : decode cX6_enter 37 = .ok (.iastore, 1) := by decide +kernel
theorem dX6_enter_38 : decode cX6_enter 38 = .ok (.return_, 1) := by decide +kernel
theorem dX6_housesAt_0 : decode cX6_housesAt 0 = .ok (.iconst 0, 1) := by decide +kernel
theorem dX6_housesAt_1 : decode cX6_housesAt 1 = .ok (.istore_n 2, 1) := by decide +kernel
theorem dX6_housesAt_2 : decode cX6_housesAt 2 = .ok (.iconst 0, 1) := by decide +kernel
theorem dX6_housesAt_3 : decode cX6_housesAt 3 = .ok (.istore_n 3, 1) := by decide +kernel
theorem dX6_housesAt_4 : decode cX6_housesAt 4 = .ok (.iload_n 3, 1) := by decide +kernel
theorem dX6_housesAt_5 : decode cX6_housesAt 5 = .ok (.aload_n 0, 1) := by decide +kernel
theorem dX6_housesAt_6 : decode cX6_housesAt 6 = .ok (.getfield 11, 3) := by decide +kernel
theorem dX6_housesAt_9 : decode cX6_housesAt 9 = .ok (.iconst 2, 1) := by decide +kernel
theorem dX6_housesAt_10 : decode cX6_housesAt 10 = .ok (.iaload, 1) := by decide +kernel
theorem dX6_housesAt_11 : decode cX6_housesAt 11 = .ok (.if_icmp .ge 25, 3) := by decide +kernel
theorem dX6_housesAt_14 : decode cX6_housesAt 14 = .ok (.aload_n 0, 1) := by decide +kernel
theorem dX6_housesAt_15 : decode cX6_housesAt 15 = .ok (.getfield 28, 3) := by decide +kernel
theorem dX6_housesAt_18 : decode cX6_housesAt 18 = .ok (.iload_n 3, 1) := by decide +kernel
theorem dX6_housesAt_19 : decode cX6_housesAt 19 = .ok (.iaload, 1) := by decide +kernel
theorem dX6_housesAt_20 : decode cX6_housesAt 20 = .ok (.iload_n 1, 1) := by decide +kernel
theorem dX6_housesAt_21 : decode cX6_housesAt 21 = .ok (.if_icmp .ne 9, 3) := by decide +kernel
theorem dX6_housesAt_24 : decode cX6_housesAt 24 = .ok (.iload_n 2, 1) := by decide +kernel
theorem dX6_housesAt_25 : decode cX6_housesAt 25 = .ok (.iconst 1, 1) := by decide +kernel
theorem dX6_housesAt_26 : decode cX6_housesAt 26 = .ok (.iload_n 3, 1) := by decide +kernel
theorem dX6_housesAt_27 : decode cX6_housesAt 27 = .ok (.ishl, 1) := by decide +kernel
theorem dX6_housesAt_28 : decode cX6_housesAt 28 = .ok (.ior, 1) := by decide +kernel
theorem dX6_housesAt_29 : decode cX6_housesAt 29 = .ok (.istore_n 2, 1) := by decide +kernel
theorem dX6_housesAt_30 : decode cX6_housesAt 30 = .ok (.iinc 3 1, 3) := by decide +kernel
theorem dX6_housesAt_33 : decode cX6_housesAt 33 = .ok (.goto (-29), 3) := by decide +kernel
theorem dX6_housesAt_36 : decode cX6_housesAt 36 = .ok (.iload_n 2, 1) := by decide +kernel
theorem dX6_housesAt_37 : decode cX6_housesAt 37 = .ok (.ireturn, 1) := by decide +kernel
theorem dX6_windAt_0 : decode cX6_windAt 0 = .ok (.aload_n 0, 1) := by decide +kernel
theorem dX6_windAt_1 : decode cX6_windAt 1 = .ok (.getfield 68, 3) := by decide +kernel
theorem dX6_windAt_4 : decode cX6_windAt 4 = .ok (.ifCond .le 21, 3) := by decide +kernel
theorem dX6_windAt_7 : decode cX6_windAt 7 = .ok (.iload_n 1, 1) := by decide +kernel
theorem dX6_windAt_8 : decode cX6_windAt 8 = .ok (.ifCond .lt 17, 3) := by decide +kernel
theorem dX6_windAt_11 : decode cX6_windAt 11 = .ok (.aload_n 0, 1) := by decide +kernel
theorem dX6_windAt_12 : decode cX6_windAt 12 = .ok (.getfield 40, 3) := by decide +kernel
theorem dX6_windAt_15 : decode cX6_windAt 15 = .ok (.iload_n 1, 1) := by decide +kernel
theorem dX6_windAt_16 : decode cX6_windAt 16 = .ok (.aload_n 0, 1) := by decide +kernel
theorem dX6_windAt_17 : decode cX6_windAt 17 = .ok (.getfield 68, 3) := by decide +kernel
theorem dX6_windAt_20 : decode cX6_windAt 20 = .ok (.irem, 1) := by decide +kernel
theorem dX6_windAt_21 : decode cX6_windAt 21 = .ok (.iaload, 1) := by decide +kernel
theorem dX6_windAt_22 : decode cX6_windAt 22 = .ok (.goto 4, 3) := by decide +kernel
theorem dX6_windAt_25 : decode cX6_windAt 25 = .ok (.iconst 0, 1) := by decide +kernel
theorem dX6_windAt_26 : decode cX6_windAt 26 = .ok (.ireturn, 1) := by decide +kernel
theorem dX6_givesOf_0 : decode cX6_givesOf 0 = .ok (.iload_n 1, 1) := by decide +kernel
theorem dX6_givesOf_1 : decode cX6_givesOf 1 = .ok (.ifCond .lt 24, 3) := by decide +kernel
theorem dX6_givesOf_4 : decode cX6_givesOf 4 = .ok (.iload_n 1, 1) := by decide +kernel
theorem dX6_givesOf_5 : decode cX6_givesOf 5 = .ok (.aload_n 0, 1) := by decide +kernel
theorem dX6_givesOf_6 : decode cX6_givesOf 6 = .ok (.getfield 11, 3) := by decide +kernel
theorem dX6_givesOf_9 : decode cX6_givesOf 9 = .ok (.iconst 0, 1) := by decide +kernel
theorem dX6_givesOf_10 : decode cX6_givesOf 10 = .ok (.iaload, 1) := by decide +kernel
theorem dX6_givesOf_11 : decode cX6_givesOf 11 = .ok (.if_icmp .ge 14, 3) := by decide +kernel
theorem dX6_givesOf_14 : decode cX6_givesOf 14 = .ok (.iload_n 2, 1) := by decide +kernel
theorem dX6_givesOf_15 : decode cX6_givesOf 15 = .ok (.iconst 1, 1) := by decide +kernel
theorem dX6_givesOf_16 : decode cX6_givesOf 16 = .ok (.if_icmp .lt 9, 3) := by decide +kernel
theorem dX6_givesOf_19 : decode cX6_givesOf 19 = .ok (.iload_n 2, 1) := by decide +kernel
theorem dX6_givesOf_20 : decode cX6_givesOf 20 = .ok (.bipush 9, 2) := by decide +kernel
theorem dX6_givesOf_22 : decode cX6_givesOf 22 = .ok (.if_icmp .le 5, 3) := by decide +kernel
theorem dX6_givesOf_25 : decode cX6_givesOf 25 = .ok (.iconst 0, 1) := by decide +kernel
theorem dX6_givesOf_26 : decode cX6_givesOf 26 = .ok (.ireturn, 1) := by decide +kernel
theorem dX6_givesOf_27 : decode cX6_givesOf 27 = .ok (.iload_n 1, 1) := by decide +kernel
theorem dX6_givesOf_28 : decode cX6_givesOf 28 = .ok (.bipush 10, 2) := by decide +kernel
theorem dX6_givesOf_30 : decode cX6_givesOf 30 = .ok (.imul, 1) := by decide +kernel
theorem dX6_givesOf_31 : decode cX6_givesOf 31 = .ok (.iload_n 2, 1) := by decide +kernel
theorem dX6_givesOf_32 : decode cX6_givesOf 32 = .ok (.iadd, 1) := by decide +kernel
theorem dX6_givesOf_33 : decode cX6_givesOf 33 = .ok (.bipush 10, 2) := by decide +kernel
theorem dX6_givesOf_35 : decode cX6_givesOf 35 = .ok (.imul, 1) := by decide +kernel
theorem dX6_givesOf_36 : decode cX6_givesOf 36 = .ok (.iload_n 3, 1) := by decide +kernel
theorem dX6_givesOf_37 : decode cX6_givesOf 37 = .ok (.iadd, 1) := by decide +kernel
theorem dX6_givesOf_38 : decode cX6_givesOf 38 = .ok (.iconst 2, 1) := by decide +kernel
theorem dX6_givesOf_39 : decode cX6_givesOf 39 = .ok (.imul, 1) := by decide +kernel
theorem dX6_givesOf_40 : decode cX6_givesOf 40 = .ok (.iload 4, 2) := by decide +kernel
theorem dX6_givesOf_42 : decode cX6_givesOf 42 = .ok (.iadd, 1) := by decide +kernel
theorem dX6_givesOf_43 : decode cX6_givesOf 43 = .ok (.istore 5, 2) := by decide +kernel
theorem dX6_givesOf_45 : decode cX6_givesOf 45 = .ok (.iload 5, 2) := by decide +kernel
theorem dX6_givesOf_47 : decode cX6_givesOf 47 = .ok (.ifCond .lt 13, 3) := by decide +kernel
theorem dX6_givesOf_50 : decode cX6_givesOf 50 = .ok (.iload 5, 2) := by decide +kernel
theorem dX6_givesOf_52 : decode cX6_givesOf 52 = .ok (.aload_n 0, 1) := by decide +kernel
theorem dX6_givesOf_53 : decode cX6_givesOf 53 = .ok (.getfield 55, 3) := by decide +kernel
theorem dX6_givesOf_56 : decode cX6_givesOf 56 = .ok (.arraylength, 1) := by decide +kernel
theorem dX6_givesOf_57 : decode cX6_givesOf 57 = .ok (.if_icmp .lt 5, 3) := by decide +kernel
theorem dX6_givesOf_60 : decode cX6_givesOf 60 = .ok (.iconst 0, 1) := by decide +kernel
theorem dX6_givesOf_61 : decode cX6_givesOf 61 = .ok (.ireturn, 1) := by decide +kernel
theorem dX6_givesOf_62 : decode cX6_givesOf 62 = .ok (.aload_n 0, 1) := by decide +kernel
theorem dX6_givesOf_63 : decode cX6_givesOf 63 = .ok (.getfield 55, 3) := by decide +kernel
theorem dX6_givesOf_66 : decode cX6_givesOf 66 = .ok (.iload 5, 2) := by decide +kernel
theorem dX6_givesOf_68 : decode cX6_givesOf 68 = .ok (.iaload, 1) := by decide +kernel
theorem dX6_givesOf_69 : decode cX6_givesOf 69 = .ok (.iconst (-1), 1) := by decide +kernel
theorem dX6_givesOf_70 : decode cX6_givesOf 70 = .ok (.if_icmp .ne 80, 3) := by decide +kernel
theorem dX6_givesOf_73 : decode cX6_givesOf 73 = .ok (.iload 4, 2) := by decide +kernel
theorem dX6_givesOf_75 : decode cX6_givesOf 75 = .ok (.ifCond .ne 12, 3) := by decide +kernel
theorem dX6_givesOf_78 : decode cX6_givesOf 78 = .ok (.aload_n 0, 1) := by decide +kernel
theorem dX6_givesOf_79 : decode cX6_givesOf 79 = .ok (.getfield 19, 3) := by decide +kernel
theorem dX6_givesOf_82 : decode cX6_givesOf 82 = .ok (.iload_n 1, 1) := by decide +kernel
theorem dX6_givesOf_83 : decode cX6_givesOf 83 = .ok (.iaload, 1) := by decide +kernel
theorem dX6_givesOf_84 : decode cX6_givesOf 84 = .ok (.goto 9, 3) := by decide +kernel
theorem dX6_givesOf_87 : decode cX6_givesOf 87 = .ok (.aload_n 0, 1) := by decide +kernel
theorem dX6_givesOf_88 : decode cX6_givesOf 88 = .ok (.getfield 22, 3) := by decide +kernel
theorem dX6_givesOf_91 : decode cX6_givesOf 91 = .ok (.iload_n 1, 1) := by decide +kernel
theorem dX6_givesOf_92 : decode cX6_givesOf 92 = .ok (.iaload, 1) := by decide +kernel
theorem dX6_givesOf_93 : decode cX6_givesOf 93 = .ok (.istore 6, 2) := by decide +kernel
theorem dX6_givesOf_95 : decode cX6_givesOf 95 = .ok (.aload_n 0, 1) := by decide +kernel
theorem dX6_givesOf_96 : decode cX6_givesOf 96 = .ok (.getfield 48, 3) := by decide +kernel
theorem dX6_givesOf_99 : decode cX6_givesOf 99 = .ok (.invokevirtual 78, 3) := by decide +kernel
theorem dX6_givesOf_102 : decode cX6_givesOf 102 = .ok (.ifCond .eq 29, 3) := by decide +kernel
theorem dX6_givesOf_105 : decode cX6_givesOf 105 = .ok (.aload_n 0, 1) := by decide +kernel
theorem dX6_givesOf_106 : decode cX6_givesOf 106 = .ok (.getfield 48, 3) := by decide +kernel
theorem dX6_givesOf_109 : decode cX6_givesOf 109 = .ok (.aload_n 0, 1) := by decide +kernel
theorem dX6_givesOf_110 : decode cX6_givesOf 110 = .ok (.getfield 19, 3) := by decide +kernel
theorem dX6_givesOf_113 : decode cX6_givesOf 113 = .ok (.iload_n 1, 1) := by decide +kernel
theorem dX6_givesOf_114 : decode cX6_givesOf 114 = .ok (.iaload, 1) := by decide +kernel
theorem dX6_givesOf_115 : decode cX6_givesOf 115 = .ok (.aload_n 0, 1) := by decide +kernel
theorem dX6_givesOf_116 : decode cX6_givesOf 116 = .ok (.getfield 22, 3) := by decide +kernel
theorem dX6_givesOf_119 : decode cX6_givesOf 119 = .ok (.iload_n 1, 1) := by decide +kernel
theorem dX6_givesOf_120 : decode cX6_givesOf 120 = .ok (.iaload, 1) := by decide +kernel
theorem dX6_givesOf_121 : decode cX6_givesOf 121 = .ok (.iload_n 3, 1) := by decide +kernel
theorem dX6_givesOf_122 : decode cX6_givesOf 122 = .ok (.iload_n 2, 1) := by decide +kernel
theorem dX6_givesOf_123 : decode cX6_givesOf 123 = .ok (.iload 4, 2) := by decide +kernel
theorem dX6_givesOf_125 : decode cX6_givesOf 125 = .ok (.invokevirtual 82, 3) := by decide +kernel
theorem dX6_givesOf_128 : decode cX6_givesOf 128 = .ok (.goto 5, 3) := by decide +kernel
theorem dX6_givesOf_131 : decode cX6_givesOf 131 = .ok (.iload 6, 2) := by decide +kernel
theorem dX6_givesOf_133 : decode cX6_givesOf 133 = .ok (.istore 7, 2) := by decide +kernel
theorem dX6_givesOf_135 : decode cX6_givesOf 135 = .ok (.aload_n 0, 1) := by decide +kernel
theorem dX6_givesOf_136 : decode cX6_givesOf 136 = .ok (.getfield 55, 3) := by decide +kernel
theorem dX6_givesOf_139 : decode cX6_givesOf 139 = .ok (.iload 5, 2) := by decide +kernel
theorem dX6_givesOf_141 : decode cX6_givesOf 141 = .ok (.iload 7, 2) := by decide +kernel
theorem dX6_givesOf_143 : decode cX6_givesOf 143 = .ok (.sipush 999, 3) := by decide +kernel
theorem dX6_givesOf_146 : decode cX6_givesOf 146 = .ok (.invokestatic 86, 3) := by decide +kernel
theorem dX6_givesOf_149 : decode cX6_givesOf 149 = .ok (.iastore, 1) := by decide +kernel
theorem dX6_givesOf_150 : decode cX6_givesOf 150 = .ok (.aload_n 0, 1) := by decide +kernel
theorem dX6_givesOf_151 : decode cX6_givesOf 151 = .ok (.getfield 55, 3) := by decide +kernel
theorem dX6_givesOf_154 : decode cX6_givesOf 154 = .ok (.iload 5, 2) := by decide +kernel
theorem dX6_givesOf_156 : decode cX6_givesOf 156 = .ok (.iaload, 1) := by decide +kernel
theorem dX6_givesOf_157 : decode cX6_givesOf 157 = .ok (.ireturn, 1) := by decide +kernel
theorem dX6_fresh_0 : decode cX6_fresh 0 = .ok (.aload_n 0, 1) := by decide +kernel
theorem dX6_fresh_1 : decode cX6_fresh 1 = .ok (.iconst 0, 1) := by decide +kernel
theorem dX6_fresh_2 : decode cX6_fresh 2 = .ok (.iload_n 1, 1) := by decide +kernel
theorem dX6_fresh_3 : decode cX6_fresh 3 = .ok (.invokevirtual 90, 3) := by decide +kernel
theorem dX6_fresh_6 : decode cX6_fresh 6 = .ok (.ifCond .eq 19, 3) := by decide +kernel
theorem dX6_fresh_9 : decode cX6_fresh 9 = .ok (.aload_n 0, 1) := by decide +kernel
theorem dX6_fresh_10 : decode cX6_fresh 10 = .ok (.iload_n 1, 1) := by decide +kernel
theorem dX6_fresh_11 : decode cX6_fresh 11 = .ok (.aload_n 0, 1) := by decide +kernel
theorem dX6_fresh_12 : decode cX6_fresh 12 = .ok (.getfield 25, 3) := by decide +kernel
theorem dX6_fresh_15 : decode cX6_fresh 15 = .ok (.iload_n 1, 1) := by decide +kernel
theorem dX6_fresh_16 : decode cX6_fresh 16 = .ok (.iaload, 1) := by decide +kernel
theorem dX6_fresh_17 : decode cX6_fresh 17 = .ok (.iload_n 2, 1) := by decide +kernel
theorem dX6_fresh_18 : decode cX6_fresh 18 = .ok (.iload_n 3, 1) := by decide +kernel
theorem dX6_fresh_19 : decode cX6_fresh 19 = .ok (.invokevirtual 94, 3) := by decide +kernel
theorem dX6_fresh_22 : decode cX6_fresh 22 = .ok (.goto 4, 3) := by decide +kernel
theorem dX6_fresh_25 : decode cX6_fresh 25 = .ok (.iconst 0, 1) := by decide +kernel
theorem dX6_fresh_26 : decode cX6_fresh 26 = .ok (.ireturn, 1) := by decide +kernel
theorem dX6_sootOf_0 : decode cX6_sootOf 0 = .ok (.aload_n 0, 1) := by decide +kernel
theorem dX6_sootOf_1 : decode cX6_sootOf 1 = .ok (.getfield 52, 3) := by decide +kernel
theorem dX6_sootOf_4 : decode cX6_sootOf 4 = .ok (.invokevirtual 78, 3) := by decide +kernel
theorem dX6_sootOf_7 : decode cX6_sootOf 7 = .ok (.ifCond .eq 18, 3) := by decide +kernel
theorem dX6_sootOf_10 : decode cX6_sootOf 10 = .ok (.aload_n 0, 1) := by decide +kernel
theorem dX6_sootOf_11 : decode cX6_sootOf 11 = .ok (.getfield 52, 3) := by decide +kernel
theorem dX6_sootOf_14 : decode cX6_sootOf 14 = .ok (.iload_n 1, 1) := by decide +kernel
theorem dX6_sootOf_15 : decode cX6_sootOf 15 = .ok (.iload_n 2, 1) := by decide +kernel
theorem dX6_sootOf_16 : decode cX6_sootOf 16 = .ok (.iload_n 3, 1) := by decide +kernel
theorem dX6_sootOf_17 : decode cX6_sootOf 17 = .ok (.iconst 0, 1) := by decide +kernel
theorem dX6_sootOf_18 : decode cX6_sootOf 18 = .ok (.iconst 0, 1) := by decide +kernel
theorem dX6_sootOf_19 : decode cX6_sootOf 19 = .ok (.invokevirtual 82, 3) := by decide +kernel
theorem dX6_sootOf_22 : decode cX6_sootOf 22 = .ok (.goto 4, 3) := by decide +kernel
theorem dX6_sootOf_25 : decode cX6_sootOf 25 = .ok (.iload_n 1, 1) := by decide +kernel
theorem dX6_sootOf_26 : decode cX6_sootOf 26 = .ok (.istore 4, 2) := by decide +kernel
theorem dX6_sootOf_28 : decode cX6_sootOf 28 = .ok (.iload 4, 2) := by decide +kernel
theorem dX6_sootOf_30 : decode cX6_sootOf 30 = .ok (.sipush 999, 3) := by decide +kernel
theorem dX6_sootOf_33 : decode cX6_sootOf 33 = .ok (.invokestatic 86, 3) := by decide +kernel
theorem dX6_sootOf_36 : decode cX6_sootOf 36 = .ok (.ireturn, 1) := by decide +kernel
theorem dX6_fits_0 : decode cX6_fits 0 = .ok (.iload_n 1, 1) := by decide +kernel
theorem dX6_fits_1 : decode cX6_fits 1 = .ok (.iconst 4, 1) := by decide +kernel
theorem dX6_fits_2 : decode cX6_fits 2 = .ok (.imul, 1) := by decide +kernel
theorem dX6_fits_3 : decode cX6_fits 3 = .ok (.iload_n 3, 1) := by decide +kernel
theorem dX6_fits_4 : decode cX6_fits 4 = .ok (.iconst 2, 1) := by decide +kernel
theorem dX6_fits_5 : decode cX6_fits 5 = .ok (.imul, 1) := by decide +kernel
theorem dX6_fits_6 : decode cX6_fits 6 = .ok (.iadd, 1) := by decide +kernel
theorem dX6_fits_7 : decode cX6_fits 7 = .ok (.istore 4, 2) := by decide +kernel
theorem dX6_fits_9 : decode cX6_fits 9 = .ok (.iload_n 2, 1) := by decide +kernel
theorem dX6_fits_10 : decode cX6_fits 10 = .ok (.aload_n 0, 1) := by decide +kernel
theorem dX6_fits_11 : decode cX6_fits 11 = .ok (.getfield 34, 3) := by decide +kernel
theorem dX6_fits_14 : decode cX6_fits 14 = .ok (.iload 4, 2) := by decide +kernel
theorem dX6_fits_16 : decode cX6_fits 16 = .ok (.iaload, 1) := by decide +kernel
theorem dX6_fits_17 : decode cX6_fits 17 = .ok (.if_icmp .lt 20, 3) := by decide +kernel
theorem dX6_fits_20 : decode cX6_fits 20 = .ok (.iload_n 2, 1) := by decide +kernel
theorem dX6_fits_21 : decode cX6_fits 21 = .ok (.aload_n 0, 1) := by decide +kernel
theorem dX6_fits_22 : decode cX6_fits 22 = .ok (.getfield 34, 3) := by decide +kernel
theorem dX6_fits_25 : decode cX6_fits 25 = .ok (.iload 4, 2) := by decide +kernel
theorem dX6_fits_27 : decode cX6_fits 27 = .ok (.iconst 1, 1) := by decide +kernel
theorem dX6_fits_28 : decode cX6_fits 28 = .ok (.iadd, 1) := by decide +kernel
theorem dX6_fits_29 : decode cX6_fits 29 = .ok (.iaload, 1) := by decide +kernel
theorem dX6_fits_30 : decode cX6_fits 30 = .ok (.if_icmp .gt 7, 3) := by decide +kernel
theorem dX6_fits_33 : decode cX6_fits 33 = .ok (.iconst 1, 1) := by decide +kernel
theorem dX6_fits_34 : decode cX6_fits 34 = .ok (.goto 4, 3) := by decide +kernel
theorem dX6_fits_37 : decode cX6_fits 37 = .ok (.iconst 0, 1) := by decide +kernel
theorem dX6_fits_38 : decode cX6_fits 38 = .ok (.ireturn, 1) := by decide +kernel
theorem dX6_fitsNone_0 : decode cX6_fitsNone 0 = .ok (.iconst 0, 1) := by decide +kernel
theorem dX6_fitsNone_1 : decode cX6_fitsNone 1 = .ok (.istore_n 3, 1) := by decide +kernel
theorem dX6_fitsNone_2 : decode cX6_fitsNone 2 = .ok (.iload_n 3, 1) := by decide +kernel
theorem dX6_fitsNone_3 : decode cX6_fitsNone 3 = .ok (.aload_n 0, 1) := by decide +kernel
theorem dX6_fitsNone_4 : decode cX6_fitsNone 4 = .ok (.getfield 11, 3) := by decide +kernel
theorem dX6_fitsNone_7 : decode cX6_fitsNone 7 = .ok (.iconst 3, 1) := by decide +kernel
theorem dX6_fitsNone_8 : decode cX6_fitsNone 8 = .ok (.iaload, 1) := by decide +kernel
theorem dX6_fitsNone_9 : decode cX6_fitsNone 9 = .ok (.if_icmp .ge 21, 3) := by decide +kernel
theorem dX6_fitsNone_12 : decode cX6_fitsNone 12 = .ok (.aload_n 0, 1) := by decide +kernel
theorem dX6_fitsNone_13 : decode cX6_fitsNone 13 = .ok (.iload_n 3, 1) := by decide +kernel
theorem dX6_fitsNone_14 : decode cX6_fitsNone 14 = .ok (.iload_n 1, 1) := by decide +kernel
theorem dX6_fitsNone_15 : decode cX6_fitsNone 15 = .ok (.iload_n 2, 1) := by decide +kernel
theorem dX6_fitsNone_16 : decode cX6_fitsNone 16 = .ok (.invokevirtual 98, 3) := by decide +kernel
theorem dX6_fitsNone_19 : decode cX6_fitsNone 19 = .ok (.ifCond .eq 5, 3) := by decide +kernel
theorem dX6_fitsNone_22 : decode cX6_fitsNone 22 = .ok (.iconst 0, 1) := by decide +kernel
theorem dX6_fitsNone_23 : decode cX6_fitsNone 23 = .ok (.ireturn, 1) := by decide +kernel
theorem dX6_fitsNone_24 : decode cX6_fitsNone 24 = .ok (.iinc 3 1, 3) := by decide +kernel
theorem dX6_fitsNone_27 : decode cX6_fitsNone 27 = .ok (.goto (-25), 3) := by decide +kernel
theorem dX6_fitsNone_30 : decode cX6_fitsNone 30 = .ok (.iconst 1, 1) := by decide +kernel
theorem dX6_fitsNone_31 : decode cX6_fitsNone 31 = .ok (.ireturn, 1) := by decide +kernel
theorem dX6_overlap_0 : decode cX6_overlap 0 = .ok (.iload_n 1, 1) := by decide +kernel
theorem dX6_overlap_1 : decode cX6_overlap 1 = .ok (.iconst 4, 1) := by decide +kernel
theorem dX6_overlap_2 : decode cX6_overlap 2 = .ok (.imul, 1) := by decide +kernel
theorem dX6_overlap_3 : decode cX6_overlap 3 = .ok (.iload_n 3, 1) := by decide +kernel
theorem dX6_overlap_4 : decode cX6_overlap 4 = .ok (.iconst 2, 1) := by decide +kernel
theorem dX6_overlap_5 : decode cX6_overlap 5 = .ok (.imul, 1) := by decide +kernel
theorem dX6_overlap_6 : decode cX6_overlap 6 = .ok (.iadd, 1) := by decide +kernel
theorem dX6_overlap_7 : decode cX6_overlap 7 = .ok (.istore 4, 2) := by decide +kernel
theorem dX6_overlap_9 : decode cX6_overlap 9 = .ok (.iload_n 2, 1) := by decide +kernel
theorem dX6_overlap_10 : decode cX6_overlap 10 = .ok (.iconst 4, 1) := by decide +kernel
theorem dX6_overlap_11 : decode cX6_overlap 11 = .ok (.imul, 1) := by decide +kernel
theorem dX6_overlap_12 : decode cX6_overlap 12 = .ok (.iload_n 3, 1) := by decide +kernel
theorem dX6_overlap_13 : decode cX6_overlap 13 = .ok (.iconst 2, 1) := by decide +kernel
theorem dX6_overlap_14 : decode cX6_overlap 14 = .ok (.imul, 1) := by decide +kernel
theorem dX6_overlap_15 : decode cX6_overlap 15 = .ok (.iadd, 1) := by decide +kernel
theorem dX6_overlap_16 : decode cX6_overlap 16 = .ok (.istore 5, 2) := by decide +kernel
theorem dX6_overlap_18 : decode cX6_overlap 18 = .ok (.aload_n 0, 1) := by decide +kernel
theorem dX6_overlap_19 : decode cX6_overlap 19 = .ok (.getfield 34, 3) := by decide +kernel
theorem dX6_overlap_22 : decode cX6_overlap 22 = .ok (.iload 4, 2) := by decide +kernel
theorem dX6_overlap_24 : decode cX6_overlap 24 = .ok (.iaload, 1) := by decide +kernel
theorem dX6_overlap_25 : decode cX6_overlap 25 = .ok (.aload_n 0, 1) := by decide +kernel
theorem dX6_overlap_26 : decode cX6_overlap 26 = .ok (.getfield 34, 3) := by decide +kernel
theorem dX6_overlap_29 : decode cX6_overlap 29 = .ok (.iload 5, 2) := by decide +kernel
theorem dX6_overlap_31 : decode cX6_overlap 31 = .ok (.iconst 1, 1) := by decide +kernel
theorem dX6_overlap_32 : decode cX6_overlap 32 = .ok (.iadd, 1) := by decide +kernel
theorem dX6_overlap_33 : decode cX6_overlap 33 = .ok (.iaload, 1) := by decide +kernel
theorem dX6_overlap_34 : decode cX6_overlap 34 = .ok (.if_icmp .gt 26, 3) := by decide +kernel
theorem dX6_overlap_37 : decode cX6_overlap 37 = .ok (.aload_n 0, 1) := by decide +kernel
theorem dX6_overlap_38 : decode cX6_overlap 38 = .ok (.getfield 34, 3) := by decide +kernel
theorem dX6_overlap_41 : decode cX6_overlap 41 = .ok (.iload 5, 2) := by decide +kernel
theorem dX6_overlap_43 : decode cX6_overlap 43 = .ok (.iaload, 1) := by decide +kernel
theorem dX6_overlap_44 : decode cX6_overlap 44 = .ok (.aload_n 0, 1) := by decide +kernel
theorem dX6_overlap_45 : decode cX6_overlap 45 = .ok (.getfield 34, 3) := by decide +kernel
theorem dX6_overlap_48 : decode cX6_overlap 48 = .ok (.iload 4, 2) := by decide +kernel
theorem dX6_overlap_50 : decode cX6_overlap 50 = .ok (.iconst 1, 1) := by decide +kernel
theorem dX6_overlap_51 : decode cX6_overlap 51 = .ok (.iadd, 1) := by decide +kernel
theorem dX6_overlap_52 : decode cX6_overlap 52 = .ok (.iaload, 1) := by decide +kernel
theorem dX6_overlap_53 : decode cX6_overlap 53 = .ok (.if_icmp .gt 7, 3) := by decide +kernel
theorem dX6_overlap_56 : decode cX6_overlap 56 = .ok (.iconst 1, 1) := by decide +kernel
theorem dX6_overlap_57 : decode cX6_overlap 57 = .ok (.goto 4, 3) := by decide +kernel
theorem dX6_overlap_60 : decode cX6_overlap 60 = .ok (.iconst 0, 1) := by decide +kernel
theorem dX6_overlap_61 : decode cX6_overlap 61 = .ok (.ireturn, 1) := by decide +kernel
theorem dX6_signOf_0 : decode cX6_signOf 0 = .ok (.iload_n 1, 1) := by decide +kernel
theorem dX6_signOf_1 : decode cX6_signOf 1 = .ok (.sipush 999, 3) := by decide +kernel
theorem dX6_signOf_4 : decode cX6_signOf 4 = .ok (.invokestatic 102, 3) := by decide +kernel
theorem dX6_signOf_7 : decode cX6_signOf 7 = .ok (.istore_n 3, 1) := by decide +kernel
theorem dX6_signOf_8 : decode cX6_signOf 8 = .ok (.iload_n 2, 1) := by decide +kernel
theorem dX6_signOf_9 : decode cX6_signOf 9 = .ok (.sipush 999, 3) := by decide +kernel
theorem dX6_signOf_12 : decode cX6_signOf 12 = .ok (.invokestatic 102, 3) := by decide +kernel
theorem dX6_signOf_15 : decode cX6_signOf 15 = .ok (.istore 4, 2) := by decide +kernel
theorem dX6_signOf_17 : decode cX6_signOf 17 = .ok (.iconst 0, 1) := by decide +kernel
theorem dX6_signOf_18 : decode cX6_signOf 18 = .ok (.istore 5, 2) := by decide +kernel
theorem dX6_signOf_20 : decode cX6_signOf 20 = .ok (.iload 5, 2) := by decide +kernel
theorem dX6_signOf_22 : decode cX6_signOf 22 = .ok (.aload_n 0, 1) := by decide +kernel
theorem dX6_signOf_23 : decode cX6_signOf 23 = .ok (.getfield 11, 3) := by decide +kernel
theorem dX6_signOf_26 : decode cX6_signOf 26 = .ok (.iconst 3, 1) := by decide +kernel
theorem dX6_signOf_27 : decode cX6_signOf 27 = .ok (.iaload, 1) := by decide +kernel
theorem dX6_signOf_28 : decode cX6_signOf 28 = .ok (.if_icmp .ge 35, 3) := by decide +kernel
theorem dX6_signOf_31 : decode cX6_signOf 31 = .ok (.aload_n 0, 1) := by decide +kernel
theorem dX6_signOf_32 : decode cX6_signOf 32 = .ok (.iload 5, 2) := by decide +kernel
theorem dX6_signOf_34 : decode cX6_signOf 34 = .ok (.iload_n 3, 1) := by decide +kernel
theorem dX6_signOf_35 : decode cX6_signOf 35 = .ok (.iconst 0, 1) := by decide +kernel
theorem dX6_signOf_36 : decode cX6_signOf 36 = .ok (.invokevirtual 98, 3) := by decide +kernel
theorem dX6_signOf_39 : decode cX6_signOf 39 = .ok (.ifCond .eq 18, 3) := by decide +kernel
theorem dX6_signOf_42 : decode cX6_signOf 42 = .ok (.aload_n 0, 1) := by decide +kernel
theorem dX6_signOf_43 : decode cX6_signOf 43 = .ok (.iload 5, 2) := by decide +kernel
theorem dX6_signOf_45 : decode cX6_signOf 45 = .ok (.iload 4, 2) := by decide +kernel
theorem dX6_signOf_47 : decode cX6_signOf 47 = .ok (.iconst 1, 1) := by decide +kernel
theorem dX6_signOf_48 : decode cX6_signOf 48 = .ok (.invokevirtual 98, 3) := by decide +kernel
theorem dX6_signOf_51 : decode cX6_signOf 51 = .ok (.ifCond .eq 6, 3) := by decide +kernel
theorem dX6_signOf_54 : decode cX6_signOf 54 = .ok (.iload 5, 2) := by decide +kernel
theorem dX6_signOf_56 : decode cX6_signOf 56 = .ok (.ireturn, 1) := by decide +kernel
theorem dX6_signOf_57 : decode cX6_signOf 57 = .ok (.iinc 5 1, 3) := by decide +kernel
theorem dX6_signOf_60 : decode cX6_signOf 60 = .ok (.goto (-40), 3) := by decide +kernel
theorem dX6_signOf_63 : decode cX6_signOf 63 = .ok (.iconst (-1), 1) := by decide +kernel
theorem dX6_signOf_64 : decode cX6_signOf 64 = .ok (.ireturn, 1) := by decide +kernel
theorem dX7_init_0 : decode cX7_init 0 = .ok (.aload_n 0, 1) := by decide +kernel
theorem dX7_init_1 : decode cX7_init 1 = .ok (.invokespecial 3, 3) := by decide +kernel
theorem dX7_init_4 : decode cX7_init 4 = .ok (.aload_n 0, 1) := by decide +kernel
theorem dX7_init_5 : decode cX7_init 5 = .ok (.aload_n 1, 1) := by decide +kernel
theorem dX7_init_6 : decode cX7_init 6 = .ok (.putfield 9, 3) := by decide +kernel
theorem dX7_init_9 : decode cX7_init 9 = .ok (.aload_n 0, 1) := by decide +kernel
theorem dX7_init_10 : decode cX7_init 10 = .ok (.aload_n 2, 1) := by decide +kernel
theorem dX7_init_11 : decode cX7_init 11 = .ok (.putfield 15, 3) := by decide +kernel
theorem dX7_init_14 : decode cX7_init 14 = .ok (.return_, 1) := by decide +kernel
theorem dX7_readLines_0 : decode cX7_readLines 0 = .ok (.aload_n 0, 1) := by decide +kernel
theorem dX7_readLines_1 : decode cX7_readLines 1 = .ok (.getfield 15, 3) := by decide +kernel
theorem dX7_readLines_4 : decode cX7_readLines 4 = .ok (.invokevirtual 19, 3) := by decide +kernel
theorem dX7_readLines_7 : decode cX7_readLines 7 = .ok (.aload_n 0, 1) := by decide +kernel
theorem dX7_readLines_8 : decode cX7_readLines 8 = .ok (.getfield 9, 3) := by decide +kernel
theorem dX7_readLines_11 : decode cX7_readLines 11 = .ok (.invokevirtual 24, 3) := by decide +kernel
theorem dX7_readLines_14 : decode cX7_readLines 14 = .ok (.iconst 0, 1) := by decide +kernel
theorem dX7_readLines_15 : decode cX7_readLines 15 = .ok (.istore_n 1, 1) := by decide +kernel
theorem dX7_readLines_16 : decode cX7_readLines 16 = .ok (.iload_n 1, 1) := by decide +kernel
theorem dX7_readLines_17 : decode cX7_readLines 17 = .ok (.sipush 1000, 3) := by decide +kernel
theorem dX7_readLines_20 : decode cX7_readLines 20 = .ok (.if_icmp .ge 221, 3) := by decide +kernel
theorem dX7_readLines_23 : decode cX7_readLines 23 = .ok (.aload_n 0, 1) := by decide +kernel
theorem dX7_readLines_24 : decode cX7_readLines 24 = .ok (.getfield 9, 3) := by decide +kernel
theorem dX7_readLines_27 : decode cX7_readLines 27 = .ok (.invokevirtual 29, 3) := by decide +kernel
theorem dX7_readLines_30 : decode cX7_readLines 30 = .ok (.ifCond .ne 211, 3) := by decide +kernel
theorem dX7_readLines_33 : decode cX7_readLines 33 = .ok (.aload_n 0, 1) := by decide +kernel
theorem dX7_readLines_34 : decode cX7_readLines 34 = .ok (.getfield 9, 3) := by decide +kernel
theorem dX7_readLines_37 : decode cX7_readLines 37 = .ok (.getstatic 33, 3) := by decide +kernel
theorem dX7_readLines_40 : decode cX7_readLines 40 = .ok (.invokevirtual 39, 3) := by decide +kernel
theorem dX7_readLines_43 : decode cX7_readLines 43 = .ok (.ifCond .eq 10, 3) := by decide +kernel
theorem dX7_readLines_46 : decode cX7_readLines 46 = .ok (.aload_n 0, 1) := by decide +kernel
theorem dX7_readLines_47 : decode cX7_readLines 47 = .ok (.invokevirtual 43, 3) := by decide +kernel
theorem dX7_readLines_50 : decode cX7_readLines 50 = .ok (.goto 185, 3) := by decide +kernel
theorem dX7_readLines_53 : decode cX7_readLines 53 = .ok (.aload_n 0, 1) := by decide +kernel
theorem dX7_readLines_54 : decode cX7_readLines 54 = .ok (.getfield 9, 3) := by decide +kernel
theorem dX7_readLines_57 : decode cX7_readLines 57 = .ok (.getstatic 46, 3) := by decide +kernel
theorem dX7_readLines_60 : decode cX7_readLines 60 = .ok (.invokevirtual 39, 3) := by decide +kernel
theorem dX7_readLines_63 : decode cX7_readLines 63 = .ok (.ifCond .eq 10, 3) := by decide +kernel
theorem dX7_readLines_66 : decode cX7_readLines 66 = .ok (.aload_n 0, 1) := by decide +kernel
theorem dX7_readLines_67 : decode cX7_readLines 67 = .ok (.invokevirtual 49, 3) := by decide +kernel
theorem dX7_readLines_70 : decode cX7_readLines 70 = .ok (.goto 165, 3) := by decide +kernel
theorem dX7_readLines_73 : decode cX7_readLines 73 = .ok (.aload_n 0, 1) := by decide +kernel
theorem dX7_readLines_74 : decode cX7_readLines 74 = .ok (.getfield 9, 3) := by decide +kernel
theorem dX7_readLines_77 : decode cX7_readLines 77 = .ok (.getstatic 52, 3) := by decide +kernel
theorem dX7_readLines_80 : decode cX7_readLines 80 = .ok (.invokevirtual 39, 3) := by decide +kernel
theorem dX7_readLines_83 : decode cX7_readLines 83 = .ok (.ifCond .eq 10, 3) := by decide +kernel
theorem dX7_readLines_86 : decode cX7_readLines 86 = .ok (.aload_n 0, 1) := by decide +kernel
theorem dX7_readLines_87 : decode cX7_readLines 87 = .ok (.invokevirtual 55, 3) := by decide +kernel
theorem dX7_readLines_90 : decode cX7_readLines 90 = .ok (.goto 145, 3) := by decide +kernel
theorem dX7_readLines_93 : decode cX7_readLines 93 = .ok (.aload_n 0, 1) := by decide +kernel
theorem dX7_readLines_94 : decode cX7_readLines 94 = .ok (.getfield 9, 3) := by decide +kernel
theorem dX7_readLines_97 : decode cX7_readLines 97 = .ok (.getstatic 58, 3) := by decide +kernel
theorem dX7_readLines_100 : decode cX7_readLines 100 = .ok (.invokevirtual 39, 3) := by decide +kernel
theorem dX7_readLines_103 : decode cX7_readLines 103 = .ok (.ifCond .eq 10, 3) := by decide +kernel
theorem dX7_readLines_106 : decode cX7_readLines 106 = .ok (.aload_n 0, 1) := by decide +kernel
theorem dX7_readLines_107 : decode cX7_readLines 107 = .ok (.invokevirtual 61, 3) := by decide +kernel
theorem dX7_readLines_110 : decode cX7_readLines 110 = .ok (.goto 125, 3) := by decide +kernel
theorem dX7_readLines_113 : decode cX7_readLines 113 = .ok (.aload_n 0, 1) := by decide +kernel
theorem dX7_readLines_114 : decode cX7_readLines 114 = .ok (.getfield 9, 3) := by decide +kernel
theorem dX7_readLines_117 : decode cX7_readLines 117 = .ok (.getstatic 64, 3) := by decide +kernel
theorem dX7_readLines_120 : decode cX7_readLines 120 = .ok (.invokevirtual 39, 3) := by decide +kernel
theorem dX7_readLines_123 : decode cX7_readLines 123 = .ok (.ifCond .eq 10, 3) := by decide +kernel
theorem dX7_readLines_126 : decode cX7_readLines 126 = .ok (.aload_n 0, 1) := by decide +kernel
theorem dX7_readLines_127 : decode cX7_readLines 127 = .ok (.invokevirtual 67, 3) := by decide +kernel
theorem dX7_readLines_130 : decode cX7_readLines 130 = .ok (.goto 105, 3) := by decide +kernel
theorem dX7_readLines_133 : decode cX7_readLines 133 = .ok (.aload_n 0, 1) := by decide +kernel
theorem dX7_readLines_134 : decode cX7_readLines 134 = .ok (.getfield 9, 3) := by decide +kernel
theorem dX7_readLines_137 : decode cX7_readLines 137 = .ok (.getstatic 70, 3) := by decide +kernel
theorem dX7_readLines_140 : decode cX7_readLines 140 = .ok (.invokevirtual 39, 3) := by decide +kernel
theorem dX7_readLines_143 : decode cX7_readLines 143 = .ok (.ifCond .eq 10, 3) := by decide +kernel
theorem dX7_readLines_146 : decode cX7_readLines 146 = .ok (.aload_n 0, 1) := by decide +kernel
theorem dX7_readLines_147 : decode cX7_readLines 147 = .ok (.invokevirtual 73, 3) := by decide +kernel
theorem dX7_readLines_150 : decode cX7_readLines 150 = .ok (.goto 85, 3) := by decide +kernel
theorem dX7_readLines_153 : decode cX7_readLines 153 = .ok (.aload_n 0, 1) := by decide +kernel
theorem dX7_readLines_154 : decode cX7_readLines 154 = .ok (.getfield 9, 3) := by decide +kernel
theorem dX7_readLines_157 : decode cX7_readLines 157 = .ok (.getstatic 76, 3) := by decide +kernel
theorem dX7_readLines_160 : decode cX7_readLines 160 = .ok (.invokevirtual 39, 3) := by decide +kernel
theorem dX7_readLines_163 : decode cX7_readLines 163 = .ok (.ifCond .eq 10, 3) := by decide +kernel
theorem dX7_readLines_166 : decode cX7_readLines 166 = .ok (.aload_n 0, 1) := by decide +kernel
theorem dX7_readLines_167 : decode cX7_readLines 167 = .ok (.invokevirtual 79, 3) := by decide +kernel
theorem dX7_readLines_170 : decode cX7_readLines 170 = .ok (.goto 65, 3) := by decide +kernel
theorem dX7_readLines_173 : decode cX7_readLines 173 = .ok (.aload_n 0, 1) := by decide +kernel
theorem dX7_readLines_174 : decode cX7_readLines 174 = .ok (.getfield 9, 3) := by decide +kernel
theorem dX7_readLines_177 : decode cX7_readLines 177 = .ok (.getstatic 82, 3) := by decide +kernel
theorem dX7_readLines_180 : decode cX7_readLines 180 = .ok (.invokevirtual 39, 3) := by decide +kernel
theorem dX7_readLines_183 : decode cX7_readLines 183 = .ok (.ifCond .eq 17, 3) := by decide +kernel
theorem dX7_readLines_186 : decode cX7_readLines 186 = .ok (.aload_n 0, 1) := by decide +kernel
theorem dX7_readLines_187 : decode cX7_readLines 187 = .ok (.aload_n 0, 1) := by decide +kernel
theorem dX7_readLines_188 : decode cX7_readLines 188 = .ok (.getfield 15, 3) := by decide +kernel
theorem dX7_readLines_191 : decode cX7_readLines 191 = .ok (.getfield 85, 3) := by decide +kernel
theorem dX7_readLines_194 : decode cX7_readLines 194 = .ok (.invokevirtual 89, 3) := by decide +kernel
theorem dX7_readLines_197 : decode cX7_readLines 197 = .ok (.goto 38, 3) := by decide +kernel
theorem dX7_readLines_200 : decode cX7_readLines 200 = .ok (.aload_n 0, 1) := by decide +kernel
theorem dX7_readLines_201 : decode cX7_readLines 201 = .ok (.getfield 9, 3) := by decide +kernel
theorem dX7_readLines_204 : decode cX7_readLines 204 = .ok (.getstatic 93, 3) := by decide +kernel
theorem dX7_readLines_207 : decode cX7_readLines 207 = .ok (.invokevirtual 39, 3) := by decide +kernel
theorem dX7_readLines_210 : decode cX7_readLines 210 = .ok (.ifCond .eq 17, 3) := by decide +kernel
theorem dX7_readLines_213 : decode cX7_readLines 213 = .ok (.aload_n 0, 1) := by decide +kernel
theorem dX7_readLines_214 : decode cX7_readLines 214 = .ok (.aload_n 0, 1) := by decide +kernel
theorem dX7_readLines_215 : decode cX7_readLines 215 = .ok (.getfield 15, 3) := by decide +kernel
theorem dX7_readLines_218 : decode cX7_readLines 218 = .ok (.getfield 96, 3) := by decide +kernel
theorem dX7_readLines_221 : decode cX7_readLines 221 = .ok (.invokevirtual 89, 3) := by decide +kernel
theorem dX7_readLines_224 : decode cX7_readLines 224 = .ok (.goto 11, 3) := by decide +kernel
theorem dX7_readLines_227 : decode cX7_readLines 227 = .ok (.aload_n 0, 1) := by decide +kernel
theorem dX7_readLines_228 : decode cX7_readLines 228 = .ok (.getfield 9, 3) := by decide +kernel
theorem dX7_readLines_231 : decode cX7_readLines 231 = .ok (.iconst 1, 1) := by decide +kernel
theorem dX7_readLines_232 : decode cX7_readLines 232 = .ok (.invokevirtual 99, 3) := by decide +kernel
theorem dX7_readLines_235 : decode cX7_readLines 235 = .ok (.iinc 1 1, 3) := by decide +kernel
theorem dX7_readLines_238 : decode cX7_readLines 238 = .ok (.goto (-222), 3) := by decide +kernel
theorem dX7_readLines_241 : decode cX7_readLines 241 = .ok (.return_, 1) := by decide +kernel
theorem dX7_oneMore_0 : decode cX7_oneMore 0 = .ok (.aload_n 0, 1) := by decide +kernel
theorem dX7_oneMore_1 : decode cX7_oneMore 1 = .ok (.getfield 15, 3) := by decide +kernel
theorem dX7_oneMore_4 : decode cX7_oneMore 4 = .ok (.getfield 103, 3) := by decide +kernel
theorem dX7_oneMore_7 : decode cX7_oneMore 7 = .ok (.iload_n 1, 1) := by decide +kernel
theorem dX7_oneMore_8 : decode cX7_oneMore 8 = .ok (.iaload, 1) := by decide +kernel
theorem dX7_oneMore_9 : decode cX7_oneMore 9 = .ok (.istore_n 3, 1) := by decide +kernel
theorem dX7_oneMore_10 : decode cX7_oneMore 10 = .ok (.iload_n 3, 1) := by decide +kernel
theorem dX7_oneMore_11 : decode cX7_oneMore 11 = .ok (.iload_n 2, 1) := by decide +kernel
theorem dX7_oneMore_12 : decode cX7_oneMore 12 = .ok (.if_icmp .lt 11, 3) := by decide +kernel
theorem dX7_oneMore_15 : decode cX7_oneMore 15 = .ok (.aload_n 0, 1) := by decide +kernel
theorem dX7_oneMore_16 : decode cX7_oneMore 16 = .ok (.getfield 9, 3) := by decide +kernel
theorem dX7_oneMore_19 : decode cX7_oneMore 19 = .ok (.iconst 5, 1) := by decide +kernel
theorem dX7_oneMore_20 : decode cX7_oneMore 20 = .ok (.invokevirtual 99, 3) := by decide +kernel
theorem dX7_oneMore_23 : decode cX7_oneMore 23 = .ok (.aload_n 0, 1) := by decide +kernel
theorem dX7_oneMore_24 : decode cX7_oneMore 24 = .ok (.getfield 9, 3) := by decide +kernel
theorem dX7_oneMore_27 : decode cX7_oneMore 27 = .ok (.invokevirtual 107, 3) := by decide +kernel
theorem dX7_oneMore_30 : decode cX7_oneMore 30 = .ok (.iload_n 3, 1) := by decide +kernel
theorem dX7_oneMore_31 : decode cX7_oneMore 31 = .ok (.ireturn, 1) := by decide +kernel
theorem dX7_newName_0 : decode cX7_newName 0 = .ok (.aload_n 0, 1) := by decide +kernel
theorem dX7_newName_1 : decode cX7_newName 1 = .ok (.getfield 9, 3) := by decide +kernel
theorem dX7_newName_4 : decode cX7_newName 4 = .ok (.invokevirtual 110, 3) := by decide +kernel
theorem dX7_newName_7 : decode cX7_newName 7 = .ok (.ifCond .ne 14, 3) := by decide +kernel
theorem dX7_newName_10 : decode cX7_newName 10 = .ok (.aload_n 0, 1) := by decide +kernel
theorem dX7_newName_11 : decode cX7_newName 11 = .ok (.getfield 9, 3) := by decide +kernel
theorem dX7_newName_14 : decode cX7_newName 14 = .ok (.iconst 1, 1) := by decide +kernel
theorem dX7_newName_15 : decode cX7_newName 15 = .ok (.invokevirtual 99, 3) := by decide +kernel
theorem dX7_newName_18 : decode cX7_newName 18 = .ok (.goto 28, 3) := by decide +kernel
theorem dX7_newName_21 : decode cX7_newName 21 = .ok (.aload_n 0, 1) := by decide +kernel
theorem dX7_newName_22 : decode cX7_newName 22 = .ok (.getfield 15, 3) := by decide +kernel
theorem dX7_newName_25 : decode cX7_newName 25 = .ok (.aload_n 0, 1) := by decide +kernel
theorem dX7_newName_26 : decode cX7_newName 26 = .ok (.getfield 9, 3) := by decide +kernel
theorem dX7_newName_29 : decode cX7_newName 29 = .ok (.getfield 113, 3) := by decide +kernel
theorem dX7_newName_32 : decode cX7_newName 32 = .ok (.invokevirtual 117, 3) := by decide +kernel
theorem dX7_newName_35 : decode cX7_newName 35 = .ok (.ifCond .eq 11, 3) := by decide +kernel
theorem dX7_newName_38 : decode cX7_newName 38 = .ok (.aload_n 0, 1) := by decide +kernel
theorem dX7_newName_39 : decode cX7_newName 39 = .ok (.getfield 9, 3) := by decide +kernel
theorem dX7_newName_42 : decode cX7_newName 42 = .ok (.iconst 3, 1) := by decide +kernel
theorem dX7_newName_43 : decode cX7_newName 43 = .ok (.invokevirtual 99, 3) := by decide +kernel
theorem dX7_newName_46 : decode cX7_newName 46 = .ok (.aload_n 0, 1) := by decide +kernel
theorem dX7_newName_47 : decode cX7_newName 47 = .ok (.getfield 9, 3) := by decide +kernel
theorem dX7_newName_50 : decode cX7_newName 50 = .ok (.getfield 113, 3) := by decide +kernel
theorem dX7_newName_53 : decode cX7_newName 53 = .ok (.lstore_n 1, 1) := by decide +kernel
theorem dX7_newName_54 : decode cX7_newName 54 = .ok (.aload_n 0, 1) := by decide +kernel
theorem dX7_newName_55 : decode cX7_newName 55 = .ok (.getfield 9, 3) := by decide +kernel
theorem dX7_newName_58 : decode cX7_newName 58 = .ok (.invokevirtual 107, 3) := by decide +kernel
theorem dX7_newName_61 : decode cX7_newName 61 = .ok (.lload_n 1, 1) := by decide +kernel
theorem dX7_newName_62 : decode cX7_newName 62 = .ok (.lreturn, 1) := by decide +kernel
theorem dX7_readFuel_0 : decode cX7_readFuel 0 = .ok (.aload_n 0, 1) := by decide +kernel
theorem dX7_readFuel_1 : decode cX7_readFuel 1 = .ok (.iconst 0, 1) := by decide +kernel
theorem dX7_readFuel_2 : decode cX7_readFuel 2 = .ok (.iconst 5, 1) := by decide +kernel
theorem dX7_readFuel_3 : decode cX7_readFuel 3 = .ok (.invokevirtual 121, 3) := by decide +kernel
theorem dX7_readFuel_6 : decode cX7_readFuel 6 = .ok (.istore_n 1, 1) := by decide +kernel
theorem dX7_readFuel_7 : decode cX7_readFuel 7 = .ok (.aload_n 0, 1) := by decide +kernel
theorem dX7_readFuel_8 : decode cX7_readFuel 8 = .ok (.invokevirtual 125, 3) := by decide +kernel
theorem dX7_readFuel_11 : decode cX7_readFuel 11 = .ok (.lstore_n 2, 1) := by decide +kernel
theorem dX7_readFuel_12 : decode cX7_readFuel 12 = .ok (.aload_n 0, 1) := by decide +kernel
theorem dX7_readFuel_13 : decode cX7_readFuel 13 = .ok (.getfield 9, 3) := by decide +kernel
theorem dX7_readFuel_16 : decode cX7_readFuel 16 = .ok (.getstatic 129, 3) := by decide +kernel
theorem dX7_readFuel_19 : decode cX7_readFuel 19 = .ok (.invokevirtual 132, 3) := by decide +kernel
theorem dX7_readFuel_22 : decode cX7_readFuel 22 = .ok (.aload_n 0, 1) := by decide +kernel
theorem dX7_readFuel_23 : decode cX7_readFuel 23 = .ok (.getfield 9, 3) := by decide +kernel
theorem dX7_readFuel_26 : decode cX7_readFuel 26 = .ok (.iconst 0, 1) := by decide +kernel
theorem dX7_readFuel_27 : decode cX7_readFuel 27 = .ok (.bipush 99, 2) := by decide +kernel
theorem dX7_readFuel_29 : decode cX7_readFuel 29 = .ok (.invokevirtual 136, 3) := by decide +kernel
theorem dX7_readFuel_32 : decode cX7_readFuel 32 = .ok (.istore 4, 2) := by decide +kernel
theorem dX7_readFuel_34 : decode cX7_readFuel 34 = .ok (.aload_n 0, 1) := by decide +kernel
theorem dX7_readFuel_35 : decode cX7_readFuel 35 = .ok (.getfield 9, 3) := by decide +kernel
theorem dX7_readFuel_38 : decode cX7_readFuel 38 = .ok (.getstatic 139, 3) := by decide +kernel
theorem dX7_readFuel_41 : decode cX7_readFuel 41 = .ok (.invokevirtual 132, 3) := by decide +kernel
theorem dX7_readFuel_44 : decode cX7_readFuel 44 = .ok (.aload_n 0, 1) := by decide +kernel
theorem dX7_readFuel_45 : decode cX7_readFuel 45 = .ok (.getfield 9, 3) := by decide +kernel
theorem dX7_readFuel_48 : decode cX7_readFuel 48 = .ok (.iconst 0, 1) := by decide +kernel
theorem dX7_readFuel_49 : decode cX7_readFuel 49 = .ok (.bipush 99, 2) := by decide +kernel
theorem dX7_readFuel_51 : decode cX7_readFuel 51 = .ok (.invokevirtual 136, 3) := by decide +kernel
theorem dX7_readFuel_54 : decode cX7_readFuel 54 = .ok (.istore 5, 2) := by decide +kernel
theorem dX7_readFuel_56 : decode cX7_readFuel 56 = .ok (.aload_n 0, 1) := by decide +kernel
theorem dX7_readFuel_57 : decode cX7_readFuel 57 = .ok (.getfield 9, 3) := by decide +kernel
theorem dX7_readFuel_60 : decode cX7_readFuel 60 = .ok (.getstatic 142, 3) := by decide +kernel
theorem dX7_readFuel_63 : decode cX7_readFuel 63 = .ok (.invokevirtual 132, 3) := by decide +kernel
theorem dX7_readFuel_66 : decode cX7_readFuel 66 = .ok (.aload_n 0, 1) := by decide +kernel
theorem dX7_readFuel_67 : decode cX7_readFuel 67 = .ok (.getfield 9, 3) := by decide +kernel
theorem dX7_readFuel_70 : decode cX7_readFuel 70 = .ok (.iconst 1, 1) := by decide +kernel
theorem dX7_readFuel_71 : decode cX7_readFuel 71 = .ok (.bipush 9, 2) := by decide +kernel
theorem dX7_readFuel_73 : decode cX7_readFuel 73 = .ok (.invokevirtual 136, 3) := by decide +kernel
theorem dX7_readFuel_76 : decode cX7_readFuel 76 = .ok (.istore 6, 2) := by decide +kernel
theorem dX7_readFuel_78 : decode cX7_readFuel 78 = .ok (.aload_n 0, 1) := by decide +kernel
theorem dX7_readFuel_79 : decode cX7_readFuel 79 = .ok (.getfield 9, 3) := by decide +kernel
theorem dX7_readFuel_82 : decode cX7_readFuel 82 = .ok (.bipush 59, 2) := by decide +kernel
theorem dX7_readFuel_84 : decode cX7_readFuel 84 = .ok (.invokevirtual 145, 3) := by decide +kernel
theorem dX7_readFuel_87 : decode cX7_readFuel 87 = .ok (.aload_n 0, 1) := by decide +kernel
theorem dX7_readFuel_88 : decode cX7_readFuel 88 = .ok (.getfield 9, 3) := by decide +kernel
theorem dX7_readFuel_91 : decode cX7_readFuel 91 = .ok (.invokevirtual 149, 3) := by decide +kernel
theorem dX7_readFuel_94 : decode cX7_readFuel 94 = .ok (.ifCond .eq 50, 3) := by decide +kernel
theorem dX7_readFuel_97 : decode cX7_readFuel 97 = .ok (.iload_n 1, 1) := by decide +kernel
theorem dX7_readFuel_98 : decode cX7_readFuel 98 = .ok (.iconst 5, 1) := by decide +kernel
theorem dX7_readFuel_99 : decode cX7_readFuel 99 = .ok (.if_icmp .ge 45, 3) := by decide +kernel
theorem dX7_readFuel_102 : decode cX7_readFuel 102 = .ok (.aload_n 0, 1) := by decide +kernel
theorem dX7_readFuel_103 : decode cX7_readFuel 103 = .ok (.getfield 15, 3) := by decide +kernel
theorem dX7_readFuel_106 : decode cX7_readFuel 106 = .ok (.getfield 152, 3) := by decide +kernel
theorem dX7_readFuel_109 : decode cX7_readFuel 109 = .ok (.iload_n 1, 1) := by decide +kernel
theorem dX7_readFuel_110 : decode cX7_readFuel 110 = .ok (.iload 4, 2) := by decide +kernel
theorem dX7_readFuel_112 : decode cX7_readFuel 112 = .ok (.iastore, 1) := by decide +kernel
theorem dX7_readFuel_113 : decode cX7_readFuel 113 = .ok (.aload_n 0, 1) := by decide +kernel
theorem dX7_readFuel_114 : decode cX7_readFuel 114 = .ok (.getfield 15, 3) := by decide +kernel
theorem dX7_readFuel_117 : decode cX7_readFuel 117 = .ok (.getfield 155, 3) := by decide +kernel
theorem dX7_readFuel_120 : decode cX7_readFuel 120 = .ok (.iload_n 1, 1) := by decide +kernel
theorem dX7_readFuel_121 : decode cX7_readFuel 121 = .ok (.iload 5, 2) := by decide +kernel
theorem dX7_readFuel_123 : decode cX7_readFuel 123 = .ok (.iastore, 1) := by decide +kernel
theorem dX7_readFuel_124 : decode cX7_readFuel 124 = .ok (.aload_n 0, 1) := by decide +kernel
theorem dX7_readFuel_125 : decode cX7_readFuel 125 = .ok (.getfield 15, 3) := by decide +kernel
theorem dX7_readFuel_128 : decode cX7_readFuel 128 = .ok (.getfield 158, 3) := by decide +kernel
theorem dX7_readFuel_131 : decode cX7_readFuel 131 = .ok (.iload_n 1, 1) := by decide +kernel
theorem dX7_readFuel_132 : decode cX7_readFuel 132 = .ok (.iload 6, 2) := by decide +kernel
theorem dX7_readFuel_134 : decode cX7_readFuel 134 = .ok (.iastore, 1) := by decide +kernel
theorem dX7_readFuel_135 : decode cX7_readFuel 135 = .ok (.aload_n 0, 1) := by decide +kernel
theorem dX7_readFuel_136 : decode cX7_readFuel 136 = .ok (.getfield 15, 3) := by decide +kernel
theorem dX7_readFuel_139 : decode cX7_readFuel 139 = .ok (.iconst 0, 1) := by decide +kernel
theorem dX7_readFuel_140 : decode cX7_readFuel 140 = .ok (.lload_n 2, 1) := by decide +kernel
theorem dX7_readFuel_141 : decode cX7_readFuel 141 = .ok (.invokevirtual 161, 3) := by decide +kernel
theorem dX7_readFuel_144 : decode cX7_readFuel 144 = .ok (.return_, 1) := by decide +kernel
theorem dX7_readFlue_0 : decode cX7_readFlue 0 = .ok (.aload_n 0, 1) := by decide +kernel
theorem dX7_readFlue_1 : decode cX7_readFlue 1 = .ok (.iconst 1, 1) := by decide +kernel
theorem dX7_readFlue_2 : decode cX7_readFlue 2 = .ok (.iconst 3, 1) := by decide +kernel
theorem dX7_readFlue_3 : decode cX7_readFlue 3 = .ok (.invokevirtual 121, 3) := by decide +kernel
theorem dX7_readFlue_6 : decode cX7_readFlue 6 = .ok (.pop, 1) := by decide +kernel
theorem dX7_readFlue_7 : decode cX7_readFlue 7 = .ok (.aload_n 0, 1) := by decide +kernel
theorem dX7_readFlue_8 : decode cX7_readFlue 8 = .ok (.invokevirtual 125, 3) := by decide +kernel
theorem dX7_readFlue_11 : decode cX7_readFlue 11 = .ok (.lstore_n 1, 1) := by decide +kernel
theorem dX7_readFlue_12 : decode cX7_readFlue 12 = .ok (.aload_n 0, 1) := by decide +kernel
theorem dX7_readFlue_13 : decode cX7_readFlue 13 = .ok (.getfield 9, 3) := by decide +kernel
theorem dX7_readFlue_16 : decode cX7_readFlue 16 = .ok (.bipush 59, 2) := by decide +kernel
theorem dX7_readFlue_18 : decode cX7_readFlue 18 = .ok (.invokevirtual 145, 3) := by decide +kernel
theorem dX7_readFlue_21 : decode cX7_readFlue 21 = .ok (.aload_n 0, 1) := by decide +kernel
theorem dX7_readFlue_22 : decode cX7_readFlue 22 = .ok (.getfield 9, 3) := by decide +kernel
theorem dX7_readFlue_25 : decode cX7_readFlue 25 = .ok (.invokevirtual 149, 3) := by decide +kernel
theorem dX7_readFlue_28 : decode cX7_readFlue 28 = .ok (.ifCond .eq 12, 3) := by decide +kernel
theorem dX7_readFlue_31 : decode cX7_readFlue 31 = .ok (.aload_n 0, 1) := by decide +kernel
theorem dX7_readFlue_32 : decode cX7_readFlue 32 = .ok (.getfield 15, 3) := by decide +kernel
theorem dX7_readFlue_35 : decode cX7_readFlue 35 = .ok (.iconst 1, 1) := by decide +kernel
theorem dX7_readFlue_36 : decode cX7_readFlue 36 = .ok (.lload_n 1, 1) := by decide +kernel
theorem dX7_readFlue_37 : decode cX7_readFlue 37 = .ok (.invokevirtual 161, 3) := by decide +kernel
theorem dX7_readFlue_40 : decode cX7_readFlue 40 = .ok (.return_, 1) := by decide +kernel
theorem dX7_readHouse_0 : decode cX7_readHouse 0 = .ok (.aload_n 0, 1) := by decide +kernel
theorem dX7_readHouse_1 : decode cX7_readHouse 1 = .ok (.iconst 2, 1) := by decide +kernel
theorem dX7_readHouse_2 : decode cX7_readHouse 2 = .ok (.iconst 4, 1) := by decide +kernel
theorem dX7_readHouse_3 : decode cX7_readHouse 3 = .ok (.invokevirtual 121, 3) := by decide +kernel
theorem dX7_readHouse_6 : decode cX7_readHouse 6 = .ok (.istore_n 1, 1) := by decide +kernel
theorem dX7_readHouse_7 : decode cX7_readHouse 7 = .ok (.aload_n 0, 1) := by decide +kernel
theorem dX7_readHouse_8 : decode cX7_readHouse 8 = .ok (.invokevirtual 125, 3) := by decide +kernel
theorem dX7_readHouse_11 : decode cX7_readHouse 11 = .ok (.lstore_n 2, 1) := by decide +kernel
theorem dX7_readHouse_12 : decode cX7_readHouse 12 = .ok (.aload_n 0, 1) := by decide +kernel
theorem dX7_readHouse_13 : decode cX7_readHouse 13 = .ok (.getfield 9, 3) := by decide +kernel
theorem dX7_readHouse_16 : decode cX7_readHouse 16 = .ok (.getstatic 165, 3) := by decide +kernel
theorem dX7_readHouse_19 : decode cX7_readHouse 19 = .ok (.invokevirtual 132, 3) := by decide +kernel
theorem dX7_readHouse_22 : decode cX7_readHouse 22 = .ok (.aload_n 0, 1) := by decide +kernel
theorem dX7_readHouse_23 : decode cX7_readHouse 23 = .ok (.getfield 9, 3) := by decide +kernel
theorem dX7_readHouse_26 : decode cX7_readHouse 26 = .ok (.aload_n 0, 1) := by decide +kernel
theorem dX7_readHouse_27 : decode cX7_readHouse 27 = .ok (.getfield 15, 3) := by decide +kernel
theorem dX7_readHouse_30 : decode cX7_readHouse 30 = .ok (.iconst 1, 1) := by decide +kernel
theorem dX7_readHouse_31 : decode cX7_readHouse 31 = .ok (.invokevirtual 168, 3) := by decide +kernel
theorem dX7_readHouse_34 : decode cX7_readHouse 34 = .ok (.istore 4, 2) := by decide +kernel
theorem dX7_readHouse_36 : decode cX7_readHouse 36 = .ok (.aload_n 0, 1) := by decide +kernel
theorem dX7_readHouse_37 : decode cX7_readHouse 37 = .ok (.getfield 9, 3) := by decide +kernel
theorem dX7_readHouse_40 : decode cX7_readHouse 40 = .ok (.invokevirtual 107, 3) := by decide +kernel
theorem dX7_readHouse_43 : decode cX7_readHouse 43 = .ok (.aload_n 0, 1) := by decide +kernel
theorem dX7_readHouse_44 : decode cX7_readHouse 44 = .ok (.getfield 9, 3) := by decide +kernel
theorem dX7_readHouse_47 : decode cX7_readHouse 47 = .ok (.bipush 59, 2) := by decide +kernel
theorem dX7_readHouse_49 : decode cX7_readHouse 49 = .ok (.invokevirtual 145, 3) := by decide +kernel
theorem dX7_readHouse_52 : decode cX7_readHouse 52 = .ok (.aload_n 0, 1) := by decide +kernel
theorem dX7_readHouse_53 : decode cX7_readHouse 53 = .ok (.getfield 9, 3) := by decide +kernel
theorem dX7_readHouse_56 : decode cX7_readHouse 56 = .ok (.invokevirtual 149, 3) := by decide +kernel
theorem dX7_readHouse_59 : decode cX7_readHouse 59 = .ok (.ifCond .eq 28, 3) := by decide +kernel
theorem dX7_readHouse_62 : decode cX7_readHouse 62 = .ok (.iload_n 1, 1) := by decide +kernel
theorem dX7_readHouse_63 : decode cX7_readHouse 63 = .ok (.iconst 4, 1) := by decide +kernel
theorem dX7_readHouse_64 : decode cX7_readHouse 64 = .ok (.if_icmp .ge 23, 3) := by decide +kernel
theorem dX7_readHouse_67 : decode cX7_readHouse 67 = .ok (.aload_n 0, 1) := by decide +kernel
theorem dX7_readHouse_68 : decode cX7_readHouse 68 = .ok (.getfield 15, 3) := by decide +kernel
theorem dX7_readHouse_71 : decode cX7_readHouse 71 = .ok (.getfield 172, 3) := by decide +kernel
theorem dX7_readHouse_74 : decode cX7_readHouse 74 = .ok (.iload_n 1, 1) := by decide +kernel
theorem dX7_readHouse_75 : decode cX7_readHouse 75 = .ok (.iload 4, 2) := by decide +kernel
theorem dX7_readHouse_77 : decode cX7_readHouse 77 = .ok (.iastore, 1) := by decide +kernel
theorem dX7_readHouse_78 : decode cX7_readHouse 78 = .ok (.aload_n 0, 1) := by decide +kernel
theorem dX7_readHouse_79 : decode cX7_readHouse 79 = .ok (.getfield 15, 3) := by decide +kernel
theorem dX7_readHouse_82 : decode cX7_readHouse 82 = .ok (.iconst 2, 1) := by decide +kernel
theorem dX7_readHouse_83 : decode cX7_readHouse 83 = .ok (.lload_n 2, 1) := by decide +kernel
theorem dX7_readHouse_84 : decode cX7_readHouse 84 = .ok (.invokevirtual 161, 3) := by decide +kernel
theorem dX7_readHouse_87 : decode cX7_readHouse 87 = .ok (.return_, 1) := by decide +kernel
theorem dX7_readStock_0 : decode cX7_readStock 0 = .ok (.aload_n 0, 1) := by decide +kernel
theorem dX7_readStock_1 : decode cX7_readStock 1 = .ok (.getfield 9, 3) := by decide +kernel
theorem dX7_readStock_4 : decode cX7_readStock 4 = .ok (.invokevirtual 107, 3) := by decide +kernel
theorem dX7_readStock_7 : decode cX7_readStock 7 = .ok (.aload_n 0, 1) := by decide +kernel
theorem dX7_readStock_8 : decode cX7_readStock 8 = .ok (.getfield 9, 3) := by decide +kernel
theorem dX7_readStock_11 : decode cX7_readStock 11 = .ok (.aload_n 0, 1) := by decide +kernel
theorem dX7_readStock_12 : decode cX7_readStock 12 = .ok (.getfield 15, 3) := by decide +kernel
theorem dX7_readStock_15 : decode cX7_readStock 15 = .ok (.iconst 2, 1) := by decide +kernel
theorem dX7_readStock_16 : decode cX7_readStock 16 = .ok (.invokevirtual 168, 3) := by decide +kernel
theorem dX7_readStock_19 : decode cX7_readStock 19 = .ok (.istore_n 1, 1) := by decide +kernel
theorem dX7_readStock_20 : decode cX7_readStock 20 = .ok (.aload_n 0, 1) := by decide +kernel
theorem dX7_readStock_21 : decode cX7_readStock 21 = .ok (.getfield 9, 3) := by decide +kernel
theorem dX7_readStock_24 : decode cX7_readStock 24 = .ok (.invokevirtual 107, 3) := by decide +kernel
theorem dX7_readStock_27 : decode cX7_readStock 27 = .ok (.aload_n 0, 1) := by decide +kernel
theorem dX7_readStock_28 : decode cX7_readStock 28 = .ok (.getfield 9, 3) := by decide +kernel
theorem dX7_readStock_31 : decode cX7_readStock 31 = .ok (.aload_n 0, 1) := by decide +kernel
theorem dX7_readStock_32 : decode cX7_readStock 32 = .ok (.getfield 15, 3) := by decide +kernel
theorem dX7_readStock_35 : decode cX7_readStock 35 = .ok (.iconst 0, 1) := by decide +kernel
theorem dX7_readStock_36 : decode cX7_readStock 36 = .ok (.invokevirtual 168, 3) := by decide +kernel
theorem dX7_readStock_39 : decode cX7_readStock 39 = .ok (.istore_n 2, 1) := by decide +kernel
theorem dX7_readStock_40 : decode cX7_readStock 40 = .ok (.iload_n 1, 1) := by decide +kernel
theorem dX7_readStock_41 : decode cX7_readStock 41 = .ok (.iconst 5, 1) := by decide +kernel
theorem dX7_readStock_42 : decode cX7_readStock 42 = .ok (.imul, 1) := by decide +kernel
theorem dX7_readStock_43 : decode cX7_readStock 43 = .ok (.iload_n 2, 1) := by decide +kernel
theorem dX7_readStock_44 : decode cX7_readStock 44 = .ok (.iadd, 1) := by decide +kernel
theorem dX7_readStock_45 : decode cX7_readStock 45 = .ok (.istore_n 3, 1) := by decide +kernel
theorem dX7_readStock_46 : decode cX7_readStock 46 = .ok (.aload_n 0, 1) := by decide +kernel
theorem dX7_readStock_47 : decode cX7_readStock 47 = .ok (.getfield 9, 3) := by decide +kernel
theorem dX7_readStock_50 : decode cX7_readStock 50 = .ok (.invokevirtual 149, 3) := by decide +kernel
theorem dX7_readStock_53 : decode cX7_readStock 53 = .ok (.ifCond .eq 23, 3) := by decide +kernel
theorem dX7_readStock_56 : decode cX7_readStock 56 = .ok (.iload_n 3, 1) := by decide +kernel
theorem dX7_readStock_57 : decode cX7_readStock 57 = .ok (.ifCond .lt 19, 3) := by decide +kernel
theorem dX7_readStock_60 : decode cX7_readStock 60 = .ok (.iload_n 3, 1) := by decide +kernel
theorem dX7_readStock_61 : decode cX7_readStock 61 = .ok (.aload_n 0, 1) := by decide +kernel
theorem dX7_readStock_62 : decode cX7_readStock 62 = .ok (.getfield 15, 3) := by decide +kernel
theorem dX7_readStock_65 : decode cX7_readStock 65 = .ok (.getfield 175, 3) := by decide +kernel
theorem dX7_readStock_68 : decode cX7_readStock 68 = .ok (.arraylength, 1) := by decide +kernel
theorem dX7_readStock_69 : decode cX7_readStock 69 = .ok (.if_icmp .ge 7, 3) := by decide +kernel
theorem dX7_readStock_72 : decode cX7_readStock 72 = .ok (.iconst 1, 1) := by decide +kernel
theorem dX7_readStock_73 : decode cX7_readStock 73 = .ok (.goto 4, 3) := by decide +kernel
theorem dX7_readStock_76 : decode cX7_readStock 76 = .ok (.iconst 0, 1) := by decide +kernel
theorem dX7_readStock_77 : decode cX7_readStock 77 = .ok (.istore 4, 2) := by decide +kernel
theorem dX7_readStock_79 : decode cX7_readStock 79 = .ok (.iload 4, 2) := by decide +kernel
theorem dX7_readStock_81 : decode cX7_readStock 81 = .ok (.ifCond .eq 25, 3) := by decide +kernel
theorem dX7_readStock_84 : decode cX7_readStock 84 = .ok (.aload_n 0, 1) := by decide +kernel
theorem dX7_readStock_85 : decode cX7_readStock 85 = .ok (.getfield 15, 3) := by decide +kernel
theorem dX7_readStock_88 : decode cX7_readStock 88 = .ok (.getfield 178, 3) := by decide +kernel
theorem dX7_readStock_91 : decode cX7_readStock 91 = .ok (.iload_n 3, 1) := by decide +kernel
theorem dX7_readStock_92 : decode cX7_readStock 92 = .ok (.ishr, 1) := by decide +kernel
theorem dX7_readStock_93 : decode cX7_readStock 93 = .ok (.iconst 1, 1) := by decide +kernel
theorem dX7_readStock_94 : decode cX7_readStock 94 = .ok (.iand, 1) := by decide +kernel
theorem dX7_readStock_95 : decode cX7_readStock 95 = .ok (.ifCond .eq 11, 3) := by decide +kernel
theorem dX7_readStock_98 : decode cX7_readStock 98 = .ok (.aload_n 0, 1) := by decide +kernel
theorem dX7_readStock_99 : decode cX7_readStock 99 = .ok (.getfield 9, 3) := by decide +kernel
theorem dX7_readStock_102 : decode cX7_readStock 102 = .ok (.iconst 3, 1) := by decide +kernel
theorem dX7_readStock_103 : decode cX7_readStock 103 = .ok (.invokevirtual 99, 3) := by decide +kernel
theorem dX7_readStock_106 : decode cX7_readStock 106 = .ok (.aload_n 0, 1) := by decide +kernel
theorem dX7_readStock_107 : decode cX7_readStock 107 = .ok (.getfield 9, 3) := by decide +kernel
theorem dX7_readStock_110 : decode cX7_readStock 110 = .ok (.invokevirtual 107, 3) := by decide +kernel
theorem dX7_readStock_113 : decode cX7_readStock 113 = .ok (.aload_n 0, 1) := by decide +kernel
theorem dX7_readStock_114 : decode cX7_readStock 114 = .ok (.getfield 9, 3) := by decide +kernel
theorem dX7_readStock_117 : decode cX7_readStock 117 = .ok (.iconst 0, 1) := by decide +kernel
theorem dX7_readStock_118 : decode cX7_readStock 118 = .ok (.bipush 99, 2) := by decide +kernel
theorem dX7_readStock_120 : decode cX7_readStock 120 = .ok (.invokevirtual 136, 3) := by decide +kernel
theorem dX7_readStock_123 : decode cX7_readStock 123 = .ok (.istore 5, 2) := by decide +kernel
theorem dX7_readStock_125 : decode cX7_readStock 125 = .ok (.aload_n 0, 1) := by decide +kernel
theorem dX7_readStock_126 : decode cX7_readStock 126 = .ok (.getfield 9, 3) := by decide +kernel
theorem dX7_readStock_129 : decode cX7_readStock 129 = .ok (.bipush 59, 2) := by decide +kernel
theorem dX7_readStock_131 : decode cX7_readStock 131 = .ok (.invokevirtual 145, 3) := by decide +kernel
theorem dX7_readStock_134 : decode cX7_readStock 134 = .ok (.iload 4, 2) := by decide +kernel
theorem dX7_readStock_136 : decode cX7_readStock 136 = .ok (.ifCond .eq 39, 3) := by decide +kernel
theorem dX7_readStock_139 : decode cX7_readStock 139 = .ok (.aload_n 0, 1) := by decide +kernel
theorem dX7_readStock_140 : decode cX7_readStock 140 = .ok (.getfield 9, 3) := by decide +kernel
theorem dX7_readStock_143 : decode cX7_readStock 143 = .ok (.invokevirtual 149, 3) := by decide +kernel
theorem dX7_readStock_146 : decode cX7_readStock 146 = .ok (.ifCond .eq 29, 3) := by decide +kernel
theorem dX7_readStock_149 : decode cX7_readStock 149 = .ok (.aload_n 0, 1) := by decide +kernel
theorem dX7_readStock_150 : decode cX7_readStock 150 = .ok (.getfield 15, 3) := by decide +kernel
theorem dX7_readStock_153 : decode cX7_readStock 153 = .ok (.dup, 1) := by decide +kernel
theorem dX7_readStock_154 : decode cX7_readStock 154 = .ok (.getfield 178, 3) := by decide +kernel
theorem dX7_readStock_157 : decode cX7_readStock 157 = .ok (.iconst 1, 1) := by decide +kernel
theorem dX7_readStock_158 : decode cX7_readStock 158 = .ok (.iload_n 3, 1) := by decide +kernel
theorem dX7_readStock_159 : decode cX7_readStock 159 = .ok (.ishl, 1) := by decide +kernel
theorem dX7_readStock_160 : decode cX7_readStock 160 = .ok (.ior, 1) := by decide +kernel
theorem dX7_readStock_161 : decode cX7_readStock 161 = .ok (.putfield 178, 3) := by decide +kernel
theorem dX7_readStock_164 : decode cX7_readStock 164 = .ok (.aload_n 0, 1) := by decide +kernel
theorem dX7_readStock_165 : decode cX7_readStock 165 = .ok (.getfield 15, 3) := by decide +kernel
theorem dX7_readStock_168 : decode cX7_readStock 168 = .ok (.getfield 175, 3) := by decide +kernel
theorem dX7_readStock_171 : decode cX7_readStock 171 = .ok (.iload_n 3, 1) := by decide +kernel
theorem dX7_readStock_172 : decode cX7_readStock 172 = .ok (.iload 5, 2) := by decide +kernel
theorem dX7_readStock_174 : decode cX7_readStock 174 = .ok (.iastore, 1) := by decide +kernel
theorem dX7_readStock_175 : decode cX7_readStock 175 = .ok (.return_, 1) := by decide +kernel
theorem dX7_readSign_0 : decode cX7_readSign 0 = .ok (.aload_n 0, 1) := by decide +kernel
theorem dX7_readSign_1 : decode cX7_readSign 1 = .ok (.iconst 3, 1) := by decide +kernel
theorem dX7_readSign_2 : decode cX7_readSign 2 = .ok (.bipush 6, 2) := by decide +kernel
theorem dX7_readSign_4 : decode cX7_readSign 4 = .ok (.invokevirtual 121, 3) := by decide +kernel
theorem dX7_readSign_7 : decode cX7_readSign 7 = .ok (.istore_n 1, 1) := by decide +kernel
theorem dX7_readSign_8 : decode cX7_readSign 8 = .ok (.aload_n 0, 1) := by decide +kernel
theorem dX7_readSign_9 : decode cX7_readSign 9 = .ok (.invokevirtual 125, 3) := by decide +kernel
theorem dX7_readSign_12 : decode cX7_readSign 12 = .ok (.lstore_n 2, 1) := by decide +kernel
theorem dX7_readSign_13 : decode cX7_readSign 13 = .ok (.aload_n 0, 1) := by decide +kernel
theorem dX7_readSign_14 : decode cX7_readSign 14 = .ok (.getfield 9, 3) := by decide +kernel
theorem dX7_readSign_17 : decode cX7_readSign 17 = .ok (.getstatic 129, 3) := by decide +kernel
theorem dX7_readSign_20 : decode cX7_readSign 20 = .ok (.invokevirtual 132, 3) := by decide +kernel
theorem dX7_readSign_23 : decode cX7_readSign 23 = .ok (.aload_n 0, 1) := by decide +kernel
theorem dX7_readSign_24 : decode cX7_readSign 24 = .ok (.iload_n 1, 1) := by decide +kernel
theorem dX7_readSign_25 : decode cX7_readSign 25 = .ok (.iconst 0, 1) := by decide +kernel
theorem dX7_readSign_26 : decode cX7_readSign 26 = .ok (.invokevirtual 182, 3) := by decide +kernel
theorem dX7_readSign_29 : decode cX7_readSign 29 = .ok (.aload_n 0, 1) := by decide +kernel
theorem dX7_readSign_30 : decode cX7_readSign 30 = .ok (.getfield 9, 3) := by decide +kernel
theorem dX7_readSign_33 : decode cX7_readSign 33 = .ok (.getstatic 139, 3) := by decide +kernel
theorem dX7_readSign_36 : decode cX7_readSign 36 = .ok (.invokevirtual 132, 3) := by decide +kernel
theorem dX7_readSign_39 : decode cX7_readSign 39 = .ok (.aload_n 0, 1) := by decide +kernel
theorem dX7_readSign_40 : decode cX7_readSign 40 = .ok (.iload_n 1, 1) := by decide +kernel
theorem dX7_readSign_41 : decode cX7_readSign 41 = .ok (.iconst 1, 1) := by decide +kernel
theorem dX7_readSign_42 : decode cX7_readSign 42 = .ok (.invokevirtual 182, 3) := by decide +kernel
theorem dX7_readSign_45 : decode cX7_readSign 45 = .ok (.aload_n 0, 1) := by decide +kernel
theorem dX7_readSign_46 : decode cX7_readSign 46 = .ok (.getfield 9, 3) := by decide +kernel
theorem dX7_readSign_49 : decode cX7_readSign 49 = .ok (.bipush 59, 2) := by decide +kernel
theorem dX7_readSign_51 : decode cX7_readSign 51 = .ok (.invokevirtual 145, 3) := by decide +kernel
theorem dX7_readSign_54 : decode cX7_readSign 54 = .ok (.aload_n 0, 1) := by decide +kernel
theorem dX7_readSign_55 : decode cX7_readSign 55 = .ok (.getfield 9, 3) := by decide +kernel
theorem dX7_readSign_58 : decode cX7_readSign 58 = .ok (.invokevirtual 149, 3) := by decide +kernel
theorem dX7_readSign_61 : decode cX7_readSign 61 = .ok (.ifCond .eq 12, 3) := by decide +kernel
theorem dX7_readSign_64 : decode cX7_readSign 64 = .ok (.aload_n 0, 1) := by decide +kernel
theorem dX7_readSign_65 : decode cX7_readSign 65 = .ok (.getfield 15, 3) := by decide +kernel
theorem dX7_readSign_68 : decode cX7_readSign 68 = .ok (.iconst 3, 1) := by decide +kernel
theorem dX7_readSign_69 : decode cX7_readSign 69 = .ok (.lload_n 2, 1) := by decide +kernel
theorem dX7_readSign_70 : decode cX7_readSign 70 = .ok (.invokevirtual 161, 3) := by decide +kernel
theorem dX7_readSign_73 : decode cX7_readSign 73 = .ok (.return_, 1) := by decide +kernel
theorem dX7_readRange_0 : decode cX7_readRange 0 = .ok (.aload_n 0, 1) := by decide +kernel
theorem dX7_readRange_1 : decode cX7_readRange 1 = .ok (.getfield 9, 3) := by decide +kernel
theorem dX7_readRange_4 : decode cX7_readRange 4 = .ok (.iconst 0, 1) := by decide +kernel
theorem dX7_readRange_5 : decode cX7_readRange 5 = .ok (.sipush 999, 3) := by decide +kernel
theorem dX7_readRange_8 : decode cX7_readRange 8 = .ok (.invokevirtual 136, 3) := by decide +kernel
theorem dX7_readRange_11 : decode cX7_readRange 11 = .ok (.istore_n 3, 1) := by decide +kernel
theorem dX7_readRange_12 : decode cX7_readRange 12 = .ok (.aload_n 0, 1) := by decide +kernel
theorem dX7_readRange_13 : decode cX7_readRange 13 = .ok (.getfield 9, 3) := by decide +kernel
theorem dX7_readRange_16 : decode cX7_readRange 16 = .ok (.getstatic 186, 3) := by decide +kernel
theorem dX7_readRange_19 : decode cX7_readRange 19 = .ok (.invokevirtual 132, 3) := by decide +kernel
theorem dX7_readRange_22 : decode cX7_readRange 22 = .ok (.aload_n 0, 1) := by decide +kernel
theorem dX7_readRange_23 : decode cX7_readRange 23 = .ok (.getfield 9, 3) := by decide +kernel
theorem dX7_readRange_26 : decode cX7_readRange 26 = .ok (.iload_n 3, 1) := by decide +kernel
theorem dX7_readRange_27 : decode cX7_readRange 27 = .ok (.sipush 999, 3) := by decide +kernel
theorem dX7_readRange_30 : decode cX7_readRange 30 = .ok (.invokevirtual 136, 3) := by decide +kernel
theorem dX7_readRange_33 : decode cX7_readRange 33 = .ok (.istore 4, 2) := by decide +kernel
theorem dX7_readRange_35 : decode cX7_readRange 35 = .ok (.aload_n 0, 1) := by decide +kernel
theorem dX7_readRange_36 : decode cX7_readRange 36 = .ok (.getfield 9, 3) := by decide +kernel
theorem dX7_readRange_39 : decode cX7_readRange 39 = .ok (.invokevirtual 149, 3) := by decide +kernel
theorem dX7_readRange_42 : decode cX7_readRange 42 = .ok (.ifCond .eq 44, 3) := by decide +kernel
theorem dX7_readRange_45 : decode cX7_readRange 45 = .ok (.iload_n 1, 1) := by decide +kernel
theorem dX7_readRange_46 : decode cX7_readRange 46 = .ok (.bipush 6, 2) := by decide +kernel
theorem dX7_readRange_48 : decode cX7_readRange 48 = .ok (.if_icmp .ge 38, 3) := by decide +kernel
theorem dX7_readRange_51 : decode cX7_readRange 51 = .ok (.aload_n 0, 1) := by decide +kernel
theorem dX7_readRange_52 : decode cX7_readRange 52 = .ok (.getfield 15, 3) := by decide +kernel
theorem dX7_readRange_55 : decode cX7_readRange 55 = .ok (.getfield 189, 3) := by decide +kernel
theorem dX7_readRange_58 : decode cX7_readRange 58 = .ok (.iload_n 1, 1) := by decide +kernel
theorem dX7_readRange_59 : decode cX7_readRange 59 = .ok (.iconst 4, 1) := by decide +kernel
theorem dX7_readRange_60 : decode cX7_readRange 60 = .ok (.imul, 1) := by decide +kernel
theorem dX7_readRange_61 : decode cX7_readRange 61 = .ok (.iload_n 2, 1) := by decide +kernel
theorem dX7_readRange_62 : decode cX7_readRange 62 = .ok (.iconst 2, 1) := by decide +kernel
theorem dX7_readRange_63 : decode cX7_readRange 63 = .ok (.imul, 1) := by decide +kernel
theorem dX7_readRange_64 : decode cX7_readRange 64 = .ok (.iadd, 1) := by decide +kernel
theorem dX7_readRange_65 : decode cX7_readRange 65 = .ok (.iload_n 3, 1) := by decide +kernel
theorem dX7_readRange_66 : decode cX7_readRange 66 = .ok (.iastore, 1) := by decide +kernel
theorem dX7_readRange_67 : decode cX7_readRange 67 = .ok (.aload_n 0, 1) := by decide +kernel
theorem dX7_readRange_68 : decode cX7_readRange 68 = .ok (.getfield 15, 3) := by decide +kernel
theorem dX7_readRange_71 : decode cX7_readRange 71 = .ok (.getfield 189, 3) := by decide +kernel
theorem dX7_readRange_74 : decode cX7_readRange 74 = .ok (.iload_n 1, 1) := by decide +kernel
theorem dX7_readRange_75 : decode cX7_readRange 75 = .ok (.iconst 4, 1) := by decide +kernel
theorem dX7_readRange_76 : decode cX7_readRange 76 = .ok (.imul, 1) := by decide +kernel
theorem dX7_readRange_77 : decode cX7_readRange 77 = .ok (.iload_n 2, 1) := by decide +kernel
theorem dX7_readRange_78 : decode cX7_readRange 78 = .ok (.iconst 2, 1) := by decide +kernel
theorem dX7_readRange_79 : decode cX7_readRange 79 = .ok (.imul, 1) := by decide +kernel
theorem dX7_readRange_80 : decode cX7_readRange 80 = .ok (.iadd, 1) := by decide +kernel
theorem dX7_readRange_81 : decode cX7_readRange 81 = .ok (.iconst 1, 1) := by decide +kernel
theorem dX7_readRange_82 : decode cX7_readRange 82 = .ok (.iadd, 1) := by decide +kernel
theorem dX7_readRange_83 : decode cX7_readRange 83 = .ok (.iload 4, 2) := by decide +kernel
theorem dX7_readRange_85 : decode cX7_readRange 85 = .ok (.iastore, 1) := by decide +kernel
theorem dX7_readRange_86 : decode cX7_readRange 86 = .ok (.return_, 1) := by decide +kernel
theorem dX7_readWatcher_0 : decode cX7_readWatcher 0 = .ok (.aload_n 0, 1) := by decide +kernel
theorem dX7_readWatcher_1 : decode cX7_readWatcher 1 = .ok (.iconst 4, 1) := by decide +kernel
theorem dX7_readWatcher_2 : decode cX7_readWatcher 2 = .ok (.iconst 4, 1) := by decide +kernel
theorem dX7_readWatcher_3 : decode cX7_readWatcher 3 = .ok (.invokevirtual 121, 3) := by decide +kernel
theorem dX7_readWatcher_6 : decode cX7_readWatcher 6 = .ok (.istore_n 1, 1) := by decide +kernel
theorem dX7_readWatcher_7 : decode cX7_readWatcher 7 = .ok (.aload_n 0, 1) := by decide +kernel
theorem dX7_readWatcher_8 : decode cX7_readWatcher 8 = .ok (.invokevirtual 125, 3) := by decide +kernel
theorem dX7_readWatcher_11 : decode cX7_readWatcher 11 = .ok (.lstore_n 2, 1) := by decide +kernel
theorem dX7_readWatcher_12 : decode cX7_readWatcher 12 = .ok (.aload_n 0, 1) := by decide +kernel
theorem dX7_readWatcher_13 : decode cX7_readWatcher 13 = .ok (.getfield 9, 3) := by decide +kernel
theorem dX7_readWatcher_16 : decode cX7_readWatcher 16 = .ok (.getstatic 192, 3) := by decide +kernel
theorem dX7_readWatcher_19 : decode cX7_readWatcher 19 = .ok (.invokevirtual 132, 3) := by decide +kernel
theorem dX7_readWatcher_22 : decode cX7_readWatcher 22 = .ok (.iconst 2, 1) := by decide +kernel
theorem dX7_readWatcher_23 : decode cX7_readWatcher 23 = .ok (.istore 4, 2) := by decide +kernel
theorem dX7_readWatcher_25 : decode cX7_readWatcher 25 = .ok (.aload_n 0, 1) := by decide +kernel
theorem dX7_readWatcher_26 : decode cX7_readWatcher 26 = .ok (.getfield 9, 3) := by decide +kernel
theorem dX7_readWatcher_29 : decode cX7_readWatcher 29 = .ok (.getstatic 129, 3) := by decide +kernel
theorem dX7_readWatcher_32 : decode cX7_readWatcher 32 = .ok (.invokevirtual 39, 3) := by decide +kernel
theorem dX7_readWatcher_35 : decode cX7_readWatcher 35 = .ok (.ifCond .eq 9, 3) := by decide +kernel
theorem dX7_readWatcher_38 : decode cX7_readWatcher 38 = .ok (.iconst 0, 1) := by decide +kernel
theorem dX7_readWatcher_39 : decode cX7_readWatcher 39 = .ok (.istore 4, 2) := by decide +kernel
theorem dX7_readWatcher_41 : decode cX7_readWatcher 41 = .ok (.goto 43, 3) := by decide +kernel
theorem dX7_readWatcher_44 : decode cX7_readWatcher 44 = .ok (.aload_n 0, 1) := by decide +kernel
theorem dX7_readWatcher_45 : decode cX7_readWatcher 45 = .ok (.getfield 9, 3) := by decide +kernel
theorem dX7_readWatcher_48 : decode cX7_readWatcher 48 = .ok (.getstatic 139, 3) := by decide +kernel
theorem dX7_readWatcher_51 : decode cX7_readWatcher 51 = .ok (.invokevirtual 39, 3) := by decide +kernel
theorem dX7_readWatcher_54 : decode cX7_readWatcher 54 = .ok (.ifCond .eq 9, 3) := by decide +kernel
theorem dX7_readWatcher_57 : decode cX7_readWatcher 57 = .ok (.iconst 1, 1) := by decide +kernel
theorem dX7_readWatcher_58 : decode cX7_readWatcher 58 = .ok (.istore 4, 2) := by decide +kernel
theorem dX7_readWatcher_60 : decode cX7_readWatcher 60 = .ok (.goto 24, 3) := by decide +kernel
theorem dX7_readWatcher_63 : decode cX7_readWatcher 63 = .ok (.aload_n 0, 1) := by decide +kernel
theorem dX7_readWatcher_64 : decode cX7_readWatcher 64 = .ok (.getfield 9, 3) := by decide +kernel
theorem dX7_readWatcher_67 : decode cX7_readWatcher 67 = .ok (.getstatic 195, 3) := by decide +kernel
theorem dX7_readWatcher_70 : decode cX7_readWatcher 70 = .ok (.invokevirtual 39, 3) := by decide +kernel
theorem dX7_readWatcher_73 : decode cX7_readWatcher 73 = .ok (.ifCond .ne 11, 3) := by decide +kernel
theorem dX7_readWatcher_76 : decode cX7_readWatcher 76 = .ok (.aload_n 0, 1) := by decide +kernel
theorem dX7_readWatcher_77 : decode cX7_readWatcher 77 = .ok (.getfield 9, 3) := by decide +kernel
theorem dX7_readWatcher_80 : decode cX7_readWatcher 80 = .ok (.iconst 1, 1) := by decide +kernel
theorem dX7_readWatcher_81 : decode cX7_readWatcher 81 = .ok (.invokevirtual 99, 3) := by decide +kernel
theorem dX7_readWatcher_84 : decode cX7_readWatcher 84 = .ok (.aload_n 0, 1) := by decide +kernel
theorem dX7_readWatcher_85 : decode cX7_readWatcher 85 = .ok (.getfield 9, 3) := by decide +kernel
theorem dX7_readWatcher_88 : decode cX7_readWatcher 88 = .ok (.invokevirtual 107, 3) := by decide +kernel
theorem dX7_readWatcher_91 : decode cX7_readWatcher 91 = .ok (.aload_n 0, 1) := by decide +kernel
theorem dX7_readWatcher_92 : decode cX7_readWatcher 92 = .ok (.getfield 9, 3) := by decide +kernel
theorem dX7_readWatcher_95 : decode cX7_readWatcher 95 = .ok (.bipush 59, 2) := by decide +kernel
theorem dX7_readWatcher_97 : decode cX7_readWatcher 97 = .ok (.invokevirtual 145, 3) := by decide +kernel
theorem dX7_readWatcher_100 : decode cX7_readWatcher 100 = .ok (.aload_n 0, 1) := by decide +kernel
theorem dX7_readWatcher_101 : decode cX7_readWatcher 101 = .ok (.getfield 9, 3) := by decide +kernel
theorem dX7_readWatcher_104 : decode cX7_readWatcher 104 = .ok (.invokevirtual 149, 3) := by decide +kernel
theorem dX7_readWatcher_107 : decode cX7_readWatcher 107 = .ok (.ifCond .eq 28, 3) := by decide +kernel
theorem dX7_readWatcher_110 : decode cX7_readWatcher 110 = .ok (.iload_n 1, 1) := by decide +kernel
theorem dX7_readWatcher_111 : decode cX7_readWatcher 111 = .ok (.iconst 4, 1) := by decide +kernel
theorem dX7_readWatcher_112 : decode cX7_readWatcher 112 = .ok (.if_icmp .ge 23, 3) := by decide +kernel
theorem dX7_readWatcher_115 : decode cX7_readWatcher 115 = .ok (.aload_n 0, 1) := by decide +kernel
theorem dX7_readWatcher_116 : decode cX7_readWatcher 116 = .ok (.getfield 15, 3) := by decide +kernel
theorem dX7_readWatcher_119 : decode cX7_readWatcher 119 = .ok (.getfield 198, 3) := by decide +kernel
theorem dX7_readWatcher_122 : decode cX7_readWatcher 122 = .ok (.iload_n 1, 1) := by decide +kernel
theorem dX7_readWatcher_123 : decode cX7_readWatcher 123 = .ok (.iload 4, 2) := by decide +kernel
theorem dX7_readWatcher_125 : decode cX7_readWatcher 125 = .ok (.iastore, 1) := by decide +kernel
theorem dX7_readWatcher_126 : decode cX7_readWatcher 126 = .ok (.aload_n 0, 1) := by decide +kernel
theorem dX7_readWatcher_127 : decode cX7_readWatcher 127 = .ok (.getfield 15, 3) := by decide +kernel
theorem dX7_readWatcher_130 : decode cX7_readWatcher 130 = .ok (.iconst 4, 1) := by decide +kernel
theorem dX7_readWatcher_131 : decode cX7_readWatcher 131 = .ok (.lload_n 2, 1) := by decide +kernel
theorem dX7_readWatcher_132 : decode cX7_readWatcher 132 = .ok (.invokevirtual 161, 3) := by decide +kernel
theorem dX7_readWatcher_135 : decode cX7_readWatcher 135 = .ok (.return_, 1) := by decide +kernel
theorem dX7_readWinds_0 : decode cX7_readWinds 0 = .ok (.aload_n 0, 1) := by decide +kernel
theorem dX7_readWinds_1 : decode cX7_readWinds 1 = .ok (.getfield 15, 3) := by decide +kernel
theorem dX7_readWinds_4 : decode cX7_readWinds 4 = .ok (.getfield 201, 3) := by decide +kernel
theorem dX7_readWinds_7 : decode cX7_readWinds 7 = .ok (.ifCond .le 11, 3) := by decide +kernel
theorem dX7_readWinds_10 : decode cX7_readWinds 10 = .ok (.aload_n 0, 1) := by decide +kernel
theorem dX7_readWinds_11 : decode cX7_readWinds 11 = .ok (.getfield 9, 3) := by decide +kernel
theorem dX7_readWinds_14 : decode cX7_readWinds 14 = .ok (.iconst 3, 1) := by decide +kernel
theorem dX7_readWinds_15 : decode cX7_readWinds 15 = .ok (.invokevirtual 99, 3) := by decide +kernel
theorem dX7_readWinds_18 : decode cX7_readWinds 18 = .ok (.aload_n 0, 1) := by decide +kernel
theorem dX7_readWinds_19 : decode cX7_readWinds 19 = .ok (.getfield 9, 3) := by decide +kernel
theorem dX7_readWinds_22 : decode cX7_readWinds 22 = .ok (.invokevirtual 107, 3) := by decide +kernel
theorem dX7_readWinds_25 : decode cX7_readWinds 25 = .ok (.aload_n 0, 1) := by decide +kernel
theorem dX7_readWinds_26 : decode cX7_readWinds 26 = .ok (.invokevirtual 204, 3) := by decide +kernel
theorem dX7_readWinds_29 : decode cX7_readWinds 29 = .ok (.iconst 0, 1) := by decide +kernel
theorem dX7_readWinds_30 : decode cX7_readWinds 30 = .ok (.istore_n 1, 1) := by decide +kernel
theorem dX7_readWinds_31 : decode cX7_readWinds 31 = .ok (.iload_n 1, 1) := by decide +kernel
theorem dX7_readWinds_32 : decode cX7_readWinds 32 = .ok (.bipush 12, 2) := by decide +kernel
theorem dX7_readWinds_34 : decode cX7_readWinds 34 = .ok (.if_icmp .ge 23, 3) := by decide +kernel
theorem dX7_readWinds_37 : decode cX7_readWinds 37 = .ok (.aload_n 0, 1) := by decide +kernel
theorem dX7_readWinds_38 : decode cX7_readWinds 38 = .ok (.getfield 9, 3) := by decide +kernel
theorem dX7_readWinds_41 : decode cX7_readWinds 41 = .ok (.invokevirtual 207, 3) := by decide +kernel
theorem dX7_readWinds_44 : decode cX7_readWinds 44 = .ok (.ifCond .eq 13, 3) := by decide +kernel
theorem dX7_readWinds_47 : decode cX7_readWinds 47 = .ok (.aload_n 0, 1) := by decide +kernel
theorem dX7_readWinds_48 : decode cX7_readWinds 48 = .ok (.invokevirtual 204, 3) := by decide +kernel
theorem dX7_readWinds_51 : decode cX7_readWinds 51 = .ok (.iinc 1 1, 3) := by decide +kernel
theorem dX7_readWinds_54 : decode cX7_readWinds 54 = .ok (.goto (-23), 3) := by decide +kernel
theorem dX7_readWinds_57 : decode cX7_readWinds 57 = .ok (.aload_n 0, 1) := by decide +kernel
theorem dX7_readWinds_58 : decode cX7_readWinds 58 = .ok (.getfield 9, 3) := by decide +kernel
theorem dX7_readWinds_61 : decode cX7_readWinds 61 = .ok (.bipush 59, 2) := by decide +kernel
theorem dX7_readWinds_63 : decode cX7_readWinds 63 = .ok (.invokevirtual 145, 3) := by decide +kernel
theorem dX7_readWinds_66 : decode cX7_readWinds 66 = .ok (.return_, 1) := by decide +kernel
theorem dX7_readWind_0 : decode cX7_readWind 0 = .ok (.aload_n 0, 1) := by decide +kernel
theorem dX7_readWind_1 : decode cX7_readWind 1 = .ok (.getfield 15, 3) := by decide +kernel
theorem dX7_readWind_4 : decode cX7_readWind 4 = .ok (.getfield 201, 3) := by decide +kernel
theorem dX7_readWind_7 : decode cX7_readWind 7 = .ok (.bipush 12, 2) := by decide +kernel
theorem dX7_readWind_9 : decode cX7_readWind 9 = .ok (.if_icmp .lt 7, 3) := by decide +kernel
theorem dX7_readWind_12 : decode cX7_readWind 12 = .ok (.iconst 1, 1) := by decide +kernel
theorem dX7_readWind_13 : decode cX7_readWind 13 = .ok (.goto 4, 3) := by decide +kernel
theorem dX7_readWind_16 : decode cX7_readWind 16 = .ok (.iconst 0, 1) := by decide +kernel
theorem dX7_readWind_17 : decode cX7_readWind 17 = .ok (.istore_n 1, 1) := by decide +kernel
theorem dX7_readWind_18 : decode cX7_readWind 18 = .ok (.iload_n 1, 1) := by decide +kernel
theorem dX7_readWind_19 : decode cX7_readWind 19 = .ok (.ifCond .eq 33, 3) := by decide +kernel
theorem dX7_readWind_22 : decode cX7_readWind 22 = .ok (.aload_n 0, 1) := by decide +kernel
theorem dX7_readWind_23 : decode cX7_readWind 23 = .ok (.getfield 9, 3) := by decide +kernel
theorem dX7_readWind_26 : decode cX7_readWind 26 = .ok (.invokevirtual 207, 3) := by decide +kernel
theorem dX7_readWind_29 : decode cX7_readWind 29 = .ok (.ifCond .eq 23, 3) := by decide +kernel
theorem dX7_readWind_32 : decode cX7_readWind 32 = .ok (.aload_n 0, 1) := by decide +kernel
theorem dX7_readWind_33 : decode cX7_readWind 33 = .ok (.getfield 9, 3) := by decide +kernel
theorem dX7_readWind_36 : decode cX7_readWind 36 = .ok (.getfield 210, 3) := by decide +kernel
theorem dX7_readWind_39 : decode cX7_readWind 39 = .ok (.bipush 9, 2) := by decide +kernel
theorem dX7_readWind_41 : decode cX7_readWind 41 = .ok (.if_icmp .gt 11, 3) := by decide +kernel
theorem dX7_readWind_44 : decode cX7_readWind 44 = .ok (.aload_n 0, 1) := by decide +kernel
theorem dX7_readWind_45 : decode cX7_readWind 45 = .ok (.getfield 9, 3) := by decide +kernel
theorem dX7_readWind_48 : decode cX7_readWind 48 = .ok (.iconst 5, 1) := by decide +kernel
theorem dX7_readWind_49 : decode cX7_readWind 49 = .ok (.invokevirtual 99, 3) := by decide +kernel
theorem dX7_readWind_52 : decode cX7_readWind 52 = .ok (.aload_n 0, 1) := by decide +kernel
theorem dX7_readWind_53 : decode cX7_readWind 53 = .ok (.getfield 9, 3) := by decide +kernel
theorem dX7_readWind_56 : decode cX7_readWind 56 = .ok (.iconst 0, 1) := by decide +kernel
theorem dX7_readWind_57 : decode cX7_readWind 57 = .ok (.bipush 9, 2) := by decide +kernel
theorem dX7_readWind_59 : decode cX7_readWind 59 = .ok (.invokevirtual 136, 3) := by decide +kernel
theorem dX7_readWind_62 : decode cX7_readWind 62 = .ok (.istore_n 2, 1) := by decide +kernel
theorem dX7_readWind_63 : decode cX7_readWind 63 = .ok (.aload_n 0, 1) := by decide +kernel
theorem dX7_readWind_64 : decode cX7_readWind 64 = .ok (.getfield 9, 3) := by decide +kernel
theorem dX7_readWind_67 : decode cX7_readWind 67 = .ok (.invokevirtual 149, 3) := by decide +kernel
theorem dX7_readWind_70 : decode cX7_readWind 70 = .ok (.ifCond .eq 36, 3) := by decide +kernel
theorem dX7_readWind_73 : decode cX7_readWind 73 = .ok (.iload_n 1, 1) := by decide +kernel
theorem dX7_readWind_74 : decode cX7_readWind 74 = .ok (.ifCond .ne 32, 3) := by decide +kernel
theorem dX7_readWind_77 : decode cX7_readWind 77 = .ok (.aload_n 0, 1) := by decide +kernel
theorem dX7_readWind_78 : decode cX7_readWind 78 = .ok (.getfield 15, 3) := by decide +kernel
theorem dX7_readWind_81 : decode cX7_readWind 81 = .ok (.getfield 213, 3) := by decide +kernel
theorem dX7_readWind_84 : decode cX7_readWind 84 = .ok (.aload_n 0, 1) := by decide +kernel
theorem dX7_readWind_85 : decode cX7_readWind 85 = .ok (.getfield 15, 3) := by decide +kernel
theorem dX7_readWind_88 : decode cX7_readWind 88 = .ok (.getfield 201, 3) := by decide +kernel
theorem dX7_readWind_91 : decode cX7_readWind 91 = .ok (.iload_n 2, 1) := by decide +kernel
theorem dX7_readWind_92 : decode cX7_readWind 92 = .ok (.iastore, 1) := by decide +kernel
theorem dX7_readWind_93 : decode cX7_readWind 93 = .ok (.aload_n 0, 1) := by decide +kernel
theorem dX7_readWind_94 : decode cX7_readWind 94 = .ok (.getfield 15, 3) := by decide +kernel
theorem dX7_readWind_97 : decode cX7_readWind 97 = .ok (.dup, 1) := by decide +kernel
theorem dX7_readWind_98 : decode cX7_readWind 98 = .ok (.getfield 201, 3) := by decide +kernel
theorem dX7_readWind_101 : decode cX7_readWind 101 = .ok (.iconst 1, 1) := by decide +kernel
theorem dX7_readWind_102 : decode cX7_readWind 102 = .ok (.iadd, 1) := by decide +kernel
theorem dX7_readWind_103 : decode cX7_readWind 103 = .ok (.putfield 201, 3) := by decide +kernel
theorem dX7_readWind_106 : decode cX7_readWind 106 = .ok (.return_, 1) := by decide +kernel
theorem dX7_readLaw_0 : decode cX7_readLaw 0 = .ok (.aload_n 1, 1) := by decide +kernel
theorem dX7_readLaw_1 : decode cX7_readLaw 1 = .ok (.invokevirtual 216, 3) := by decide +kernel
theorem dX7_readLaw_4 : decode cX7_readLaw 4 = .ok (.ifCond .eq 11, 3) := by decide +kernel
theorem dX7_readLaw_7 : decode cX7_readLaw 7 = .ok (.aload_n 0, 1) := by decide +kernel
theorem dX7_readLaw_8 : decode cX7_readLaw 8 = .ok (.getfield 9, 3) := by decide +kernel
theorem dX7_readLaw_11 : decode cX7_readLaw 11 = .ok (.iconst 3, 1) := by decide +kernel
theorem dX7_readLaw_12 : decode cX7_readLaw 12 = .ok (.invokevirtual 99, 3) := by decide +kernel
theorem dX7_readLaw_15 : decode cX7_readLaw 15 = .ok (.aload_n 0, 1) := by decide +kernel
theorem dX7_readLaw_16 : decode cX7_readLaw 16 = .ok (.getfield 9, 3) := by decide +kernel
theorem dX7_readLaw_19 : decode cX7_readLaw 19 = .ok (.invokevirtual 107, 3) := by decide +kernel
theorem dX7_readLaw_22 : decode cX7_readLaw 22 = .ok (.aload_n 0, 1) := by decide +kernel
theorem dX7_readLaw_23 : decode cX7_readLaw 23 = .ok (.getfield 9, 3) := by decide +kernel
theorem dX7_readLaw_26 : decode cX7_readLaw 26 = .ok (.invokevirtual 149, 3) := by decide +kernel
theorem dX7_readLaw_29 : decode cX7_readLaw 29 = .ok (.ifCond .eq 11, 3) := by decide +kernel
theorem dX7_readLaw_32 : decode cX7_readLaw 32 = .ok (.aload_n 1, 1) := by decide +kernel
theorem dX7_readLaw_33 : decode cX7_readLaw 33 = .ok (.aload_n 0, 1) := by decide +kernel
theorem dX7_readLaw_34 : decode cX7_readLaw 34 = .ok (.getfield 9, 3) := by decide +kernel
theorem dX7_readLaw_37 : decode cX7_readLaw 37 = .ok (.invokevirtual 221, 3) := by decide +kernel
theorem dX7_readLaw_40 : decode cX7_readLaw 40 = .ok (.aload_n 0, 1) := by decide +kernel
theorem dX7_readLaw_41 : decode cX7_readLaw 41 = .ok (.getfield 9, 3) := by decide +kernel
theorem dX7_readLaw_44 : decode cX7_readLaw 44 = .ok (.bipush 59, 2) := by decide +kernel
theorem dX7_readLaw_46 : decode cX7_readLaw 46 = .ok (.invokevirtual 145, 3) := by decide +kernel
theorem dX7_readLaw_49 : decode cX7_readLaw 49 = .ok (.return_, 1) := by decide +kernel
theorem dX8_init_0 : decode cX8_init 0 = .ok (.aload_n 0, 1) := by decide +kernel
theorem dX8_init_1 : decode cX8_init 1 = .ok (.invokespecial 3, 3) := by decide +kernel
theorem dX8_init_4 : decode cX8_init 4 = .ok (.aload_n 0, 1) := by decide +kernel
theorem dX8_init_5 : decode cX8_init 5 = .ok (.iconst 4, 1) := by decide +kernel
theorem dX8_init_6 : decode cX8_init 6 = .ok (.newarray .int, 2) := by decide +kernel
theorem dX8_init_8 : decode cX8_init 8 = .ok (.putfield 9, 3) := by decide +kernel
theorem dX8_init_11 : decode cX8_init 11 = .ok (.aload_n 0, 1) := by decide +kernel
theorem dX8_init_12 : decode cX8_init 12 = .ok (.iconst 4, 1) := by decide +kernel
theorem dX8_init_13 : decode cX8_init 13 = .ok (.newarray .int, 2) := by decide +kernel
theorem dX8_init_15 : decode cX8_init 15 = .ok (.putfield 15, 3) := by decide +kernel
theorem dX8_init_18 : decode cX8_init 18 = .ok (.aload_n 0, 1) := by decide +kernel
theorem dX8_init_19 : decode cX8_init 19 = .ok (.iconst 4, 1) := by decide +kernel
theorem dX8_init_20 : decode cX8_init 20 = .ok (.newarray .int, 2) := by decide +kernel
theorem dX8_init_22 : decode cX8_init 22 = .ok (.putfield 18, 3) := by decide +kernel
theorem dX8_init_25 : decode cX8_init 25 = .ok (.aload_n 0, 1) := by decide +kernel
theorem dX8_init_26 : decode cX8_init 26 = .ok (.iconst 4, 1) := by decide +kernel
theorem dX8_init_27 : decode cX8_init 27 = .ok (.newarray .int, 2) := by decide +kernel
theorem dX8_init_29 : decode cX8_init 29 = .ok (.putfield 21, 3) := by decide +kernel
theorem dX8_init_32 : decode cX8_init 32 = .ok (.aload_n 0, 1) := by decide +kernel
theorem dX8_init_33 : decode cX8_init 33 = .ok (.sipush 1000, 3) := by decide +kernel
theorem dX8_init_36 : decode cX8_init 36 = .ok (.newarray .int, 2) := by decide +kernel
theorem dX8_init_38 : decode cX8_init 38 = .ok (.putfield 24, 3) := by decide +kernel
theorem dX8_init_41 : decode cX8_init 41 = .ok (.aload_n 0, 1) := by decide +kernel
theorem dX8_init_42 : decode cX8_init 42 = .ok (.sipush 1000, 3) := by decide +kernel
theorem dX8_init_45 : decode cX8_init 45 = .ok (.newarray .int, 2) := by decide +kernel
theorem dX8_init_47 : decode cX8_init 47 = .ok (.putfield 27, 3) := by decide +kernel
theorem dX8_init_50 : decode cX8_init 50 = .ok (.aload_n 0, 1) := by decide +kernel
theorem dX8_init_51 : decode cX8_init 51 = .ok (.bipush 7, 2) := by decide +kernel
theorem dX8_init_53 : decode cX8_init 53 = .ok (.newarray .int, 2) := by decide +kernel
theorem dX8_init_55 : decode cX8_init 55 = .ok (.putfield 30, 3) := by decide +kernel
theorem dX8_init_58 : decode cX8_init 58 = .ok (.return_, 1) := by decide +kernel
theorem dX8_byRead_0 : decode cX8_byRead 0 = .ok (.aload_n 0, 1) := by decide +kernel
theorem dX8_byRead_1 : decode cX8_byRead 1 = .ok (.iconst 1, 1) := by decide +kernel
theorem dX8_byRead_2 : decode cX8_byRead 2 = .ok (.putfield 33, 3) := by decide +kernel
theorem dX8_byRead_5 : decode cX8_byRead 5 = .ok (.aload_n 0, 1) := by decide +kernel
theorem dX8_byRead_6 : decode cX8_byRead 6 = .ok (.aload_n 1, 1) := by decide +kernel
theorem dX8_byRead_7 : decode cX8_byRead 7 = .ok (.aload_n 2, 1) := by decide +kernel
theorem dX8_byRead_8 : decode cX8_byRead 8 = .ok (.iload_n 3, 1) := by decide +kernel
theorem dX8_byRead_9 : decode cX8_byRead 9 = .ok (.iconst (-1), 1) := by decide +kernel
theorem dX8_byRead_10 : decode cX8_byRead 10 = .ok (.iconst (-1), 1) := by decide +kernel
theorem dX8_byRead_11 : decode cX8_byRead 11 = .ok (.invokevirtual 37, 3) := by decide +kernel
theorem dX8_byRead_14 : decode cX8_byRead 14 = .ok (.return_, 1) := by decide +kernel
theorem dX8_besides_0 : decode cX8_besides 0 = .ok (.aload_n 0, 1) := by decide +kernel
theorem dX8_besides_1 : decode cX8_besides 1 = .ok (.iconst 0, 1) := by decide +kernel
theorem dX8_besides_2 : decode cX8_besides 2 = .ok (.putfield 33, 3) := by decide +kernel
theorem dX8_besides_5 : decode cX8_besides 5 = .ok (.aload_n 0, 1) := by decide +kernel
theorem dX8_besides_6 : decode cX8_besides 6 = .ok (.aload_n 1, 1) := by decide +kernel
theorem dX8_besides_7 : decode cX8_besides 7 = .ok (.aload_n 2, 1) := by decide +kernel
theorem dX8_besides_8 : decode cX8_besides 8 = .ok (.aload_n 1, 1) := by decide +kernel
theorem dX8_besides_9 : decode cX8_besides 9 = .ok (.getfield 41, 3) := by decide +kernel
theorem dX8_besides_12 : decode cX8_besides 12 = .ok (.iload_n 3, 1) := by decide +kernel
theorem dX8_besides_13 : decode cX8_besides 13 = .ok (.iaload, 1) := by decide +kernel
theorem dX8_besides_14 : decode cX8_besides 14 = .ok (.iload_n 3, 1) := by decide +kernel
theorem dX8_besides_15 : decode cX8_besides 15 = .ok (.iload 4, 2) := by decide +kernel
theorem dX8_besides_17 : decode cX8_besides 17 = .ok (.invokevirtual 37, 3) := by decide +kernel
theorem dX8_besides_20 : decode cX8_besides 20 = .ok (.return_, 1) := by decide +kernel
theorem dX8_sameOf_0 : decode cX8_sameOf 0 = .ok (.iconst 0, 1) := by decide +kernel
theorem dX8_sameOf_1 : decode cX8_sameOf 1 = .ok (.istore_n 2, 1) := by decide +kernel
theorem dX8_sameOf_2 : decode cX8_sameOf 2 = .ok (.iload_n 2, 1) := by decide +kernel
theorem dX8_sameOf_3 : decode cX8_sameOf 3 = .ok (.aload_n 0, 1) := by decide +kernel
theorem dX8_sameOf_4 : decode cX8_sameOf 4 = .ok (.getfield 46, 3) := by decide +kernel
theorem dX8_sameOf_7 : decode cX8_sameOf 7 = .ok (.if_icmp .ge 33, 3) := by decide +kernel
theorem dX8_sameOf_10 : decode cX8_sameOf 10 = .ok (.aload_n 0, 1) := by decide +kernel
theorem dX8_sameOf_11 : decode cX8_sameOf 11 = .ok (.getfield 9, 3) := by decide +kernel
theorem dX8_sameOf_14 : decode cX8_sameOf 14 = .ok (.iload_n 2, 1) := by decide +kernel
theorem dX8_sameOf_15 : decode cX8_sameOf 15 = .ok (.iaload, 1) := by decide +kernel
theorem dX8_sameOf_16 : decode cX8_sameOf 16 = .ok (.iload_n 1, 1) := by decide +kernel
theorem dX8_sameOf_17 : decode cX8_sameOf 17 = .ok (.if_icmp .ne 17, 3) := by decide +kernel
theorem dX8_sameOf_20 : decode cX8_sameOf 20 = .ok (.aload_n 0, 1) := by decide +kernel
theorem dX8_sameOf_21 : decode cX8_sameOf 21 = .ok (.getfield 50, 3) := by decide +kernel
theorem dX8_sameOf_24 : decode cX8_sameOf 24 = .ok (.ifCond .le 10, 3) := by decide +kernel
theorem dX8_sameOf_27 : decode cX8_sameOf 27 = .ok (.aload_n 0, 1) := by decide +kernel
theorem dX8_sameOf_28 : decode cX8_sameOf 28 = .ok (.getfield 21, 3) := by decide +kernel
theorem dX8_sameOf_31 : decode cX8_sameOf 31 = .ok (.iload_n 2, 1) := by decide +kernel
theorem dX8_sameOf_32 : decode cX8_sameOf 32 = .ok (.iaload, 1) := by decide +kernel
theorem dX8_sameOf_33 : decode cX8_sameOf 33 = .ok (.ireturn, 1) := by decide +kernel
theorem dX8_sameOf_34 : decode cX8_sameOf 34 = .ok (.iinc 2 1, 3) := by decide +kernel
theorem dX8_sameOf_37 : decode cX8_sameOf 37 = .ok (.goto (-35), 3) := by decide +kernel
theorem dX8_sameOf_40 : decode cX8_sameOf 40 = .ok (.iconst (-1), 1) := by decide +kernel
theorem dX8_sameOf_41 : decode cX8_sameOf 41 = .ok (.ireturn, 1) := by decide +kernel
theorem dX8_go_0 : decode cX8_go 0 = .ok (.aload_n 0, 1) := by decide +kernel
theorem dX8_go_1 : decode cX8_go 1 = .ok (.aload_n 1, 1) := by decide +kernel
theorem dX8_go_2 : decode cX8_go 2 = .ok (.putfield 53, 3) := by decide +kernel
theorem dX8_go_5 : decode cX8_go 5 = .ok (.aload_n 0, 1) := by decide +kernel
theorem dX8_go_6 : decode cX8_go 6 = .ok (.aload_n 2, 1) := by decide +kernel
theorem dX8_go_7 : decode cX8_go 7 = .ok (.putfield 57, 3) := by decide +kernel
theorem dX8_go_10 : decode cX8_go 10 = .ok (.aload_n 0, 1) := by decide +kernel
theorem dX8_go_11 : decode cX8_go 11 = .ok (.iload_n 3, 1) := by decide +kernel
theorem dX8_go_12 : decode cX8_go 12 = .ok (.putfield 61, 3) := by decide +kernel
theorem dX8_go_15 : decode cX8_go 15 = .ok (.aload_n 0, 1) := by decide +kernel
theorem dX8_go_16 : decode cX8_go 16 = .ok (.aload_n 1, 1) := by decide +kernel
theorem dX8_go_17 : decode cX8_go 17 = .ok (.aload_n 2, 1) := by decide +kernel
theorem dX8_go_18 : decode cX8_go 18 = .ok (.getfield 64, 3) := by decide +kernel
theorem dX8_go_21 : decode cX8_go 21 = .ok (.getfield 70, 3) := by decide +kernel
theorem dX8_go_24 : decode cX8_go 24 = .ok (.invokevirtual 75, 3) := by decide +kernel
theorem dX8_go_27 : decode cX8_go 27 = .ok (.putfield 79, 3) := by decide +kernel
theorem dX8_go_30 : decode cX8_go 30 = .ok (.aload_n 0, 1) := by decide +kernel
theorem dX8_go_31 : decode cX8_go 31 = .ok (.iconst 0, 1) := by decide +kernel
theorem dX8_go_32 : decode cX8_go 32 = .ok (.putfield 50, 3) := by decide +kernel
theorem dX8_go_35 : decode cX8_go 35 = .ok (.aload_n 0, 1) := by decide +kernel
theorem dX8_go_36 : decode cX8_go 36 = .ok (.iconst 0, 1) := by decide +kernel
theorem dX8_go_37 : decode cX8_go 37 = .ok (.putfield 82, 3) := by decide +kernel
theorem dX8_go_40 : decode cX8_go 40 = .ok (.aload_n 0, 1) := by decide +kernel
theorem dX8_go_41 : decode cX8_go 41 = .ok (.iconst 0, 1) := by decide +kernel
theorem dX8_go_42 : decode cX8_go 42 = .ok (.putfield 85, 3) := by decide +kernel
theorem dX8_go_45 : decode cX8_go 45 = .ok (.aload_n 0, 1) := by decide +kernel
theorem dX8_go_46 : decode cX8_go 46 = .ok (.iconst 0, 1) := by decide +kernel
theorem dX8_go_47 : decode cX8_go 47 = .ok (.putfield 88, 3) := by decide +kernel
theorem dX8_go_50 : decode cX8_go 50 = .ok (.aload_n 0, 1) := by decide +kernel
theorem dX8_go_51 : decode cX8_go 51 = .ok (.getfield 24, 3) := by decide +kernel
theorem dX8_go_54 : decode cX8_go 54 = .ok (.iconst 0, 1) := by decide +kernel
theorem dX8_go_55 : decode cX8_go 55 = .ok (.invokestatic 91, 3) := by decide +kernel
theorem dX8_go_58 : decode cX8_go 58 = .ok (.aload_n 0, 1) := by decide +kernel
theorem dX8_go_59 : decode cX8_go 59 = .ok (.getfield 27, 3) := by decide +kernel
theorem dX8_go_62 : decode cX8_go 62 = .ok (.iconst 0, 1) := by decide +kernel
theorem dX8_go_63 : decode cX8_go 63 = .ok (.invokestatic 91, 3) := by decide +kernel
theorem dX8_go_66 : decode cX8_go 66 = .ok (.aload_n 0, 1) := by decide +kernel
theorem dX8_go_67 : decode cX8_go 67 = .ok (.getfield 30, 3) := by decide +kernel
theorem dX8_go_70 : decode cX8_go 70 = .ok (.iconst 0, 1) := by decide +kernel
theorem dX8_go_71 : decode cX8_go 71 = .ok (.invokestatic 91, 3) := by decide +kernel
theorem dX8_go_74 : decode cX8_go 74 = .ok (.aload_n 0, 1) := by decide +kernel
theorem dX8_go_75 : decode cX8_go 75 = .ok (.iconst 0, 1) := by decide +kernel
theorem dX8_go_76 : decode cX8_go 76 = .ok (.putfield 46, 3) := by decide +kernel
theorem dX8_go_79 : decode cX8_go 79 = .ok (.iconst 0, 1) := by decide +kernel
theorem dX8_go_80 : decode cX8_go 80 = .ok (.istore 6, 2) := by decide +kernel
theorem dX8_go_82 : decode cX8_go 82 = .ok (.iload 6, 2) := by decide +kernel
theorem dX8_go_84 : decode cX8_go 84 = .ok (.aload_n 1, 1) := by decide +kernel
theorem dX8_go_85 : decode cX8_go 85 = .ok (.getfield 97, 3) := by decide +kernel
theorem dX8_go_88 : decode cX8_go 88 = .ok (.iconst 2, 1) := by decide +kernel
theorem dX8_go_89 : decode cX8_go 89 = .ok (.iaload, 1) := by decide +kernel
theorem dX8_go_90 : decode cX8_go 90 = .ok (.if_icmp .ge 82, 3) := by decide +kernel
theorem dX8_go_93 : decode cX8_go 93 = .ok (.aload_n 1, 1) := by decide +kernel
theorem dX8_go_94 : decode cX8_go 94 = .ok (.getfield 41, 3) := by decide +kernel
theorem dX8_go_97 : decode cX8_go 97 = .ok (.iload 6, 2) := by decide +kernel
theorem dX8_go_99 : decode cX8_go 99 = .ok (.iaload, 1) := by decide +kernel
theorem dX8_go_100 : decode cX8_go 100 = .ok (.iload_n 3, 1) := by decide +kernel
theorem dX8_go_101 : decode cX8_go 101 = .ok (.if_icmp .ne 65, 3) := by decide +kernel
theorem dX8_go_104 : decode cX8_go 104 = .ok (.aload_n 2, 1) := by decide +kernel
theorem dX8_go_105 : decode cX8_go 105 = .ok (.getfield 64, 3) := by decide +kernel
theorem dX8_go_108 : decode cX8_go 108 = .ok (.iload 6, 2) := by decide +kernel
theorem dX8_go_110 : decode cX8_go 110 = .ok (.invokevirtual 100, 3) := by decide +kernel
theorem dX8_go_113 : decode cX8_go 113 = .ok (.ifCond .ne 53, 3) := by decide +kernel
theorem dX8_go_116 : decode cX8_go 116 = .ok (.aload_n 0, 1) := by decide +kernel
theorem dX8_go_117 : decode cX8_go 117 = .ok (.getfield 9, 3) := by decide +kernel
theorem dX8_go_120 : decode cX8_go 120 = .ok (.aload_n 0, 1) := by decide +kernel
theorem dX8_go_121 : decode cX8_go 121 = .ok (.getfield 46, 3) := by decide +kernel
theorem dX8_go_124 : decode cX8_go 124 = .ok (.iload 6, 2) := by decide +kernel
theorem dX8_go_126 : decode cX8_go 126 = .ok (.iastore, 1) := by decide +kernel
theorem dX8_go_127 : decode cX8_go 127 = .ok (.aload_n 0, 1) := by decide +kernel
theorem dX8_go_128 : decode cX8_go 128 = .ok (.getfield 15, 3) := by decide +kernel
theorem dX8_go_131 : decode cX8_go 131 = .ok (.aload_n 0, 1) := by decide +kernel
theorem dX8_go_132 : decode cX8_go 132 = .ok (.getfield 46, 3) := by decide +kernel
theorem dX8_go_135 : decode cX8_go 135 = .ok (.iload 6, 2) := by decide +kernel
theorem dX8_go_137 : decode cX8_go 137 = .ok (.iload 4, 2) := by decide +kernel
theorem dX8_go_139 : decode cX8_go 139 = .ok (.if_icmp .ne 10, 3) := by decide +kernel
theorem dX8_go_142 : decode cX8_go 142 = .ok (.iconst 1, 1) := by decide +kernel
theorem dX8_go_143 : decode cX8_go 143 = .ok (.iload 5, 2) := by decide +kernel
theorem dX8_go_145 : decode cX8_go 145 = .ok (.ishl, 1) := by decide +kernel
theorem dX8_go_146 : decode cX8_go 146 = .ok (.goto 9, 3) := by decide +kernel
theorem dX8_go_149 : decode cX8_go 149 = .ok (.aload_n 0, 1) := by decide +kernel
theorem dX8_go_150 : decode cX8_go 150 = .ok (.iload 6, 2) := by decide +kernel
theorem dX8_go_152 : decode cX8_go 152 = .ok (.invokevirtual 104, 3) := by decide +kernel
theorem dX8_go_155 : decode cX8_go 155 = .ok (.iastore, 1) := by decide +kernel
theorem dX8_go_156 : decode cX8_go 156 = .ok (.aload_n 0, 1) := by decide +kernel
theorem dX8_go_157 : decode cX8_go 157 = .ok (.dup, 1) := by decide +kernel
theorem dX8_go_158 : decode cX8_go 158 = .ok (.getfield 46, 3) := by decide +kernel
theorem dX8_go_161 : decode cX8_go 161 = .ok (.iconst 1, 1) := by decide +kernel
theorem dX8_go_162 : decode cX8_go 162 = .ok (.iadd, 1) := by decide +kernel
theorem dX8_go_163 : decode cX8_go 163 = .ok (.putfield 46, 3) := by decide +kernel
theorem dX8_go_166 : decode cX8_go 166 = .ok (.iinc 6 1, 3) := by decide +kernel
theorem dX8_go_169 : decode cX8_go 169 = .ok (.goto (-87), 3) := by decide +kernel
theorem dX8_go_172 : decode cX8_go 172 = .ok (.aload_n 1, 1) := by decide +kernel
theorem dX8_go_173 : decode cX8_go 173 = .ok (.iload_n 3, 1) := by decide +kernel
theorem dX8_go_174 : decode cX8_go 174 = .ok (.invokevirtual 107, 3) := by decide +kernel
theorem dX8_go_177 : decode cX8_go 177 = .ok (.istore 6, 2) := by decide +kernel
theorem dX8_go_179 : decode cX8_go 179 = .ok (.aload_n 0, 1) := by decide +kernel
theorem dX8_go_180 : decode cX8_go 180 = .ok (.iconst 0, 1) := by decide +kernel
theorem dX8_go_181 : decode cX8_go 181 = .ok (.aload_n 2, 1) := by decide +kernel
theorem dX8_go_182 : decode cX8_go 182 = .ok (.getfield 64, 3) := by decide +kernel
theorem dX8_go_185 : decode cX8_go 185 = .ok (.aload_n 1, 1) := by decide +kernel
theorem dX8_go_186 : decode cX8_go 186 = .ok (.iload 6, 2) := by decide +kernel
theorem dX8_go_188 : decode cX8_go 188 = .ok (.iconst 0, 1) := by decide +kernel
theorem dX8_go_189 : decode cX8_go 189 = .ok (.invokevirtual 110, 3) := by decide +kernel
theorem dX8_go_192 : decode cX8_go 192 = .ok (.aload_n 2, 1) := by decide +kernel
theorem dX8_go_193 : decode cX8_go 193 = .ok (.getfield 64, 3) := by decide +kernel
theorem dX8_go_196 : decode cX8_go 196 = .ok (.aload_n 1, 1) := by decide +kernel
theorem dX8_go_197 : decode cX8_go 197 = .ok (.iload 6, 2) := by decide +kernel
theorem dX8_go_199 : decode cX8_go 199 = .ok (.iconst 1, 1) := by decide +kernel
theorem dX8_go_200 : decode cX8_go 200 = .ok (.invokevirtual 110, 3) := by decide +kernel
theorem dX8_go_203 : decode cX8_go 203 = .ok (.invokevirtual 114, 3) := by decide +kernel
theorem dX8_go_206 : decode cX8_go 206 = .ok (.return_, 1) := by decide +kernel
theorem dX8_choicesOf_0 : decode cX8_choicesOf 0 = .ok (.aload_n 0, 1) := by decide +kernel
theorem dX8_choicesOf_1 : decode cX8_choicesOf 1 = .ok (.getfield 53, 3) := by decide +kernel
theorem dX8_choicesOf_4 : decode cX8_choicesOf 4 = .ok (.getfield 97, 3) := by decide +kernel
theorem dX8_choicesOf_7 : decode cX8_choicesOf 7 = .ok (.iconst 0, 1) := by decide +kernel
theorem dX8_choicesOf_8 : decode cX8_choicesOf 8 = .ok (.iaload, 1) := by decide +kernel
theorem dX8_choicesOf_9 : decode cX8_choicesOf 9 = .ok (.istore_n 2, 1) := by decide +kernel
theorem dX8_choicesOf_10 : decode cX8_choicesOf 10 = .ok (.iconst 1, 1) := by decide +kernel
theorem dX8_choicesOf_11 : decode cX8_choicesOf 11 = .ok (.iload_n 2, 1) := by decide +kernel
theorem dX8_choicesOf_12 : decode cX8_choicesOf 12 = .ok (.ishl, 1) := by decide +kernel
theorem dX8_choicesOf_13 : decode cX8_choicesOf 13 = .ok (.istore_n 3, 1) := by decide +kernel
theorem dX8_choicesOf_14 : decode cX8_choicesOf 14 = .ok (.iconst 0, 1) := by decide +kernel
theorem dX8_choicesOf_15 : decode cX8_choicesOf 15 = .ok (.istore 4, 2) := by decide +kernel
theorem dX8_choicesOf_17 : decode cX8_choicesOf 17 = .ok (.iload 4, 2) := by decide +kernel
theorem dX8_choicesOf_19 : decode cX8_choicesOf 19 = .ok (.iload_n 2, 1) := by decide +kernel
theorem dX8_choicesOf_20 : decode cX8_choicesOf 20 = .ok (.if_icmp .ge 32, 3) := by decide +kernel
theorem dX8_choicesOf_23 : decode cX8_choicesOf 23 = .ok (.aload_n 0, 1) := by decide +kernel
theorem dX8_choicesOf_24 : decode cX8_choicesOf 24 = .ok (.getfield 57, 3) := by decide +kernel
theorem dX8_choicesOf_27 : decode cX8_choicesOf 27 = .ok (.getfield 64, 3) := by decide +kernel
theorem dX8_choicesOf_30 : decode cX8_choicesOf 30 = .ok (.iload_n 1, 1) := by decide +kernel
theorem dX8_choicesOf_31 : decode cX8_choicesOf 31 = .ok (.iload 4, 2) := by decide +kernel
theorem dX8_choicesOf_33 : decode cX8_choicesOf 33 = .ok (.invokevirtual 118, 3) := by decide +kernel
theorem dX8_choicesOf_36 : decode cX8_choicesOf 36 = .ok (.ifCond .eq 10, 3) := by decide +kernel
theorem dX8_choicesOf_39 : decode cX8_choicesOf 39 = .ok (.iload_n 3, 1) := by decide +kernel
theorem dX8_choicesOf_40 : decode cX8_choicesOf 40 = .ok (.iconst 1, 1) := by decide +kernel
theorem dX8_choicesOf_41 : decode cX8_choicesOf 41 = .ok (.iload 4, 2) := by decide +kernel
theorem dX8_choicesOf_43 : decode cX8_choicesOf 43 = .ok (.ishl, 1) := by decide +kernel
theorem dX8_choicesOf_44 : decode cX8_choicesOf 44 = .ok (.ior, 1) := by decide +kernel
theorem dX8_choicesOf_45 : decode cX8_choicesOf 45 = .ok (.istore_n 3, 1) := by decide +kernel
theorem dX8_choicesOf_46 : decode cX8_choicesOf 46 = .ok (.iinc 4 1, 3) := by decide +kernel
theorem dX8_choicesOf_49 : decode cX8_choicesOf 49 = .ok (.goto (-32), 3) := by decide +kernel
theorem dX8_choicesOf_52 : decode cX8_choicesOf 52 = .ok (.iload_n 3, 1) := by decide +kernel
theorem dX8_choicesOf_53 : decode cX8_choicesOf 53 = .ok (.ireturn, 1) := by decide +kernel
theorem dX8_choose_0 : decode cX8_choose 0 = .ok (.iload_n 1, 1) := by decide +kernel
theorem dX8_choose_1 : decode cX8_choose 1 = .ok (.aload_n 0, 1) := by decide +kernel
theorem dX8_choose_2 : decode cX8_choose 2 = .ok (.getfield 46, 3) := by decide +kernel
theorem dX8_choose_5 : decode cX8_choose 5 = .ok (.if_icmp .lt 22, 3) := by decide +kernel
theorem dX8_choose_8 : decode cX8_choose 8 = .ok (.aload_n 0, 1) := by decide +kernel
theorem dX8_choose_9 : decode cX8_choose 9 = .ok (.iload_n 2, 1) := by decide +kernel
theorem dX8_choose_10 : decode cX8_choose 10 = .ok (.sipush 999, 3) := by decide +kernel
theorem dX8_choose_13 : decode cX8_choose 13 = .ok (.invokestatic 122, 3) := by decide +kernel
theorem dX8_choose_16 : decode cX8_choose 16 = .ok (.iload_n 3, 1) := by decide +kernel
theorem dX8_choose_17 : decode cX8_choose 17 = .ok (.sipush 999, 3) := by decide +kernel
theorem dX8_choose_20 : decode cX8_choose 20 = .ok (.invokestatic 122, 3) := by decide +kernel
theorem dX8_choose_23 : decode cX8_choose 23 = .ok (.invokevirtual 128, 3) := by decide +kernel
theorem dX8_choose_26 : decode cX8_choose 26 = .ok (.return_, 1) := by decide +kernel
theorem dX8_choose_27 : decode cX8_choose 27 = .ok (.iconst 0, 1) := by decide +kernel
theorem dX8_choose_28 : decode cX8_choose 28 = .ok (.istore 4, 2) := by decide +kernel
theorem dX8_choose_30 : decode cX8_choose 30 = .ok (.iload 4, 2) := by decide +kernel
theorem dX8_choose_32 : decode cX8_choose 32 = .ok (.aload_n 0, 1) := by decide +kernel
theorem dX8_choose_33 : decode cX8_choose 33 = .ok (.getfield 53, 3) := by decide +kernel
theorem dX8_choose_36 : decode cX8_choose 36 = .ok (.getfield 97, 3) := by decide +kernel
theorem dX8_choose_39 : decode cX8_choose 39 = .ok (.iconst 0, 1) := by decide +kernel
theorem dX8_choose_40 : decode cX8_choose 40 = .ok (.iaload, 1) := by decide +kernel
theorem dX8_choose_41 : decode cX8_choose 41 = .ok (.if_icmp .gt 78, 3) := by decide +kernel
theorem dX8_choose_44 : decode cX8_choose 44 = .ok (.aload_n 0, 1) := by decide +kernel
theorem dX8_choose_45 : decode cX8_choose 45 = .ok (.getfield 15, 3) := by decide +kernel
theorem dX8_choose_48 : decode cX8_choose 48 = .ok (.iload_n 1, 1) := by decide +kernel
theorem dX8_choose_49 : decode cX8_choose 49 = .ok (.iaload, 1) := by decide +kernel
theorem dX8_choose_50 : decode cX8_choose 50 = .ok (.iload 4, 2) := by decide +kernel
theorem dX8_choose_52 : decode cX8_choose 52 = .ok (.ishr, 1) := by decide +kernel
theorem dX8_choose_53 : decode cX8_choose 53 = .ok (.iconst 1, 1) := by decide +kernel
theorem dX8_choose_54 : decode cX8_choose 54 = .ok (.iand, 1) := by decide +kernel
theorem dX8_choose_55 : decode cX8_choose 55 = .ok (.ifCond .eq 58, 3) := by decide +kernel
theorem dX8_choose_58 : decode cX8_choose 58 = .ok (.aload_n 0, 1) := by decide +kernel
theorem dX8_choose_59 : decode cX8_choose 59 = .ok (.getfield 18, 3) := by decide +kernel
theorem dX8_choose_62 : decode cX8_choose 62 = .ok (.iload_n 1, 1) := by decide +kernel
theorem dX8_choose_63 : decode cX8_choose 63 = .ok (.iload 4, 2) := by decide +kernel
theorem dX8_choose_65 : decode cX8_choose 65 = .ok (.iastore, 1) := by decide +kernel
theorem dX8_choose_66 : decode cX8_choose 66 = .ok (.aload_n 0, 1) := by decide +kernel
theorem dX8_choose_67 : decode cX8_choose 67 = .ok (.getfield 53, 3) := by decide +kernel
theorem dX8_choose_70 : decode cX8_choose 70 = .ok (.iload 4, 2) := by decide +kernel
theorem dX8_choose_72 : decode cX8_choose 72 = .ok (.aload_n 0, 1) := by decide +kernel
theorem dX8_choose_73 : decode cX8_choose 73 = .ok (.getfield 79, 3) := by decide +kernel
theorem dX8_choose_76 : decode cX8_choose 76 = .ok (.iconst 0, 1) := by decide +kernel
theorem dX8_choose_77 : decode cX8_choose 77 = .ok (.invokevirtual 132, 3) := by decide +kernel
theorem dX8_choose_80 : decode cX8_choose 80 = .ok (.istore 5, 2) := by decide +kernel
theorem dX8_choose_82 : decode cX8_choose 82 = .ok (.aload_n 0, 1) := by decide +kernel
theorem dX8_choose_83 : decode cX8_choose 83 = .ok (.getfield 53, 3) := by decide +kernel
theorem dX8_choose_86 : decode cX8_choose 86 = .ok (.iload 4, 2) := by decide +kernel
theorem dX8_choose_88 : decode cX8_choose 88 = .ok (.aload_n 0, 1) := by decide +kernel
theorem dX8_choose_89 : decode cX8_choose 89 = .ok (.getfield 79, 3) := by decide +kernel
theorem dX8_choose_92 : decode cX8_choose 92 = .ok (.iconst 1, 1) := by decide +kernel
theorem dX8_choose_93 : decode cX8_choose 93 = .ok (.invokevirtual 132, 3) := by decide +kernel
theorem dX8_choose_96 : decode cX8_choose 96 = .ok (.istore 6, 2) := by decide +kernel
theorem dX8_choose_98 : decode cX8_choose 98 = .ok (.aload_n 0, 1) := by decide +kernel
theorem dX8_choose_99 : decode cX8_choose 99 = .ok (.iload_n 1, 1) := by decide +kernel
theorem dX8_choose_100 : decode cX8_choose 100 = .ok (.iconst 1, 1) := by decide +kernel
theorem dX8_choose_101 : decode cX8_choose 101 = .ok (.iadd, 1) := by decide +kernel
theorem dX8_choose_102 : decode cX8_choose 102 = .ok (.iload_n 2, 1) := by decide +kernel
theorem dX8_choose_103 : decode cX8_choose 103 = .ok (.iload 5, 2) := by decide +kernel
theorem dX8_choose_105 : decode cX8_choose 105 = .ok (.iadd, 1) := by decide +kernel
theorem dX8_choose_106 : decode cX8_choose 106 = .ok (.iload_n 3, 1) := by decide +kernel
theorem dX8_choose_107 : decode cX8_choose 107 = .ok (.iload 6, 2) := by decide +kernel
theorem dX8_choose_109 : decode cX8_choose 109 = .ok (.iadd, 1) := by decide +kernel
theorem dX8_choose_110 : decode cX8_choose 110 = .ok (.invokevirtual 114, 3) := by decide +kernel
theorem dX8_choose_113 : decode cX8_choose 113 = .ok (.iinc 4 1, 3) := by decide +kernel
theorem dX8_choose_116 : decode cX8_choose 116 = .ok (.goto (-86), 3) := by decide +kernel
theorem dX8_choose_119 : decode cX8_choose 119 = .ok (.return_, 1) := by decide +kernel
theorem dX8_look_0 : decode cX8_look 0 = .ok (.aload_n 0, 1) := by decide +kernel
theorem dX8_look_1 : decode cX8_look 1 = .ok (.getfield 53, 3) := by decide +kernel
theorem dX8_look_4 : decode cX8_look 4 = .ok (.iload_n 1, 1) := by decide +kernel
theorem dX8_look_5 : decode cX8_look 5 = .ok (.iload_n 2, 1) := by decide +kernel
theorem dX8_look_6 : decode cX8_look 6 = .ok (.invokevirtual 136, 3) := by decide +kernel
theorem dX8_look_9 : decode cX8_look 9 = .ok (.istore_n 3, 1) := by decide +kernel
theorem dX8_look_10 : decode cX8_look 10 = .ok (.aload_n 0, 1) := by decide +kernel
theorem dX8_look_11 : decode cX8_look 11 = .ok (.getfield 33, 3) := by decide +kernel
theorem dX8_look_14 : decode cX8_look 14 = .ok (.ifCond .eq 25, 3) := by decide +kernel
theorem dX8_look_17 : decode cX8_look 17 = .ok (.aload_n 0, 1) := by decide +kernel
theorem dX8_look_18 : decode cX8_look 18 = .ok (.getfield 57, 3) := by decide +kernel
theorem dX8_look_21 : decode cX8_look 21 = .ok (.aload_n 0, 1) := by decide +kernel
theorem dX8_look_22 : decode cX8_look 22 = .ok (.getfield 53, 3) := by decide +kernel
theorem dX8_look_25 : decode cX8_look 25 = .ok (.aload_n 0, 1) := by decide +kernel
theorem dX8_look_26 : decode cX8_look 26 = .ok (.getfield 61, 3) := by decide +kernel
theorem dX8_look_29 : decode cX8_look 29 = .ok (.iload_n 1, 1) := by decide +kernel
theorem dX8_look_30 : decode cX8_look 30 = .ok (.iload_n 2, 1) := by decide +kernel
theorem dX8_look_31 : decode cX8_look 31 = .ok (.iload_n 3, 1) := by decide +kernel
theorem dX8_look_32 : decode cX8_look 32 = .ok (.invokevirtual 139, 3) := by decide +kernel
theorem dX8_look_35 : decode cX8_look 35 = .ok (.ifCond .ne 4, 3) := by decide +kernel
theorem dX8_look_38 : decode cX8_look 38 = .ok (.return_, 1) := by decide +kernel
theorem dX8_look_39 : decode cX8_look 39 = .ok (.iload_n 3, 1) := by decide +kernel
theorem dX8_look_40 : decode cX8_look 40 = .ok (.iconst (-1), 1) := by decide +kernel
theorem dX8_look_41 : decode cX8_look 41 = .ok (.if_icmp .ne 8, 3) := by decide +kernel
theorem dX8_look_44 : decode cX8_look 44 = .ok (.bipush 6, 2) := by decide +kernel
theorem dX8_look_46 : decode cX8_look 46 = .ok (.goto 4, 3) := by decide +kernel
theorem dX8_look_49 : decode cX8_look 49 = .ok (.iload_n 3, 1) := by decide +kernel
theorem dX8_look_50 : decode cX8_look 50 = .ok (.istore 4, 2) := by decide +kernel
theorem dX8_look_52 : decode cX8_look 52 = .ok (.aload_n 0, 1) := by decide +kernel
theorem dX8_look_53 : decode cX8_look 53 = .ok (.dup, 1) := by decide +kernel
theorem dX8_look_54 : decode cX8_look 54 = .ok (.getfield 50, 3) := by decide +kernel
theorem dX8_look_57 : decode cX8_look 57 = .ok (.iconst 1, 1) := by decide +kernel
theorem dX8_look_58 : decode cX8_look 58 = .ok (.iadd, 1) := by decide +kernel
theorem dX8_look_59 : decode cX8_look 59 = .ok (.putfield 50, 3) := by decide +kernel
theorem dX8_look_62 : decode cX8_look 62 = .ok (.aload_n 0, 1) := by decide +kernel
theorem dX8_look_63 : decode cX8_look 63 = .ok (.getfield 24, 3) := by decide +kernel
theorem dX8_look_66 : decode cX8_look 66 = .ok (.iload_n 1, 1) := by decide +kernel
theorem dX8_look_67 : decode cX8_look 67 = .ok (.dup2, 1) := by decide +kernel
theorem dX8_look_68 : decode cX8_look 68 = .ok (.iaload, 1) := by decide +kernel
theorem dX8_look_69 : decode cX8_look 69 = .ok (.iconst 1, 1) := by decide +kernel
theorem dX8_look_70 : decode cX8_look 70 = .ok (.iadd, 1) := by decide +kernel
theorem dX8_look_71 : decode cX8_look 71 = .ok (.iastore, 1) := by decide +kernel
theorem dX8_look_72 : decode cX8_look 72 = .ok (.aload_n 0, 1) := by decide +kernel
theorem dX8_look_73 : decode cX8_look 73 = .ok (.getfield 27, 3) := by decide +kernel
theorem dX8_look_76 : decode cX8_look 76 = .ok (.iload_n 2, 1) := by decide +kernel
theorem dX8_look_77 : decode cX8_look 77 = .ok (.dup2, 1) := by decide +kernel
theorem dX8_look_78 : decode cX8_look 78 = .ok (.iaload, 1) := by decide +kernel
theorem dX8_look_79 : decode cX8_look 79 = .ok (.iconst 1, 1) := by decide +kernel
theorem dX8_look_80 : decode cX8_look 80 = .ok (.iadd, 1) := by decide +kernel
theorem dX8_look_81 : decode cX8_look 81 = .ok (.iastore, 1) := by decide +kernel
theorem dX8_look_82 : decode cX8_look 82 = .ok (.aload_n 0, 1) := by decide +kernel
theorem dX8_look_83 : decode cX8_look 83 = .ok (.getfield 30, 3) := by decide +kernel
theorem dX8_look_86 : decode cX8_look 86 = .ok (.iload 4, 2) := by decide +kernel
theorem dX8_look_88 : decode cX8_look 88 = .ok (.dup2, 1) := by decide +kernel
theorem dX8_look_89 : decode cX8_look 89 = .ok (.iaload, 1) := by decide +kernel
theorem dX8_look_90 : decode cX8_look 90 = .ok (.iconst 1, 1) := by decide +kernel
theorem dX8_look_91 : decode cX8_look 91 = .ok (.iadd, 1) := by decide +kernel
theorem dX8_look_92 : decode cX8_look 92 = .ok (.iastore, 1) := by decide +kernel
theorem dX8_look_93 : decode cX8_look 93 = .ok (.aload_n 0, 1) := by decide +kernel
theorem dX8_look_94 : decode cX8_look 94 = .ok (.aload_n 0, 1) := by decide +kernel
theorem dX8_look_95 : decode cX8_look 95 = .ok (.getfield 82, 3) := by decide +kernel
theorem dX8_look_98 : decode cX8_look 98 = .ok (.aload_n 0, 1) := by decide +kernel
theorem dX8_look_99 : decode cX8_look 99 = .ok (.getfield 24, 3) := by decide +kernel
theorem dX8_look_102 : decode cX8_look 102 = .ok (.iload_n 1, 1) := by decide +kernel
theorem dX8_look_103 : decode cX8_look 103 = .ok (.iaload, 1) := by decide +kernel
theorem dX8_look_104 : decode cX8_look 104 = .ok (.invokestatic 143, 3) := by decide +kernel
theorem dX8_look_107 : decode cX8_look 107 = .ok (.putfield 82, 3) := by decide +kernel
theorem dX8_look_110 : decode cX8_look 110 = .ok (.aload_n 0, 1) := by decide +kernel
theorem dX8_look_111 : decode cX8_look 111 = .ok (.aload_n 0, 1) := by decide +kernel
theorem dX8_look_112 : decode cX8_look 112 = .ok (.getfield 85, 3) := by decide +kernel
theorem dX8_look_115 : decode cX8_look 115 = .ok (.aload_n 0, 1) := by decide +kernel
theorem dX8_look_116 : decode cX8_look 116 = .ok (.getfield 27, 3) := by decide +kernel
theorem dX8_look_119 : decode cX8_look 119 = .ok (.iload_n 2, 1) := by decide +kernel
theorem dX8_look_120 : decode cX8_look 120 = .ok (.iaload, 1) := by decide +kernel
theorem dX8_look_121 : decode cX8_look 121 = .ok (.invokestatic 143, 3) := by decide +kernel
theorem dX8_look_124 : decode cX8_look 124 = .ok (.putfield 85, 3) := by decide +kernel
theorem dX8_look_127 : decode cX8_look 127 = .ok (.aload_n 0, 1) := by decide +kernel
theorem dX8_look_128 : decode cX8_look 128 = .ok (.aload_n 0, 1) := by decide +kernel
theorem dX8_look_129 : decode cX8_look 129 = .ok (.getfield 88, 3) := by decide +kernel
theorem dX8_look_132 : decode cX8_look 132 = .ok (.aload_n 0, 1) := by decide +kernel
theorem dX8_look_133 : decode cX8_look 133 = .ok (.getfield 30, 3) := by decide +kernel
theorem dX8_look_136 : decode cX8_look 136 = .ok (.iload 4, 2) := by decide +kernel
theorem dX8_look_138 : decode cX8_look 138 = .ok (.iaload, 1) := by decide +kernel
theorem dX8_look_139 : decode cX8_look 139 = .ok (.invokestatic 143, 3) := by decide +kernel
theorem dX8_look_142 : decode cX8_look 142 = .ok (.putfield 88, 3) := by decide +kernel
theorem dX8_look_145 : decode cX8_look 145 = .ok (.iconst 0, 1) := by decide +kernel
theorem dX8_look_146 : decode cX8_look 146 = .ok (.istore 5, 2) := by decide +kernel
theorem dX8_look_148 : decode cX8_look 148 = .ok (.iload 5, 2) := by decide +kernel
theorem dX8_look_150 : decode cX8_look 150 = .ok (.aload_n 0, 1) := by decide +kernel
theorem dX8_look_151 : decode cX8_look 151 = .ok (.getfield 46, 3) := by decide +kernel
theorem dX8_look_154 : decode cX8_look 154 = .ok (.if_icmp .ge 59, 3) := by decide +kernel
theorem dX8_look_157 : decode cX8_look 157 = .ok (.aload_n 0, 1) := by decide +kernel
theorem dX8_look_158 : decode cX8_look 158 = .ok (.getfield 50, 3) := by decide +kernel
theorem dX8_look_161 : decode cX8_look 161 = .ok (.iconst 1, 1) := by decide +kernel
theorem dX8_look_162 : decode cX8_look 162 = .ok (.if_icmp .ne 20, 3) := by decide +kernel
theorem dX8_look_165 : decode cX8_look 165 = .ok (.aload_n 0, 1) := by decide +kernel
theorem dX8_look_166 : decode cX8_look 166 = .ok (.getfield 21, 3) := by decide +kernel
theorem dX8_look_169 : decode cX8_look 169 = .ok (.iload 5, 2) := by decide +kernel
theorem dX8_look_171 : decode cX8_look 171 = .ok (.aload_n 0, 1) := by decide +kernel
theorem dX8_look_172 : decode cX8_look 172 = .ok (.getfield 18, 3) := by decide +kernel
theorem dX8_look_175 : decode cX8_look 175 = .ok (.iload 5, 2) := by decide +kernel
theorem dX8_look_177 : decode cX8_look 177 = .ok (.iaload, 1) := by decide +kernel
theorem dX8_look_178 : decode cX8_look 178 = .ok (.iastore, 1) := by decide +kernel
theorem dX8_look_179 : decode cX8_look 179 = .ok (.goto 28, 3) := by decide +kernel
theorem dX8_look_182 : decode cX8_look 182 = .ok (.aload_n 0, 1) := by decide +kernel
theorem dX8_look_183 : decode cX8_look 183 = .ok (.getfield 21, 3) := by decide +kernel
theorem dX8_look_186 : decode cX8_look 186 = .ok (.iload 5, 2) := by decide +kernel
theorem dX8_look_188 : decode cX8_look 188 = .ok (.iaload, 1) := by decide +kernel
theorem dX8_look_189 : decode cX8_look 189 = .ok (.aload_n 0, 1) := by decide +kernel
theorem dX8_look_190 : decode cX8_look 190 = .ok (.getfield 18, 3) := by decide +kernel
theorem dX8_look_193 : decode cX8_look 193 = .ok (.iload 5, 2) := by decide +kernel
theorem dX8_look_195 : decode cX8_look 195 = .ok (.iaload, 1) := by decide +kernel
theorem dX8_look_196 : decode cX8_look 196 = .ok (.if_icmp .eq 11, 3) := by decide +kernel
theorem dX8_look_199 : decode cX8_look 199 = .ok (.aload_n 0, 1) := by decide +kernel
theorem dX8_look_200 : decode cX8_look 200 = .ok (.getfield 21, 3) := by decide +kernel
theorem dX8_look_203 : decode cX8_look 203 = .ok (.iload 5, 2) := by decide +kernel
theorem dX8_look_205 : decode cX8_look 205 = .ok (.iconst (-1), 1) := by decide +kernel
theorem dX8_look_206 : decode cX8_look 206 = .ok (.iastore, 1) := by decide +kernel
theorem dX8_look_207 : decode cX8_look 207 = .ok (.iinc 5 1, 3) := by decide +kernel
theorem dX8_look_210 : decode cX8_look 210 = .ok (.goto (-62), 3) := by decide +kernel
theorem dX8_look_213 : decode cX8_look 213 = .ok (.return_, 1) := by decide +kernel
theorem dX9_withCode_0 : decode cX9_withCode 0 = .ok (.iconst 0, 1) := by decide +kernel
theorem dX9_withCode_1 : decode cX9_withCode 1 = .ok (.istore_n 2, 1) := by decide +kernel
theorem dX9_withCode_2 : decode cX9_withCode 2 = .ok (.iload_n 2, 1) := by decide +kernel
theorem dX9_withCode_3 : decode cX9_withCode 3 = .ok (.getstatic 124, 3) := by decide +kernel
theorem dX9_withCode_6 : decode cX9_withCode 6 = .ok (.arraylength, 1) := by decide +kernel
theorem dX9_withCode_7 : decode cX9_withCode 7 = .ok (.if_icmp .ge 28, 3) := by decide +kernel
theorem dX9_withCode_10 : decode cX9_withCode 10 = .ok (.getstatic 124, 3) := by decide +kernel
theorem dX9_withCode_13 : decode cX9_withCode 13 = .ok (.iload_n 2, 1) := by decide +kernel
theorem dX9_withCode_14 : decode cX9_withCode 14 = .ok (.aaload, 1) := by decide +kernel
theorem dX9_withCode_15 : decode cX9_withCode 15 = .ok (.getfield 116, 3) := by decide +kernel
theorem dX9_withCode_18 : decode cX9_withCode 18 = .ok (.lload_n 0, 1) := by decide +kernel
theorem dX9_withCode_19 : decode cX9_withCode 19 = .ok (.lcmp, 1) := by decide +kernel
theorem dX9_withCode_20 : decode cX9_withCode 20 = .ok (.ifCond .ne 9, 3) := by decide +kernel
theorem dX9_withCode_23 : decode cX9_withCode 23 = .ok (.getstatic 124, 3) := by decide +kernel
theorem dX9_withCode_26 : decode cX9_withCode 26 = .ok (.iload_n 2, 1) := by decide +kernel
theorem dX9_withCode_27 : decode cX9_withCode 27 = .ok (.aaload, 1) := by decide +kernel
theorem dX9_withCode_28 : decode cX9_withCode 28 = .ok (.areturn, 1) := by decide +kernel
theorem dX9_withCode_29 : decode cX9_withCode 29 = .ok (.iinc 2 1, 3) := by decide +kernel
theorem dX9_withCode_32 : decode cX9_withCode 32 = .ok (.goto (-30), 3) := by decide +kernel
theorem dX9_withCode_35 : decode cX9_withCode 35 = .ok (.aconst_null, 1) := by decide +kernel
theorem dX9_withCode_36 : decode cX9_withCode 36 = .ok (.areturn, 1) := by decide +kernel
theorem dX10_init_0 : decode cX10_init 0 = .ok (.aload_n 0, 1) := by decide +kernel
theorem dX10_init_1 : decode cX10_init 1 = .ok (.invokespecial 1, 3) := by decide +kernel
theorem dX10_init_4 : decode cX10_init 4 = .ok (.aload_n 0, 1) := by decide +kernel
theorem dX10_init_5 : decode cX10_init 5 = .ok (.new 7, 3) := by decide +kernel
theorem dX10_init_8 : decode cX10_init 8 = .ok (.dup, 1) := by decide +kernel
theorem dX10_init_9 : decode cX10_init 9 = .ok (.invokespecial 9, 3) := by decide +kernel
theorem dX10_init_12 : decode cX10_init 12 = .ok (.putfield 10, 3) := by decide +kernel
theorem dX10_init_15 : decode cX10_init 15 = .ok (.aload_n 0, 1) := by decide +kernel
theorem dX10_init_16 : decode cX10_init 16 = .ok (.new 16, 3) := by decide +kernel
theorem dX10_init_19 : decode cX10_init 19 = .ok (.dup, 1) := by decide +kernel
theorem dX10_init_20 : decode cX10_init 20 = .ok (.invokespecial 18, 3) := by decide +kernel
theorem dX10_init_23 : decode cX10_init 23 = .ok (.putfield 19, 3) := by decide +kernel
theorem dX10_init_26 : decode cX10_init 26 = .ok (.aload_n 0, 1) := by decide +kernel
theorem dX10_init_27 : decode cX10_init 27 = .ok (.iconst 4, 1) := by decide +kernel
theorem dX10_init_28 : decode cX10_init 28 = .ok (.anewarray 16, 3) := by decide +kernel
theorem dX10_init_31 : decode cX10_init 31 = .ok (.putfield 23, 3) := by decide +kernel
theorem dX10_init_34 : decode cX10_init 34 = .ok (.aload_n 0, 1) := by decide +kernel
theorem dX10_init_35 : decode cX10_init 35 = .ok (.bipush 16, 2) := by decide +kernel
theorem dX10_init_37 : decode cX10_init 37 = .ok (.anewarray 27, 3) := by decide +kernel
theorem dX10_init_40 : decode cX10_init 40 = .ok (.putfield 29, 3) := by decide +kernel
theorem dX10_init_43 : decode cX10_init 43 = .ok (.aload_n 0, 1) := by decide +kernel
theorem dX10_init_44 : decode cX10_init 44 = .ok (.new 27, 3) := by decide +kernel
theorem dX10_init_47 : decode cX10_init 47 = .ok (.dup, 1) := by decide +kernel
theorem dX10_init_48 : decode cX10_init 48 = .ok (.invokespecial 33, 3) := by decide +kernel
theorem dX10_init_51 : decode cX10_init 51 = .ok (.putfield 34, 3) := by decide +kernel
theorem dX10_init_54 : decode cX10_init 54 = .ok (.aload_n 0, 1) := by decide +kernel
theorem dX10_init_55 : decode cX10_init 55 = .ok (.new 38, 3) := by decide +kernel
theorem dX10_init_58 : decode cX10_init 58 = .ok (.dup, 1) := by decide +kernel
theorem dX10_init_59 : decode cX10_init 59 = .ok (.invokespecial 40, 3) := by decide +kernel
theorem dX10_init_62 : decode cX10_init 62 = .ok (.putfield 41, 3) := by decide +kernel
theorem dX10_init_65 : decode cX10_init 65 = .ok (.aload_n 0, 1) := by decide +kernel
theorem dX10_init_66 : decode cX10_init 66 = .ok (.new 45, 3) := by decide +kernel
theorem dX10_init_69 : decode cX10_init 69 = .ok (.dup, 1) := by decide +kernel
theorem dX10_init_70 : decode cX10_init 70 = .ok (.invokespecial 47, 3) := by decide +kernel
theorem dX10_init_73 : decode cX10_init 73 = .ok (.putfield 48, 3) := by decide +kernel
theorem dX10_init_76 : decode cX10_init 76 = .ok (.aload_n 0, 1) := by decide +kernel
theorem dX10_init_77 : decode cX10_init 77 = .ok (.new 52, 3) := by decide +kernel
theorem dX10_init_80 : decode cX10_init 80 = .ok (.dup, 1) := by decide +kernel
theorem dX10_init_81 : decode cX10_init 81 = .ok (.invokespecial 54, 3) := by decide +kernel
theorem dX10_init_84 : decode cX10_init 84 = .ok (.putfield 55, 3) := by decide +kernel
theorem dX10_init_87 : decode cX10_init 87 = .ok (.aload_n 0, 1) := by decide +kernel
theorem dX10_init_88 : decode cX10_init 88 = .ok (.iconst 3, 1) := by decide +kernel
theorem dX10_init_89 : decode cX10_init 89 = .ok (.newarray .int, 2) := by decide +kernel
theorem dX10_init_91 : decode cX10_init 91 = .ok (.putfield 59, 3) := by decide +kernel
theorem dX10_init_94 : decode cX10_init 94 = .ok (.aload_n 0, 1) := by decide +kernel
theorem dX10_init_95 : decode cX10_init 95 = .ok (.bipush 9, 2) := by decide +kernel
theorem dX10_init_97 : decode cX10_init 97 = .ok (.newarray .int, 2) := by decide +kernel
theorem dX10_init_99 : decode cX10_init 99 = .ok (.putfield 63, 3) := by decide +kernel
theorem dX10_init_102 : decode cX10_init 102 = .ok (.aload_n 0, 1) := by decide +kernel
theorem dX10_init_103 : decode cX10_init 103 = .ok (.new 66, 3) := by decide +kernel
theorem dX10_init_106 : decode cX10_init 106 = .ok (.dup, 1) := by decide +kernel
theorem dX10_init_107 : decode cX10_init 107 = .ok (.invokespecial 68, 3) := by decide +kernel
theorem dX10_init_110 : decode cX10_init 110 = .ok (.putfield 69, 3) := by decide +kernel
theorem dX10_init_113 : decode cX10_init 113 = .ok (.aload_n 0, 1) := by decide +kernel
theorem dX10_init_114 : decode cX10_init 114 = .ok (.new 66, 3) := by decide +kernel
theorem dX10_init_117 : decode cX10_init 117 = .ok (.dup, 1) := by decide +kernel
theorem dX10_init_118 : decode cX10_init 118 = .ok (.invokespecial 68, 3) := by decide +kernel
theorem dX10_init_121 : decode cX10_init 121 = .ok (.putfield 73, 3) := by decide +kernel
theorem dX10_init_124 : decode cX10_init 124 = .ok (.iconst 0, 1) := by decide +kernel
theorem dX10_init_125 : decode cX10_init 125 = .ok (.istore_n 1, 1) := by decide +kernel
theorem dX10_init_126 : decode cX10_init 126 = .ok (.iload_n 1, 1) := by decide +kernel
theorem dX10_init_127 : decode cX10_init 127 = .ok (.iconst 4, 1) := by decide +kernel
theorem dX10_init_128 : decode cX10_init 128 = .ok (.if_icmp .ge 22, 3) := by decide +kernel
theorem dX10_init_131 : decode cX10_init 131 = .ok (.aload_n 0, 1) := by decide +kernel
theorem dX10_init_132 : decode cX10_init 132 = .ok (.getfield 23, 3) := by decide +kernel
theorem dX10_init_135 : decode cX10_init 135 = .ok (.iload_n 1, 1) := by decide +kernel
theorem dX10_init_136 : decode cX10_init 136 = .ok (.new 16, 3) := by decide +kernel
theorem dX10_init_139 : decode cX10_init 139 = .ok (.dup, 1) := by decide +kernel
theorem dX10_init_140 : decode cX10_init 140 = .ok (.invokespecial 18, 3) := by decide +kernel
theorem dX10_init_143 : decode cX10_init 143 = .ok (.aastore, 1) := by decide +kernel
theorem dX10_init_144 : decode cX10_init 144 = .ok (.iinc 1 1, 3) := by decide +kernel
theorem dX10_init_147 : decode cX10_init 147 = .ok (.goto (-21), 3) := by decide +kernel
theorem dX10_init_150 : decode cX10_init 150 = .ok (.iconst 0, 1) := by decide +kernel
theorem dX10_init_151 : decode cX10_init 151 = .ok (.istore_n 1, 1) := by decide +kernel
theorem dX10_init_152 : decode cX10_init 152 = .ok (.iload_n 1, 1) := by decide +kernel
theorem dX10_init_153 : decode cX10_init 153 = .ok (.bipush 16, 2) := by decide +kernel
theorem dX10_init_155 : decode cX10_init 155 = .ok (.if_icmp .ge 22, 3) := by decide +kernel
theorem dX10_init_158 : decode cX10_init 158 = .ok (.aload_n 0, 1) := by decide +kernel
theorem dX10_init_159 : decode cX10_init 159 = .ok (.getfield 29, 3) := by decide +kernel
theorem dX10_init_162 : decode cX10_init 162 = .ok (.iload_n 1, 1) := by decide +kernel
theorem dX10_init_163 : decode cX10_init 163 = .ok (.new 27, 3) := by decide +kernel
theorem dX10_init_166 : decode cX10_init 166 = .ok (.dup, 1) := by decide +kernel
theorem dX10_init_167 : decode cX10_init 167 = .ok (.invokespecial 33, 3) := by decide +kernel
theorem dX10_init_170 : decode cX10_init 170 = .ok (.aastore, 1) := by decide +kernel
theorem dX10_init_171 : decode cX10_init 171 = .ok (.iinc 1 1, 3) := by decide +kernel
theorem dX10_init_174 : decode cX10_init 174 = .ok (.goto (-22), 3) := by decide +kernel
theorem dX10_init_177 : decode cX10_init 177 = .ok (.return_, 1) := by decide +kernel
theorem dX10_feed_0 : decode cX10_feed 0 = .ok (.aload_n 0, 1) := by decide +kernel
theorem dX10_feed_1 : decode cX10_feed 1 = .ok (.getfield 10, 3) := by decide +kernel
theorem dX10_feed_4 : decode cX10_feed 4 = .ok (.lload_n 1, 1) := by decide +kernel
theorem dX10_feed_5 : decode cX10_feed 5 = .ok (.invokevirtual 76, 3) := by decide +kernel
theorem dX10_feed_8 : decode cX10_feed 8 = .ok (.aload_n 0, 1) := by decide +kernel
theorem dX10_feed_9 : decode cX10_feed 9 = .ok (.getfield 10, 3) := by decide +kernel
theorem dX10_feed_12 : decode cX10_feed 12 = .ok (.lload_n 3, 1) := by decide +kernel
theorem dX10_feed_13 : decode cX10_feed 13 = .ok (.invokevirtual 76, 3) := by decide +kernel
theorem dX10_feed_16 : decode cX10_feed 16 = .ok (.aload_n 0, 1) := by decide +kernel
theorem dX10_feed_17 : decode cX10_feed 17 = .ok (.getfield 10, 3) := by decide +kernel
theorem dX10_feed_20 : decode cX10_feed 20 = .ok (.lload 5, 2) := by decide +kernel
theorem dX10_feed_22 : decode cX10_feed 22 = .ok (.invokevirtual 76, 3) := by decide +kernel
theorem dX10_feed_25 : decode cX10_feed 25 = .ok (.aload_n 0, 1) := by decide +kernel
theorem dX10_feed_26 : decode cX10_feed 26 = .ok (.getfield 10, 3) := by decide +kernel
theorem dX10_feed_29 : decode cX10_feed 29 = .ok (.getfield 80, 3) := by decide +kernel
theorem dX10_feed_32 : decode cX10_feed 32 = .ok (.ireturn, 1) := by decide +kernel
theorem dX10_valley_0 : decode cX10_valley 0 = .ok (.new 84, 3) := by decide +kernel
theorem dX10_valley_3 : decode cX10_valley 3 = .ok (.dup, 1) := by decide +kernel
theorem dX10_valley_4 : decode cX10_valley 4 = .ok (.aload_n 0, 1) := by decide +kernel
theorem dX10_valley_5 : decode cX10_valley 5 = .ok (.getfield 10, 3) := by decide +kernel
theorem dX10_valley_8 : decode cX10_valley 8 = .ok (.aload_n 0, 1) := by decide +kernel
theorem dX10_valley_9 : decode cX10_valley 9 = .ok (.getfield 73, 3) := by decide +kernel
theorem dX10_valley_12 : decode cX10_valley 12 = .ok (.invokespecial 86, 3) := by decide +kernel
theorem dX10_valley_15 : decode cX10_valley 15 = .ok (.astore_n 1, 1) := by decide +kernel
theorem dX10_valley_16 : decode cX10_valley 16 = .ok (.aload_n 1, 1) := by decide +kernel
theorem dX10_valley_17 : decode cX10_valley 17 = .ok (.invokevirtual 89, 3) := by decide +kernel
theorem dX10_valley_20 : decode cX10_valley 20 = .ok (.aload_n 0, 1) := by decide +kernel
theorem dX10_valley_21 : decode cX10_valley 21 = .ok (.getfield 10, 3) := by decide +kernel
theorem dX10_valley_24 : decode cX10_valley 24 = .ok (.invokevirtual 92, 3) := by decide +kernel
theorem dX10_valley_27 : decode cX10_valley 27 = .ok (.istore_n 2, 1) := by decide +kernel
theorem dX10_valley_28 : decode cX10_valley 28 = .ok (.iload_n 2, 1) := by decide +kernel
theorem dX10_valley_29 : decode cX10_valley 29 = .ok (.ifCond .ne 42, 3) := by decide +kernel
theorem dX10_valley_32 : decode cX10_valley 32 = .ok (.aload_n 0, 1) := by decide +kernel
theorem dX10_valley_33 : decode cX10_valley 33 = .ok (.getfield 69, 3) := by decide +kernel
theorem dX10_valley_36 : decode cX10_valley 36 = .ok (.astore_n 3, 1) := by decide +kernel
theorem dX10_valley_37 : decode cX10_valley 37 = .ok (.aload_n 0, 1) := by decide +kernel
theorem dX10_valley_38 : decode cX10_valley 38 = .ok (.aload_n 0, 1) := by decide +kernel
theorem dX10_valley_39 : decode cX10_valley 39 = .ok (.getfield 73, 3) := by decide +kernel
theorem dX10_valley_42 : decode cX10_valley 42 = .ok (.putfield 69, 3) := by decide +kernel
theorem dX10_valley_45 : decode cX10_valley 45 = .ok (.aload_n 0, 1) := by decide +kernel
theorem dX10_valley_46 : decode cX10_valley 46 = .ok (.aload_n 3, 1) := by decide +kernel
theorem dX10_valley_47 : decode cX10_valley 47 = .ok (.putfield 73, 3) := by decide +kernel
theorem dX10_valley_50 : decode cX10_valley 50 = .ok (.aload_n 0, 1) := by decide +kernel
theorem dX10_valley_51 : decode cX10_valley 51 = .ok (.getfield 19, 3) := by decide +kernel
theorem dX10_valley_54 : decode cX10_valley 54 = .ok (.aload_n 0, 1) := by decide +kernel
theorem dX10_valley_55 : decode cX10_valley 55 = .ok (.getfield 69, 3) := by decide +kernel
theorem dX10_valley_58 : decode cX10_valley 58 = .ok (.invokevirtual 96, 3) := by decide +kernel
theorem dX10_valley_61 : decode cX10_valley 61 = .ok (.aload_n 0, 1) := by decide +kernel
theorem dX10_valley_62 : decode cX10_valley 62 = .ok (.iconst 0, 1) := by decide +kernel
theorem dX10_valley_63 : decode cX10_valley 63 = .ok (.putfield 100, 3) := by decide +kernel
theorem dX10_valley_66 : decode cX10_valley 66 = .ok (.aload_n 0, 1) := by decide +kernel
theorem dX10_valley_67 : decode cX10_valley 67 = .ok (.iconst 0, 1) := by decide +kernel
theorem dX10_valley_68 : decode cX10_valley 68 = .ok (.putfield 103, 3) := by decide +kernel
theorem dX10_valley_71 : decode cX10_valley 71 = .ok (.iload_n 2, 1) := by decide +kernel
theorem dX10_valley_72 : decode cX10_valley 72 = .ok (.ireturn, 1) := by decide +kernel
theorem dX10_day_0 : decode cX10_day 0 = .ok (.aload_n 0, 1) := by decide +kernel
theorem dX10_day_1 : decode cX10_day 1 = .ok (.getfield 41, 3) := by decide +kernel
theorem dX10_day_4 : decode cX10_day 4 = .ok (.aload_n 0, 1) := by decide +kernel
theorem dX10_day_5 : decode cX10_day 5 = .ok (.getfield 10, 3) := by decide +kernel
theorem dX10_day_8 : decode cX10_day 8 = .ok (.aload_n 0, 1) := by decide +kernel
theorem dX10_day_9 : decode cX10_day 9 = .ok (.getfield 69, 3) := by decide +kernel
theorem dX10_day_12 : decode cX10_day 12 = .ok (.invokevirtual 106, 3) := by decide +kernel
theorem dX10_day_15 : decode cX10_day 15 = .ok (.aload_n 0, 1) := by decide +kernel
theorem dX10_day_16 : decode cX10_day 16 = .ok (.getfield 10, 3) := by decide +kernel
theorem dX10_day_19 : decode cX10_day 19 = .ok (.invokevirtual 92, 3) := by decide +kernel
theorem dX10_day_22 : decode cX10_day 22 = .ok (.istore_n 1, 1) := by decide +kernel
theorem dX10_day_23 : decode cX10_day 23 = .ok (.iload_n 1, 1) := by decide +kernel
theorem dX10_day_24 : decode cX10_day 24 = .ok (.ifCond .ne 17, 3) := by decide +kernel
theorem dX10_day_27 : decode cX10_day 27 = .ok (.aload_n 0, 1) := by decide +kernel
theorem dX10_day_28 : decode cX10_day 28 = .ok (.getfield 19, 3) := by decide +kernel
theorem dX10_day_31 : decode cX10_day 31 = .ok (.getfield 109, 3) := by decide +kernel
theorem dX10_day_34 : decode cX10_day 34 = .ok (.aload_n 0, 1) := by decide +kernel
theorem dX10_day_35 : decode cX10_day 35 = .ok (.getfield 41, 3) := by decide +kernel
theorem dX10_day_38 : decode cX10_day 38 = .ok (.invokevirtual 112, 3) := by decide +kernel
theorem dX10_day_41 : decode cX10_day 41 = .ok (.iload_n 1, 1) := by decide +kernel
theorem dX10_day_42 : decode cX10_day 42 = .ok (.ireturn, 1) := by decide +kernel
theorem dX10_house_0 : decode cX10_house 0 = .ok (.aload_n 0, 1) := by decide +kernel
theorem dX10_house_1 : decode cX10_house 1 = .ok (.getfield 69, 3) := by decide +kernel
theorem dX10_house_4 : decode cX10_house 4 = .ok (.iconst 2, 1) := by decide +kernel
theorem dX10_house_5 : decode cX10_house 5 = .ok (.iload_n 1, 1) := by decide +kernel
theorem dX10_house_6 : decode cX10_house 6 = .ok (.invokevirtual 116, 3) := by decide +kernel
theorem dX10_house_9 : decode cX10_house 9 = .ok (.ifCond .eq 7, 3) := by decide +kernel
theorem dX10_house_12 : decode cX10_house 12 = .ok (.iload_n 2, 1) := by decide +kernel
theorem dX10_house_13 : decode cX10_house 13 = .ok (.ifCond .ge 6, 3) := by decide +kernel
theorem dX10_house_16 : decode cX10_house 16 = .ok (.bipush (-2), 2) := by decide +kernel
theorem dX10_house_18 : decode cX10_house 18 = .ok (.ireturn, 1) := by decide +kernel
theorem dX10_house_19 : decode cX10_house 19 = .ok (.aload_n 0, 1) := by decide +kernel
theorem dX10_house_20 : decode cX10_house 20 = .ok (.getfield 19, 3) := by decide +kernel
theorem dX10_house_23 : decode cX10_house 23 = .ok (.getfield 120, 3) := by decide +kernel
theorem dX10_house_26 : decode cX10_house 26 = .ok (.astore_n 3, 1) := by decide +kernel
theorem dX10_house_27 : decode cX10_house 27 = .ok (.iload_n 2, 1) := by decide +kernel
theorem dX10_house_28 : decode cX10_house 28 = .ok (.tableswitch 52 0 2 #[28, 38, 45], 28) := by decide +kernel
theorem dX10_house_56 : decode cX10_house 56 = .ok (.aload_n 0, 1) := by decide +kernel
theorem dX10_house_57 : decode cX10_house 57 = .ok (.getfield 69, 3) := by decide +kernel
theorem dX10_house_60 : decode cX10_house 60 = .ok (.getfield 123, 3) := by decide +kernel
theorem dX10_house_63 : decode cX10_house 63 = .ok (.iload_n 1, 1) := by decide +kernel
theorem dX10_house_64 : decode cX10_house 64 = .ok (.iaload, 1) := by decide +kernel
theorem dX10_house_65 : decode cX10_house 65 = .ok (.ireturn, 1) := by decide +kernel
theorem dX10_house_66 : decode cX10_house 66 = .ok (.aload_n 3, 1) := by decide +kernel
theorem dX10_house_67 : decode cX10_house 67 = .ok (.getfield 126, 3) := by decide +kernel
theorem dX10_house_70 : decode cX10_house 70 = .ok (.iload_n 1, 1) := by decide +kernel
theorem dX10_house_71 : decode cX10_house 71 = .ok (.iaload, 1) := by decide +kernel
theorem dX10_house_72 : decode cX10_house 72 = .ok (.ireturn, 1) := by decide +kernel
theorem dX10_house_73 : decode cX10_house 73 = .ok (.aload_n 3, 1) := by decide +kernel
theorem dX10_house_74 : decode cX10_house 74 = .ok (.getfield 129, 3) := by decide +kernel
theorem dX10_house_77 : decode cX10_house 77 = .ok (.iload_n 1, 1) := by decide +kernel
theorem dX10_house_78 : decode cX10_house 78 = .ok (.iaload, 1) := by decide +kernel
theorem dX10_house_79 : decode cX10_house 79 = .ok (.ireturn, 1) := by decide +kernel
theorem dX10_house_80 : decode cX10_house 80 = .ok (.aload_n 0, 1) := by decide +kernel
theorem dX10_house_81 : decode cX10_house 81 = .ok (.getfield 69, 3) := by decide +kernel
theorem dX10_house_84 : decode cX10_house 84 = .ok (.iconst 0, 1) := by decide +kernel
theorem dX10_house_85 : decode cX10_house 85 = .ok (.iload_n 2, 1) := by decide +kernel
theorem dX10_house_86 : decode cX10_house 86 = .ok (.iconst 3, 1) := by decide +kernel
theorem dX10_house_87 : decode cX10_house 87 = .ok (.isub, 1) := by decide +kernel
theorem dX10_house_88 : decode cX10_house 88 = .ok (.invokevirtual 116, 3) := by decide +kernel
theorem dX10_house_91 : decode cX10_house 91 = .ok (.ifCond .eq 14, 3) := by decide +kernel
theorem dX10_house_94 : decode cX10_house 94 = .ok (.aload_n 3, 1) := by decide +kernel
theorem dX10_house_95 : decode cX10_house 95 = .ok (.iload_n 1, 1) := by decide +kernel
theorem dX10_house_96 : decode cX10_house 96 = .ok (.iload_n 2, 1) := by decide +kernel
theorem dX10_house_97 : decode cX10_house 97 = .ok (.iconst 3, 1) := by decide +kernel
theorem dX10_house_98 : decode cX10_house 98 = .ok (.isub, 1) := by decide +kernel
theorem dX10_house_99 : decode cX10_house 99 = .ok (.invokevirtual 132, 3) := by decide +kernel
theorem dX10_house_102 : decode cX10_house 102 = .ok (.goto 5, 3) := by decide +kernel
theorem dX10_house_105 : decode cX10_house 105 = .ok (.bipush (-2), 2) := by decide +kernel
theorem dX10_house_107 : decode cX10_house 107 = .ok (.ireturn, 1) := by decide +kernel
theorem dX10_flue_0 : decode cX10_flue 0 = .ok (.aload_n 0, 1) := by decide +kernel
theorem dX10_flue_1 : decode cX10_flue 1 = .ok (.getfield 69, 3) := by decide +kernel
theorem dX10_flue_4 : decode cX10_flue 4 = .ok (.iconst 1, 1) := by decide +kernel
theorem dX10_flue_5 : decode cX10_flue 5 = .ok (.iload_n 1, 1) := by decide +kernel
theorem dX10_flue_6 : decode cX10_flue 6 = .ok (.invokevirtual 116, 3) := by decide +kernel
theorem dX10_flue_9 : decode cX10_flue 9 = .ok (.ifCond .ne 6, 3) := by decide +kernel
theorem dX10_flue_12 : decode cX10_flue 12 = .ok (.bipush (-2), 2) := by decide +kernel
theorem dX10_flue_14 : decode cX10_flue 14 = .ok (.ireturn, 1) := by decide +kernel
theorem dX10_flue_15 : decode cX10_flue 15 = .ok (.aload_n 0, 1) := by decide +kernel
theorem dX10_flue_16 : decode cX10_flue 16 = .ok (.getfield 69, 3) := by decide +kernel
theorem dX10_flue_19 : decode cX10_flue 19 = .ok (.iload_n 1, 1) := by decide +kernel
theorem dX10_flue_20 : decode cX10_flue 20 = .ok (.invokevirtual 136, 3) := by decide +kernel
theorem dX10_flue_23 : decode cX10_flue 23 = .ok (.istore_n 3, 1) := by decide +kernel
theorem dX10_flue_24 : decode cX10_flue 24 = .ok (.iload_n 2, 1) := by decide +kernel
theorem dX10_flue_25 : decode cX10_flue 25 = .ok (.tableswitch 100 0 4 #[35, 52, 69, 85, 98], 35) := by decide +kernel
theorem dX10_flue_60 : decode cX10_flue 60 = .ok (.aload_n 0, 1) := by decide +kernel
theorem dX10_flue_61 : decode cX10_flue 61 = .ok (.getfield 19, 3) := by decide +kernel
theorem dX10_flue_64 : decode cX10_flue 64 = .ok (.getfield 120, 3) := by decide +kernel
theorem dX10_flue_67 : decode cX10_flue 67 = .ok (.aload_n 0, 1) := by decide +kernel
theorem dX10_flue_68 : decode cX10_flue 68 = .ok (.getfield 69, 3) := by decide +kernel
theorem dX10_flue_71 : decode cX10_flue 71 = .ok (.iload_n 3, 1) := by decide +kernel
theorem dX10_flue_72 : decode cX10_flue 72 = .ok (.iconst 0, 1) := by decide +kernel
theorem dX10_flue_73 : decode cX10_flue 73 = .ok (.invokevirtual 140, 3) := by decide +kernel
theorem dX10_flue_76 : decode cX10_flue 76 = .ok (.ireturn, 1) := by decide +kernel
theorem dX10_flue_77 : decode cX10_flue 77 = .ok (.aload_n 0, 1) := by decide +kernel
theorem dX10_flue_78 : decode cX10_flue 78 = .ok (.getfield 19, 3) := by decide +kernel
theorem dX10_flue_81 : decode cX10_flue 81 = .ok (.getfield 120, 3) := by decide +kernel
theorem dX10_flue_84 : decode cX10_flue 84 = .ok (.aload_n 0, 1) := by decide +kernel
theorem dX10_flue_85 : decode cX10_flue 85 = .ok (.getfield 69, 3) := by decide +kernel
theorem dX10_flue_88 : decode cX10_flue 88 = .ok (.iload_n 3, 1) := by decide +kernel
theorem dX10_flue_89 : decode cX10_flue 89 = .ok (.iconst 1, 1) := by decide +kernel
theorem dX10_flue_90 : decode cX10_flue 90 = .ok (.invokevirtual 140, 3) := by decide +kernel
theorem dX10_flue_93 : decode cX10_flue 93 = .ok (.ireturn, 1) := by decide +kernel
theorem dX10_flue_94 : decode cX10_flue 94 = .ok (.aload_n 0, 1) := by decide +kernel
theorem dX10_flue_95 : decode cX10_flue 95 = .ok (.getfield 19, 3) := by decide +kernel
theorem dX10_flue_98 : decode cX10_flue 98 = .ok (.getfield 120, 3) := by decide +kernel
theorem dX10_flue_101 : decode cX10_flue 101 = .ok (.aload_n 0, 1) := by decide +kernel
theorem dX10_flue_102 : decode cX10_flue 102 = .ok (.getfield 69, 3) := by decide +kernel
theorem dX10_flue_105 : decode cX10_flue 105 = .ok (.iload_n 1, 1) := by decide +kernel
theorem dX10_flue_106 : decode cX10_flue 106 = .ok (.invokevirtual 144, 3) := by decide +kernel
theorem dX10_flue_109 : decode cX10_flue 109 = .ok (.ireturn, 1) := by decide +kernel
theorem dX10_flue_110 : decode cX10_flue 110 = .ok (.aload_n 0, 1) := by decide +kernel
theorem dX10_flue_111 : decode cX10_flue 111 = .ok (.getfield 19, 3) := by decide +kernel
theorem dX10_flue_114 : decode cX10_flue 114 = .ok (.getfield 120, 3) := by decide +kernel
theorem dX10_flue_117 : decode cX10_flue 117 = .ok (.getfield 148, 3) := by decide +kernel
theorem dX10_flue_120 : decode cX10_flue 120 = .ok (.iload_n 1, 1) := by decide +kernel
theorem dX10_flue_121 : decode cX10_flue 121 = .ok (.iaload, 1) := by decide +kernel
theorem dX10_flue_122 : decode cX10_flue 122 = .ok (.ireturn, 1) := by decide +kernel
theorem dX10_flue_123 : decode cX10_flue 123 = .ok (.iload_n 3, 1) := by decide +kernel
theorem dX10_flue_124 : decode cX10_flue 124 = .ok (.ireturn, 1) := by decide +kernel
theorem dX10_flue_125 : decode cX10_flue 125 = .ok (.bipush (-2), 2) := by decide +kernel
theorem dX10_flue_127 : decode cX10_flue 127 = .ok (.ireturn, 1) := by decide +kernel
theorem dX10_burn_0 : decode cX10_burn 0 = .ok (.aload_n 0, 1) := by decide +kernel
theorem dX10_burn_1 : decode cX10_burn 1 = .ok (.iload_n 1, 1) := by decide +kernel
theorem dX10_burn_2 : decode cX10_burn 2 = .ok (.iload_n 2, 1) := by decide +kernel
theorem dX10_burn_3 : decode cX10_burn 3 = .ok (.invokevirtual 151, 3) := by decide +kernel
theorem dX10_burn_6 : decode cX10_burn 6 = .ok (.ifCond .ne 5, 3) := by decide +kernel
theorem dX10_burn_9 : decode cX10_burn 9 = .ok (.iconst 0, 1) := by decide +kernel
theorem dX10_burn_10 : decode cX10_burn 10 = .ok (.ireturn, 1) := by decide +kernel
theorem dX10_burn_11 : decode cX10_burn 11 = .ok (.aload_n 0, 1) := by decide +kernel
theorem dX10_burn_12 : decode cX10_burn 12 = .ok (.invokevirtual 154, 3) := by decide +kernel
theorem dX10_burn_15 : decode cX10_burn 15 = .ok (.aload_n 0, 1) := by decide +kernel
theorem dX10_burn_16 : decode cX10_burn 16 = .ok (.getfield 19, 3) := by decide +kernel
theorem dX10_burn_19 : decode cX10_burn 19 = .ok (.getfield 120, 3) := by decide +kernel
theorem dX10_burn_22 : decode cX10_burn 22 = .ok (.aload_n 0, 1) := by decide +kernel
theorem dX10_burn_23 : decode cX10_burn 23 = .ok (.getfield 69, 3) := by decide +kernel
theorem dX10_burn_26 : decode cX10_burn 26 = .ok (.iload_n 1, 1) := by decide +kernel
theorem dX10_burn_27 : decode cX10_burn 27 = .ok (.iload_n 2, 1) := by decide +kernel
theorem dX10_burn_28 : decode cX10_burn 28 = .ok (.invokevirtual 157, 3) := by decide +kernel
theorem dX10_burn_31 : decode cX10_burn 31 = .ok (.ireturn, 1) := by decide +kernel
theorem dX10_lend_0 : decode cX10_lend 0 = .ok (.aload_n 0, 1) := by decide +kernel
theorem dX10_lend_1 : decode cX10_lend 1 = .ok (.getfield 69, 3) := by decide +kernel
theorem dX10_lend_4 : decode cX10_lend 4 = .ok (.iconst 2, 1) := by decide +kernel
theorem dX10_lend_5 : decode cX10_lend 5 = .ok (.iload_n 1, 1) := by decide +kernel
theorem dX10_lend_6 : decode cX10_lend 6 = .ok (.invokevirtual 116, 3) := by decide +kernel
theorem dX10_lend_9 : decode cX10_lend 9 = .ok (.ifCond .eq 27, 3) := by decide +kernel
theorem dX10_lend_12 : decode cX10_lend 12 = .ok (.aload_n 0, 1) := by decide +kernel
theorem dX10_lend_13 : decode cX10_lend 13 = .ok (.getfield 69, 3) := by decide +kernel
theorem dX10_lend_16 : decode cX10_lend 16 = .ok (.iconst 2, 1) := by decide +kernel
theorem dX10_lend_17 : decode cX10_lend 17 = .ok (.iload_n 2, 1) := by decide +kernel
theorem dX10_lend_18 : decode cX10_lend 18 = .ok (.invokevirtual 116, 3) := by decide +kernel
theorem dX10_lend_21 : decode cX10_lend 21 = .ok (.ifCond .eq 15, 3) := by decide +kernel
theorem dX10_lend_24 : decode cX10_lend 24 = .ok (.aload_n 0, 1) := by decide +kernel
theorem dX10_lend_25 : decode cX10_lend 25 = .ok (.getfield 69, 3) := by decide +kernel
theorem dX10_lend_28 : decode cX10_lend 28 = .ok (.iconst 0, 1) := by decide +kernel
theorem dX10_lend_29 : decode cX10_lend 29 = .ok (.iload_n 3, 1) := by decide +kernel
theorem dX10_lend_30 : decode cX10_lend 30 = .ok (.invokevirtual 116, 3) := by decide +kernel
theorem dX10_lend_33 : decode cX10_lend 33 = .ok (.ifCond .ne 5, 3) := by decide +kernel
theorem dX10_lend_36 : decode cX10_lend 36 = .ok (.iconst (-1), 1) := by decide +kernel
theorem dX10_lend_37 : decode cX10_lend 37 = .ok (.ireturn, 1) := by decide +kernel
theorem dX10_lend_38 : decode cX10_lend 38 = .ok (.aload_n 0, 1) := by decide +kernel
theorem dX10_lend_39 : decode cX10_lend 39 = .ok (.getfield 19, 3) := by decide +kernel
theorem dX10_lend_42 : decode cX10_lend 42 = .ok (.getfield 120, 3) := by decide +kernel
theorem dX10_lend_45 : decode cX10_lend 45 = .ok (.iload_n 1, 1) := by decide +kernel
theorem dX10_lend_46 : decode cX10_lend 46 = .ok (.iload_n 2, 1) := by decide +kernel
theorem dX10_lend_47 : decode cX10_lend 47 = .ok (.iload_n 3, 1) := by decide +kernel
theorem dX10_lend_48 : decode cX10_lend 48 = .ok (.iload 4, 2) := by decide +kernel
theorem dX10_lend_50 : decode cX10_lend 50 = .ok (.invokevirtual 161, 3) := by decide +kernel
theorem dX10_lend_53 : decode cX10_lend 53 = .ok (.ifCond .ne 5, 3) := by decide +kernel
theorem dX10_lend_56 : decode cX10_lend 56 = .ok (.iconst (-1), 1) := by decide +kernel
theorem dX10_lend_57 : decode cX10_lend 57 = .ok (.ireturn, 1) := by decide +kernel
theorem dX10_lend_58 : decode cX10_lend 58 = .ok (.aload_n 0, 1) := by decide +kernel
theorem dX10_lend_59 : decode cX10_lend 59 = .ok (.invokevirtual 154, 3) := by decide +kernel
theorem dX10_lend_62 : decode cX10_lend 62 = .ok (.aload_n 0, 1) := by decide +kernel
theorem dX10_lend_63 : decode cX10_lend 63 = .ok (.getfield 19, 3) := by decide +kernel
theorem dX10_lend_66 : decode cX10_lend 66 = .ok (.getfield 120, 3) := by decide +kernel
theorem dX10_lend_69 : decode cX10_lend 69 = .ok (.iload_n 1, 1) := by decide +kernel
theorem dX10_lend_70 : decode cX10_lend 70 = .ok (.iload_n 2, 1) := by decide +kernel
theorem dX10_lend_71 : decode cX10_lend 71 = .ok (.iload_n 3, 1) := by decide +kernel
theorem dX10_lend_72 : decode cX10_lend 72 = .ok (.iload 4, 2) := by decide +kernel
theorem dX10_lend_74 : decode cX10_lend 74 = .ok (.invokevirtual 165, 3) := by decide +kernel
theorem dX10_lend_77 : decode cX10_lend 77 = .ok (.pop, 1) := by decide +kernel
theorem dX10_lend_78 : decode cX10_lend 78 = .ok (.aload_n 0, 1) := by decide +kernel
theorem dX10_lend_79 : decode cX10_lend 79 = .ok (.getfield 19, 3) := by decide +kernel
theorem dX10_lend_82 : decode cX10_lend 82 = .ok (.getfield 120, 3) := by decide +kernel
theorem dX10_lend_85 : decode cX10_lend 85 = .ok (.iload_n 2, 1) := by decide +kernel
theorem dX10_lend_86 : decode cX10_lend 86 = .ok (.iload_n 3, 1) := by decide +kernel
theorem dX10_lend_87 : decode cX10_lend 87 = .ok (.invokevirtual 132, 3) := by decide +kernel
theorem dX10_lend_90 : decode cX10_lend 90 = .ok (.ireturn, 1) := by decide +kernel
theorem dX10_hour_0 : decode cX10_hour 0 = .ok (.aload_n 0, 1) := by decide +kernel
theorem dX10_hour_1 : decode cX10_hour 1 = .ok (.invokevirtual 154, 3) := by decide +kernel
theorem dX10_hour_4 : decode cX10_hour 4 = .ok (.aload_n 0, 1) := by decide +kernel
theorem dX10_hour_5 : decode cX10_hour 5 = .ok (.getfield 19, 3) := by decide +kernel
theorem dX10_hour_8 : decode cX10_hour 8 = .ok (.iconst 0, 1) := by decide +kernel
theorem dX10_hour_9 : decode cX10_hour 9 = .ok (.putfield 168, 3) := by decide +kernel
theorem dX10_hour_12 : decode cX10_hour 12 = .ok (.aload_n 0, 1) := by decide +kernel
theorem dX10_hour_13 : decode cX10_hour 13 = .ok (.getfield 19, 3) := by decide +kernel
theorem dX10_hour_16 : decode cX10_hour 16 = .ok (.getfield 120, 3) := by decide +kernel
theorem dX10_hour_19 : decode cX10_hour 19 = .ok (.aload_n 0, 1) := by decide +kernel
theorem dX10_hour_20 : decode cX10_hour 20 = .ok (.getfield 69, 3) := by decide +kernel
theorem dX10_hour_23 : decode cX10_hour 23 = .ok (.invokevirtual 171, 3) := by decide +kernel
theorem dX10_hour_26 : decode cX10_hour 26 = .ok (.ireturn, 1) := by decide +kernel
theorem dX10_undo_0 : decode cX10_undo 0 = .ok (.aload_n 0, 1) := by decide +kernel
theorem dX10_undo_1 : decode cX10_undo 1 = .ok (.getfield 100, 3) := by decide +kernel
theorem dX10_undo_4 : decode cX10_undo 4 = .ok (.iconst 1, 1) := by decide +kernel
theorem dX10_undo_5 : decode cX10_undo 5 = .ok (.if_icmp .ge 5, 3) := by decide +kernel
theorem dX10_undo_8 : decode cX10_undo 8 = .ok (.iconst 0, 1) := by decide +kernel
theorem dX10_undo_9 : decode cX10_undo 9 = .ok (.ireturn, 1) := by decide +kernel
theorem dX10_undo_10 : decode cX10_undo 10 = .ok (.aload_n 0, 1) := by decide +kernel
theorem dX10_undo_11 : decode cX10_undo 11 = .ok (.dup, 1) := by decide +kernel
theorem dX10_undo_12 : decode cX10_undo 12 = .ok (.getfield 100, 3) := by decide +kernel
theorem dX10_undo_15 : decode cX10_undo 15 = .ok (.iconst 1, 1) := by decide +kernel
theorem dX10_undo_16 : decode cX10_undo 16 = .ok (.isub, 1) := by decide +kernel
theorem dX10_undo_17 : decode cX10_undo 17 = .ok (.putfield 100, 3) := by decide +kernel
theorem dX10_undo_20 : decode cX10_undo 20 = .ok (.aload_n 0, 1) := by decide +kernel
theorem dX10_undo_21 : decode cX10_undo 21 = .ok (.aload_n 0, 1) := by decide +kernel
theorem dX10_undo_22 : decode cX10_undo 22 = .ok (.getfield 175, 3) := by decide +kernel
theorem dX10_undo_25 : decode cX10_undo 25 = .ok (.bipush 16, 2) := by decide +kernel
theorem dX10_undo_27 : decode cX10_undo 27 = .ok (.iadd, 1) := by decide +kernel
theorem dX10_undo_28 : decode cX10_undo 28 = .ok (.iconst 1, 1) := by decide +kernel
theorem dX10_undo_29 : decode cX10_undo 29 = .ok (.isub, 1) := by decide +kernel
theorem dX10_undo_30 : decode cX10_undo 30 = .ok (.bipush 16, 2) := by decide +kernel
theorem dX10_undo_32 : decode cX10_undo 32 = .ok (.irem, 1) := by decide +kernel
theorem dX10_undo_33 : decode cX10_undo 33 = .ok (.putfield 175, 3) := by decide +kernel
theorem dX10_undo_36 : decode cX10_undo 36 = .ok (.aload_n 0, 1) := by decide +kernel
theorem dX10_undo_37 : decode cX10_undo 37 = .ok (.getfield 19, 3) := by decide +kernel
theorem dX10_undo_40 : decode cX10_undo 40 = .ok (.getfield 120, 3) := by decide +kernel
theorem dX10_undo_43 : decode cX10_undo 43 = .ok (.aload_n 0, 1) := by decide +kernel
theorem dX10_undo_44 : decode cX10_undo 44 = .ok (.getfield 29, 3) := by decide +kernel
theorem dX10_undo_47 : decode cX10_undo 47 = .ok (.aload_n 0, 1) := by decide +kernel
theorem dX10_undo_48 : decode cX10_undo 48 = .ok (.getfield 175, 3) := by decide +kernel
theorem dX10_undo_51 : decode cX10_undo 51 = .ok (.aaload, 1) := by decide +kernel
theorem dX10_undo_52 : decode cX10_undo 52 = .ok (.invokevirtual 178, 3) := by decide +kernel
theorem dX10_undo_55 : decode cX10_undo 55 = .ok (.aload_n 0, 1) := by decide +kernel
theorem dX10_undo_56 : decode cX10_undo 56 = .ok (.getfield 19, 3) := by decide +kernel
theorem dX10_undo_59 : decode cX10_undo 59 = .ok (.iconst 0, 1) := by decide +kernel
theorem dX10_undo_60 : decode cX10_undo 60 = .ok (.putfield 168, 3) := by decide +kernel
theorem dX10_undo_63 : decode cX10_undo 63 = .ok (.iconst 1, 1) := by decide +kernel
theorem dX10_undo_64 : decode cX10_undo 64 = .ok (.ireturn, 1) := by decide +kernel
theorem dX10_judged_0 : decode cX10_judged 0 = .ok (.iload_n 1, 1) := by decide +kernel
theorem dX10_judged_1 : decode cX10_judged 1 = .ok (.ifCond .lt 8, 3) := by decide +kernel
theorem dX10_judged_4 : decode cX10_judged 4 = .ok (.iload_n 1, 1) := by decide +kernel
theorem dX10_judged_5 : decode cX10_judged 5 = .ok (.iconst 2, 1) := by decide +kernel
theorem dX10_judged_6 : decode cX10_judged 6 = .ok (.if_icmp .le 6, 3) := by decide +kernel
theorem dX10_judged_9 : decode cX10_judged 9 = .ok (.bipush (-2), 2) := by decide +kernel
theorem dX10_judged_11 : decode cX10_judged 11 = .ok (.ireturn, 1) := by decide +kernel
theorem dX10_judged_12 : decode cX10_judged 12 = .ok (.aload_n 0, 1) := by decide +kernel
theorem dX10_judged_13 : decode cX10_judged 13 = .ok (.getfield 34, 3) := by decide +kernel
theorem dX10_judged_16 : decode cX10_judged 16 = .ok (.aload_n 0, 1) := by decide +kernel
theorem dX10_judged_17 : decode cX10_judged 17 = .ok (.getfield 69, 3) := by decide +kernel
theorem dX10_judged_20 : decode cX10_judged 20 = .ok (.invokevirtual 181, 3) := by decide +kernel
theorem dX10_judged_23 : decode cX10_judged 23 = .ok (.iconst (-1), 1) := by decide +kernel
theorem dX10_judged_24 : decode cX10_judged 24 = .ok (.istore_n 2, 1) := by decide +kernel
theorem dX10_judged_25 : decode cX10_judged 25 = .ok (.iconst 0, 1) := by decide +kernel
theorem dX10_judged_26 : decode cX10_judged 26 = .ok (.istore_n 3, 1) := by decide +kernel
theorem dX10_judged_27 : decode cX10_judged 27 = .ok (.iconst 0, 1) := by decide +kernel
theorem dX10_judged_28 : decode cX10_judged 28 = .ok (.istore 4, 2) := by decide +kernel
theorem dX10_judged_30 : decode cX10_judged 30 = .ok (.iload 4, 2) := by decide +kernel
theorem dX10_judged_32 : decode cX10_judged 32 = .ok (.aload_n 0, 1) := by decide +kernel
theorem dX10_judged_33 : decode cX10_judged 33 = .ok (.getfield 19, 3) := by decide +kernel
theorem dX10_judged_36 : decode cX10_judged 36 = .ok (.getfield 109, 3) := by decide +kernel
theorem dX10_judged_39 : decode cX10_judged 39 = .ok (.getfield 182, 3) := by decide +kernel
theorem dX10_judged_42 : decode cX10_judged 42 = .ok (.if_icmp .ge 69, 3) := by decide +kernel
theorem dX10_judged_45 : decode cX10_judged 45 = .ok (.aload_n 0, 1) := by decide +kernel
theorem dX10_judged_46 : decode cX10_judged 46 = .ok (.getfield 19, 3) := by decide +kernel
theorem dX10_judged_49 : decode cX10_judged 49 = .ok (.getfield 109, 3) := by decide +kernel
theorem dX10_judged_52 : decode cX10_judged 52 = .ok (.iload 4, 2) := by decide +kernel
theorem dX10_judged_54 : decode cX10_judged 54 = .ok (.invokevirtual 185, 3) := by decide +kernel
theorem dX10_judged_57 : decode cX10_judged 57 = .ok (.ifCond .eq 17, 3) := by decide +kernel
theorem dX10_judged_60 : decode cX10_judged 60 = .ok (.iload_n 3, 1) := by decide +kernel
theorem dX10_judged_61 : decode cX10_judged 61 = .ok (.aload_n 0, 1) := by decide +kernel
theorem dX10_judged_62 : decode cX10_judged 62 = .ok (.getfield 34, 3) := by decide +kernel
theorem dX10_judged_65 : decode cX10_judged 65 = .ok (.aload_n 0, 1) := by decide +kernel
theorem dX10_judged_66 : decode cX10_judged 66 = .ok (.getfield 69, 3) := by decide +kernel
theorem dX10_judged_69 : decode cX10_judged 69 = .ok (.invokevirtual 189, 3) := by decide +kernel
theorem dX10_judged_72 : decode cX10_judged 72 = .ok (.iadd, 1) := by decide +kernel
theorem dX10_judged_73 : decode cX10_judged 73 = .ok (.istore_n 3, 1) := by decide +kernel
theorem dX10_judged_74 : decode cX10_judged 74 = .ok (.aload_n 0, 1) := by decide +kernel
theorem dX10_judged_75 : decode cX10_judged 75 = .ok (.getfield 19, 3) := by decide +kernel
theorem dX10_judged_78 : decode cX10_judged 78 = .ok (.getfield 109, 3) := by decide +kernel
theorem dX10_judged_81 : decode cX10_judged 81 = .ok (.iload 4, 2) := by decide +kernel
theorem dX10_judged_83 : decode cX10_judged 83 = .ok (.aload_n 0, 1) := by decide +kernel
theorem dX10_judged_84 : decode cX10_judged 84 = .ok (.getfield 34, 3) := by decide +kernel
theorem dX10_judged_87 : decode cX10_judged 87 = .ok (.aload_n 0, 1) := by decide +kernel
theorem dX10_judged_88 : decode cX10_judged 88 = .ok (.getfield 69, 3) := by decide +kernel
theorem dX10_judged_91 : decode cX10_judged 91 = .ok (.invokevirtual 192, 3) := by decide +kernel
theorem dX10_judged_94 : decode cX10_judged 94 = .ok (.ifCond .ne 11, 3) := by decide +kernel
theorem dX10_judged_97 : decode cX10_judged 97 = .ok (.iload_n 2, 1) := by decide +kernel
theorem dX10_judged_98 : decode cX10_judged 98 = .ok (.iconst (-1), 1) := by decide +kernel
theorem dX10_judged_99 : decode cX10_judged 99 = .ok (.if_icmp .ne 6, 3) := by decide +kernel
theorem dX10_judged_102 : decode cX10_judged 102 = .ok (.iload 4, 2) := by decide +kernel
theorem dX10_judged_104 : decode cX10_judged 104 = .ok (.istore_n 2, 1) := by decide +kernel
theorem dX10_judged_105 : decode cX10_judged 105 = .ok (.iinc 4 1, 3) := by decide +kernel
theorem dX10_judged_108 : decode cX10_judged 108 = .ok (.goto (-78), 3) := by decide +kernel
theorem dX10_judged_111 : decode cX10_judged 111 = .ok (.iload_n 1, 1) := by decide +kernel
theorem dX10_judged_112 : decode cX10_judged 112 = .ok (.ifCond .ne 7, 3) := by decide +kernel
theorem dX10_judged_115 : decode cX10_judged 115 = .ok (.iload_n 2, 1) := by decide +kernel
theorem dX10_judged_116 : decode cX10_judged 116 = .ok (.goto 19, 3) := by decide +kernel
theorem dX10_judged_119 : decode cX10_judged 119 = .ok (.iload_n 1, 1) := by decide +kernel
theorem dX10_judged_120 : decode cX10_judged 120 = .ok (.iconst 1, 1) := by decide +kernel
theorem dX10_judged_121 : decode cX10_judged 121 = .ok (.if_icmp .ne 7, 3) := by decide +kernel
theorem dX10_judged_124 : decode cX10_judged 124 = .ok (.iload_n 3, 1) := by decide +kernel
theorem dX10_judged_125 : decode cX10_judged 125 = .ok (.goto 10, 3) := by decide +kernel
theorem dX10_judged_128 : decode cX10_judged 128 = .ok (.aload_n 0, 1) := by decide +kernel
theorem dX10_judged_129 : decode cX10_judged 129 = .ok (.getfield 34, 3) := by decide +kernel
theorem dX10_judged_132 : decode cX10_judged 132 = .ok (.invokevirtual 196, 3) := by decide +kernel
theorem dX10_judged_135 : decode cX10_judged 135 = .ok (.ireturn, 1) := by decide +kernel
theorem dX10_spell_0 : decode cX10_spell 0 = .ok (.aload_n 0, 1) := by decide +kernel
theorem dX10_spell_1 : decode cX10_spell 1 = .ok (.getfield 69, 3) := by decide +kernel
theorem dX10_spell_4 : decode cX10_spell 4 = .ok (.iconst 1, 1) := by decide +kernel
theorem dX10_spell_5 : decode cX10_spell 5 = .ok (.iload_n 1, 1) := by decide +kernel
theorem dX10_spell_6 : decode cX10_spell 6 = .ok (.invokevirtual 116, 3) := by decide +kernel
theorem dX10_spell_9 : decode cX10_spell 9 = .ok (.ifCond .eq 11, 3) := by decide +kernel
theorem dX10_spell_12 : decode cX10_spell 12 = .ok (.aload_n 0, 1) := by decide +kernel
theorem dX10_spell_13 : decode cX10_spell 13 = .ok (.iload_n 2, 1) := by decide +kernel
theorem dX10_spell_14 : decode cX10_spell 14 = .ok (.invokevirtual 199, 3) := by decide +kernel
theorem dX10_spell_17 : decode cX10_spell 17 = .ok (.ifCond .ne 6, 3) := by decide +kernel
theorem dX10_spell_20 : decode cX10_spell 20 = .ok (.bipush (-2), 2) := by decide +kernel
theorem dX10_spell_22 : decode cX10_spell 22 = .ok (.ireturn, 1) := by decide +kernel
theorem dX10_spell_23 : decode cX10_spell 23 = .ok (.iload_n 3, 1) := by decide +kernel
theorem dX10_spell_24 : decode cX10_spell 24 = .ok (.bipush (-2), 2) := by decide +kernel
theorem dX10_spell_26 : decode cX10_spell 26 = .ok (.if_icmp .eq 14, 3) := by decide +kernel
theorem dX10_spell_29 : decode cX10_spell 29 = .ok (.aload_n 0, 1) := by decide +kernel
theorem dX10_spell_30 : decode cX10_spell 30 = .ok (.iload_n 3, 1) := by decide +kernel
theorem dX10_spell_31 : decode cX10_spell 31 = .ok (.invokevirtual 199, 3) := by decide +kernel
theorem dX10_spell_34 : decode cX10_spell 34 = .ok (.ifCond .ne 6, 3) := by decide +kernel
theorem dX10_spell_37 : decode cX10_spell 37 = .ok (.bipush (-2), 2) := by decide +kernel
theorem dX10_spell_39 : decode cX10_spell 39 = .ok (.ireturn, 1) := by decide +kernel
theorem dX10_spell_40 : decode cX10_spell 40 = .ok (.iload 4, 2) := by decide +kernel
theorem dX10_spell_42 : decode cX10_spell 42 = .ok (.iconst (-1), 1) := by decide +kernel
theorem dX10_spell_43 : decode cX10_spell 43 = .ok (.if_icmp .eq 19, 3) := by decide +kernel
theorem dX10_spell_46 : decode cX10_spell 46 = .ok (.aload_n 0, 1) := by decide +kernel
theorem dX10_spell_47 : decode cX10_spell 47 = .ok (.getfield 69, 3) := by decide +kernel
theorem dX10_spell_50 : decode cX10_spell 50 = .ok (.iconst 2, 1) := by decide +kernel
theorem dX10_spell_51 : decode cX10_spell 51 = .ok (.iload 4, 2) := by decide +kernel
theorem dX10_spell_53 : decode cX10_spell 53 = .ok (.invokevirtual 116, 3) := by decide +kernel
theorem dX10_spell_56 : decode cX10_spell 56 = .ok (.ifCond .ne 6, 3) := by decide +kernel
theorem dX10_spell_59 : decode cX10_spell 59 = .ok (.bipush (-2), 2) := by decide +kernel
theorem dX10_spell_61 : decode cX10_spell 61 = .ok (.ireturn, 1) := by decide +kernel
theorem dX10_spell_62 : decode cX10_spell 62 = .ok (.aload_n 0, 1) := by decide +kernel
theorem dX10_spell_63 : decode cX10_spell 63 = .ok (.getfield 55, 3) := by decide +kernel
theorem dX10_spell_66 : decode cX10_spell 66 = .ok (.aload_n 0, 1) := by decide +kernel
theorem dX10_spell_67 : decode cX10_spell 67 = .ok (.getfield 69, 3) := by decide +kernel
theorem dX10_spell_70 : decode cX10_spell 70 = .ok (.aload_n 0, 1) := by decide +kernel
theorem dX10_spell_71 : decode cX10_spell 71 = .ok (.getfield 19, 3) := by decide +kernel
theorem dX10_spell_74 : decode cX10_spell 74 = .ok (.getfield 120, 3) := by decide +kernel
theorem dX10_spell_77 : decode cX10_spell 77 = .ok (.iload_n 1, 1) := by decide +kernel
theorem dX10_spell_78 : decode cX10_spell 78 = .ok (.iload_n 2, 1) := by decide +kernel
theorem dX10_spell_79 : decode cX10_spell 79 = .ok (.iload_n 3, 1) := by decide +kernel
theorem dX10_spell_80 : decode cX10_spell 80 = .ok (.invokevirtual 202, 3) := by decide +kernel
theorem dX10_spell_83 : decode cX10_spell 83 = .ok (.ifCond .ne 6, 3) := by decide +kernel
theorem dX10_spell_86 : decode cX10_spell 86 = .ok (.bipush (-2), 2) := by decide +kernel
theorem dX10_spell_88 : decode cX10_spell 88 = .ok (.ireturn, 1) := by decide +kernel
theorem dX10_spell_89 : decode cX10_spell 89 = .ok (.iload 4, 2) := by decide +kernel
theorem dX10_spell_91 : decode cX10_spell 91 = .ok (.iconst (-1), 1) := by decide +kernel
theorem dX10_spell_92 : decode cX10_spell 92 = .ok (.if_icmp .ne 13, 3) := by decide +kernel
theorem dX10_spell_95 : decode cX10_spell 95 = .ok (.aload_n 0, 1) := by decide +kernel
theorem dX10_spell_96 : decode cX10_spell 96 = .ok (.getfield 55, 3) := by decide +kernel
theorem dX10_spell_99 : decode cX10_spell 99 = .ok (.getfield 206, 3) := by decide +kernel
theorem dX10_spell_102 : decode cX10_spell 102 = .ok (.goto 12, 3) := by decide +kernel
theorem dX10_spell_105 : decode cX10_spell 105 = .ok (.aload_n 0, 1) := by decide +kernel
theorem dX10_spell_106 : decode cX10_spell 106 = .ok (.getfield 55, 3) := by decide +kernel
theorem dX10_spell_109 : decode cX10_spell 109 = .ok (.iload 4, 2) := by decide +kernel
theorem dX10_spell_111 : decode cX10_spell 111 = .ok (.invokevirtual 209, 3) := by decide +kernel
theorem dX10_spell_114 : decode cX10_spell 114 = .ok (.ireturn, 1) := by decide +kernel
theorem dX10_sure_0 : decode cX10_sure 0 = .ok (.aload_n 0, 1) := by decide +kernel
theorem dX10_sure_1 : decode cX10_sure 1 = .ok (.getfield 69, 3) := by decide +kernel
theorem dX10_sure_4 : decode cX10_sure 4 = .ok (.iconst 3, 1) := by decide +kernel
theorem dX10_sure_5 : decode cX10_sure 5 = .ok (.iload_n 2, 1) := by decide +kernel
theorem dX10_sure_6 : decode cX10_sure 6 = .ok (.invokevirtual 116, 3) := by decide +kernel
theorem dX10_sure_9 : decode cX10_sure 9 = .ok (.ifCond .ne 5, 3) := by decide +kernel
theorem dX10_sure_12 : decode cX10_sure 12 = .ok (.iconst (-1), 1) := by decide +kernel
theorem dX10_sure_13 : decode cX10_sure 13 = .ok (.ireturn, 1) := by decide +kernel
theorem dX10_sure_14 : decode cX10_sure 14 = .ok (.iconst 0, 1) := by decide +kernel
theorem dX10_sure_15 : decode cX10_sure 15 = .ok (.istore_n 3, 1) := by decide +kernel
theorem dX10_sure_16 : decode cX10_sure 16 = .ok (.iload_n 3, 1) := by decide +kernel
theorem dX10_sure_17 : decode cX10_sure 17 = .ok (.aload_n 0, 1) := by decide +kernel
theorem dX10_sure_18 : decode cX10_sure 18 = .ok (.getfield 69, 3) := by decide +kernel
theorem dX10_sure_21 : decode cX10_sure 21 = .ok (.getfield 212, 3) := by decide +kernel
theorem dX10_sure_24 : decode cX10_sure 24 = .ok (.iconst 0, 1) := by decide +kernel
theorem dX10_sure_25 : decode cX10_sure 25 = .ok (.iaload, 1) := by decide +kernel
theorem dX10_sure_26 : decode cX10_sure 26 = .ok (.if_icmp .ge 56, 3) := by decide +kernel
theorem dX10_sure_29 : decode cX10_sure 29 = .ok (.aload_n 0, 1) := by decide +kernel
theorem dX10_sure_30 : decode cX10_sure 30 = .ok (.iload_n 1, 1) := by decide +kernel
theorem dX10_sure_31 : decode cX10_sure 31 = .ok (.iload_n 3, 1) := by decide +kernel
theorem dX10_sure_32 : decode cX10_sure 32 = .ok (.invokevirtual 151, 3) := by decide +kernel
theorem dX10_sure_35 : decode cX10_sure 35 = .ok (.ifCond .eq 41, 3) := by decide +kernel
theorem dX10_sure_38 : decode cX10_sure 38 = .ok (.aload_n 0, 1) := by decide +kernel
theorem dX10_sure_39 : decode cX10_sure 39 = .ok (.getfield 48, 3) := by decide +kernel
theorem dX10_sure_42 : decode cX10_sure 42 = .ok (.aload_n 0, 1) := by decide +kernel
theorem dX10_sure_43 : decode cX10_sure 43 = .ok (.getfield 69, 3) := by decide +kernel
theorem dX10_sure_46 : decode cX10_sure 46 = .ok (.aload_n 0, 1) := by decide +kernel
theorem dX10_sure_47 : decode cX10_sure 47 = .ok (.getfield 19, 3) := by decide +kernel
theorem dX10_sure_50 : decode cX10_sure 50 = .ok (.iload_n 1, 1) := by decide +kernel
theorem dX10_sure_51 : decode cX10_sure 51 = .ok (.iload_n 3, 1) := by decide +kernel
theorem dX10_sure_52 : decode cX10_sure 52 = .ok (.invokevirtual 215, 3) := by decide +kernel
theorem dX10_sure_55 : decode cX10_sure 55 = .ok (.aload_n 0, 1) := by decide +kernel
theorem dX10_sure_56 : decode cX10_sure 56 = .ok (.getfield 48, 3) := by decide +kernel
theorem dX10_sure_59 : decode cX10_sure 59 = .ok (.getfield 219, 3) := by decide +kernel
theorem dX10_sure_62 : decode cX10_sure 62 = .ok (.iload_n 2, 1) := by decide +kernel
theorem dX10_sure_63 : decode cX10_sure 63 = .ok (.iaload, 1) := by decide +kernel
theorem dX10_sure_64 : decode cX10_sure 64 = .ok (.aload_n 0, 1) := by decide +kernel
theorem dX10_sure_65 : decode cX10_sure 65 = .ok (.getfield 48, 3) := by decide +kernel
theorem dX10_sure_68 : decode cX10_sure 68 = .ok (.getfield 222, 3) := by decide +kernel
theorem dX10_sure_71 : decode cX10_sure 71 = .ok (.if_icmp .ne 5, 3) := by decide +kernel
theorem dX10_sure_74 : decode cX10_sure 74 = .ok (.iload_n 3, 1) := by decide +kernel
theorem dX10_sure_75 : decode cX10_sure 75 = .ok (.ireturn, 1) := by decide +kernel
theorem dX10_sure_76 : decode cX10_sure 76 = .ok (.iinc 3 1, 3) := by decide +kernel
theorem dX10_sure_79 : decode cX10_sure 79 = .ok (.goto (-63), 3) := by decide +kernel
theorem dX10_sure_82 : decode cX10_sure 82 = .ok (.iconst (-1), 1) := by decide +kernel
theorem dX10_sure_83 : decode cX10_sure 83 = .ok (.ireturn, 1) := by decide +kernel
theorem dX10_hope_0 : decode cX10_hope 0 = .ok (.aload_n 0, 1) := by decide +kernel
theorem dX10_hope_1 : decode cX10_hope 1 = .ok (.getfield 69, 3) := by decide +kernel
theorem dX10_hope_4 : decode cX10_hope 4 = .ok (.iconst 3, 1) := by decide +kernel
theorem dX10_hope_5 : decode cX10_hope 5 = .ok (.iload_n 3, 1) := by decide +kernel
theorem dX10_hope_6 : decode cX10_hope 6 = .ok (.invokevirtual 116, 3) := by decide +kernel
theorem dX10_hope_9 : decode cX10_hope 9 = .ok (.ifCond .eq 12, 3) := by decide +kernel
theorem dX10_hope_12 : decode cX10_hope 12 = .ok (.aload_n 0, 1) := by decide +kernel
theorem dX10_hope_13 : decode cX10_hope 13 = .ok (.iload_n 1, 1) := by decide +kernel
theorem dX10_hope_14 : decode cX10_hope 14 = .ok (.iload_n 2, 1) := by decide +kernel
theorem dX10_hope_15 : decode cX10_hope 15 = .ok (.invokevirtual 151, 3) := by decide +kernel
theorem dX10_hope_18 : decode cX10_hope 18 = .ok (.ifCond .ne 5, 3) := by decide +kernel
theorem dX10_hope_21 : decode cX10_hope 21 = .ok (.iconst (-1), 1) := by decide +kernel
theorem dX10_hope_22 : decode cX10_hope 22 = .ok (.ireturn, 1) := by decide +kernel
theorem dX10_hope_23 : decode cX10_hope 23 = .ok (.aload_n 0, 1) := by decide +kernel
theorem dX10_hope_24 : decode cX10_hope 24 = .ok (.getfield 48, 3) := by decide +kernel
theorem dX10_hope_27 : decode cX10_hope 27 = .ok (.aload_n 0, 1) := by decide +kernel
theorem dX10_hope_28 : decode cX10_hope 28 = .ok (.getfield 69, 3) := by decide +kernel
theorem dX10_hope_31 : decode cX10_hope 31 = .ok (.aload_n 0, 1) := by decide +kernel
theorem dX10_hope_32 : decode cX10_hope 32 = .ok (.getfield 19, 3) := by decide +kernel
theorem dX10_hope_35 : decode cX10_hope 35 = .ok (.iload_n 1, 1) := by decide +kernel
theorem dX10_hope_36 : decode cX10_hope 36 = .ok (.iload_n 2, 1) := by decide +kernel
theorem dX10_hope_37 : decode cX10_hope 37 = .ok (.invokevirtual 215, 3) := by decide +kernel
theorem dX10_hope_40 : decode cX10_hope 40 = .ok (.aload_n 0, 1) := by decide +kernel
theorem dX10_hope_41 : decode cX10_hope 41 = .ok (.getfield 48, 3) := by decide +kernel
theorem dX10_hope_44 : decode cX10_hope 44 = .ok (.getfield 222, 3) := by decide +kernel
theorem dX10_hope_47 : decode cX10_hope 47 = .ok (.ifCond .le 26, 3) := by decide +kernel
theorem dX10_hope_50 : decode cX10_hope 50 = .ok (.aload_n 0, 1) := by decide +kernel
theorem dX10_hope_51 : decode cX10_hope 51 = .ok (.getfield 48, 3) := by decide +kernel
theorem dX10_hope_54 : decode cX10_hope 54 = .ok (.getfield 219, 3) := by decide +kernel
theorem dX10_hope_57 : decode cX10_hope 57 = .ok (.iload_n 3, 1) := by decide +kernel
theorem dX10_hope_58 : decode cX10_hope 58 = .ok (.iaload, 1) := by decide +kernel
theorem dX10_hope_59 : decode cX10_hope 59 = .ok (.ldc 225, 2) := by decide +kernel
theorem dX10_hope_61 : decode cX10_hope 61 = .ok (.imul, 1) := by decide +kernel
theorem dX10_hope_62 : decode cX10_hope 62 = .ok (.aload_n 0, 1) := by decide +kernel
theorem dX10_hope_63 : decode cX10_hope 63 = .ok (.getfield 48, 3) := by decide +kernel
theorem dX10_hope_66 : decode cX10_hope 66 = .ok (.getfield 222, 3) := by decide +kernel
theorem dX10_hope_69 : decode cX10_hope 69 = .ok (.idiv, 1) := by decide +kernel
theorem dX10_hope_70 : decode cX10_hope 70 = .ok (.goto 4, 3) := by decide +kernel
theorem dX10_hope_73 : decode cX10_hope 73 = .ok (.iconst (-1), 1) := by decide +kernel
theorem dX10_hope_74 : decode cX10_hope 74 = .ok (.ireturn, 1) := by decide +kernel
theorem dX10_read_0 : decode cX10_read 0 = .ok (.aload_n 0, 1) := by decide +kernel
theorem dX10_read_1 : decode cX10_read 1 = .ok (.getfield 69, 3) := by decide +kernel
theorem dX10_read_4 : decode cX10_read 4 = .ok (.iconst 4, 1) := by decide +kernel
theorem dX10_read_5 : decode cX10_read 5 = .ok (.iload_n 1, 1) := by decide +kernel
theorem dX10_read_6 : decode cX10_read 6 = .ok (.invokevirtual 116, 3) := by decide +kernel
theorem dX10_read_9 : decode cX10_read 9 = .ok (.ifCond .eq 23, 3) := by decide +kernel
theorem dX10_read_12 : decode cX10_read 12 = .ok (.aload_n 0, 1) := by decide +kernel
theorem dX10_read_13 : decode cX10_read 13 = .ok (.getfield 69, 3) := by decide +kernel
theorem dX10_read_16 : decode cX10_read 16 = .ok (.iconst 1, 1) := by decide +kernel
theorem dX10_read_17 : decode cX10_read 17 = .ok (.iload_n 2, 1) := by decide +kernel
theorem dX10_read_18 : decode cX10_read 18 = .ok (.invokevirtual 116, 3) := by decide +kernel
theorem dX10_read_21 : decode cX10_read 21 = .ok (.ifCond .eq 11, 3) := by decide +kernel
theorem dX10_read_24 : decode cX10_read 24 = .ok (.aload_n 0, 1) := by decide +kernel
theorem dX10_read_25 : decode cX10_read 25 = .ok (.iload_n 3, 1) := by decide +kernel
theorem dX10_read_26 : decode cX10_read 26 = .ok (.invokevirtual 199, 3) := by decide +kernel
theorem dX10_read_29 : decode cX10_read 29 = .ok (.ifCond .ne 5, 3) := by decide +kernel
theorem dX10_read_32 : decode cX10_read 32 = .ok (.iconst 0, 1) := by decide +kernel
theorem dX10_read_33 : decode cX10_read 33 = .ok (.ireturn, 1) := by decide +kernel
theorem dX10_read_34 : decode cX10_read 34 = .ok (.aload_n 0, 1) := by decide +kernel
theorem dX10_read_35 : decode cX10_read 35 = .ok (.getfield 19, 3) := by decide +kernel
theorem dX10_read_38 : decode cX10_read 38 = .ok (.iload_n 1, 1) := by decide +kernel
theorem dX10_read_39 : decode cX10_read 39 = .ok (.iload_n 2, 1) := by decide +kernel
theorem dX10_read_40 : decode cX10_read 40 = .ok (.iload_n 3, 1) := by decide +kernel
theorem dX10_read_41 : decode cX10_read 41 = .ok (.invokevirtual 226, 3) := by decide +kernel
theorem dX10_read_44 : decode cX10_read 44 = .ok (.ireturn, 1) := by decide +kernel
theorem dX10_ways_0 : decode cX10_ways 0 = .ok (.iload_n 1, 1) := by decide +kernel
theorem dX10_ways_1 : decode cX10_ways 1 = .ok (.iconst (-1), 1) := by decide +kernel
theorem dX10_ways_2 : decode cX10_ways 2 = .ok (.if_icmp .eq 32, 3) := by decide +kernel
theorem dX10_ways_5 : decode cX10_ways 5 = .ok (.aload_n 0, 1) := by decide +kernel
theorem dX10_ways_6 : decode cX10_ways 6 = .ok (.getfield 69, 3) := by decide +kernel
theorem dX10_ways_9 : decode cX10_ways 9 = .ok (.iconst 2, 1) := by decide +kernel
theorem dX10_ways_10 : decode cX10_ways 10 = .ok (.iload_n 1, 1) := by decide +kernel
theorem dX10_ways_11 : decode cX10_ways 11 = .ok (.invokevirtual 116, 3) := by decide +kernel
theorem dX10_ways_14 : decode cX10_ways 14 = .ok (.ifCond .eq 17, 3) := by decide +kernel
theorem dX10_ways_17 : decode cX10_ways 17 = .ok (.aload_n 0, 1) := by decide +kernel
theorem dX10_ways_18 : decode cX10_ways 18 = .ok (.getfield 19, 3) := by decide +kernel
theorem dX10_ways_21 : decode cX10_ways 21 = .ok (.getfield 120, 3) := by decide +kernel
theorem dX10_ways_24 : decode cX10_ways 24 = .ok (.iload_n 1, 1) := by decide +kernel
theorem dX10_ways_25 : decode cX10_ways 25 = .ok (.invokevirtual 230, 3) := by decide +kernel
theorem dX10_ways_28 : decode cX10_ways 28 = .ok (.ifCond .eq 6, 3) := by decide +kernel
theorem dX10_ways_31 : decode cX10_ways 31 = .ok (.bipush (-2), 2) := by decide +kernel
theorem dX10_ways_33 : decode cX10_ways 33 = .ok (.ireturn, 1) := by decide +kernel
theorem dX10_ways_34 : decode cX10_ways 34 = .ok (.iconst 1, 1) := by decide +kernel
theorem dX10_ways_35 : decode cX10_ways 35 = .ok (.istore_n 2, 1) := by decide +kernel
theorem dX10_ways_36 : decode cX10_ways 36 = .ok (.iconst (-1), 1) := by decide +kernel
theorem dX10_ways_37 : decode cX10_ways 37 = .ok (.istore_n 3, 1) := by decide +kernel
theorem dX10_ways_38 : decode cX10_ways 38 = .ok (.iconst 0, 1) := by decide +kernel
theorem dX10_ways_39 : decode cX10_ways 39 = .ok (.istore 4, 2) := by decide +kernel
theorem dX10_ways_41 : decode cX10_ways 41 = .ok (.iload 4, 2) := by decide +kernel
theorem dX10_ways_43 : decode cX10_ways 43 = .ok (.aload_n 0, 1) := by decide +kernel
theorem dX10_ways_44 : decode cX10_ways 44 = .ok (.getfield 69, 3) := by decide +kernel
theorem dX10_ways_47 : decode cX10_ways 47 = .ok (.getfield 212, 3) := by decide +kernel
theorem dX10_ways_50 : decode cX10_ways 50 = .ok (.iconst 1, 1) := by decide +kernel
theorem dX10_ways_51 : decode cX10_ways 51 = .ok (.iaload, 1) := by decide +kernel
theorem dX10_ways_52 : decode cX10_ways 52 = .ok (.if_icmp .ge 64, 3) := by decide +kernel
theorem dX10_ways_55 : decode cX10_ways 55 = .ok (.aload_n 0, 1) := by decide +kernel
theorem dX10_ways_56 : decode cX10_ways 56 = .ok (.getfield 48, 3) := by decide +kernel
theorem dX10_ways_59 : decode cX10_ways 59 = .ok (.aload_n 0, 1) := by decide +kernel
theorem dX10_ways_60 : decode cX10_ways 60 = .ok (.getfield 69, 3) := by decide +kernel
theorem dX10_ways_63 : decode cX10_ways 63 = .ok (.aload_n 0, 1) := by decide +kernel
theorem dX10_ways_64 : decode cX10_ways 64 = .ok (.getfield 19, 3) := by decide +kernel
theorem dX10_ways_67 : decode cX10_ways 67 = .ok (.iload 4, 2) := by decide +kernel
theorem dX10_ways_69 : decode cX10_ways 69 = .ok (.invokevirtual 233, 3) := by decide +kernel
theorem dX10_ways_72 : decode cX10_ways 72 = .ok (.iload_n 2, 1) := by decide +kernel
theorem dX10_ways_73 : decode cX10_ways 73 = .ok (.aload_n 0, 1) := by decide +kernel
theorem dX10_ways_74 : decode cX10_ways 74 = .ok (.getfield 48, 3) := by decide +kernel
theorem dX10_ways_77 : decode cX10_ways 77 = .ok (.getfield 222, 3) := by decide +kernel
theorem dX10_ways_80 : decode cX10_ways 80 = .ok (.imul, 1) := by decide +kernel
theorem dX10_ways_81 : decode cX10_ways 81 = .ok (.istore_n 2, 1) := by decide +kernel
theorem dX10_ways_82 : decode cX10_ways 82 = .ok (.iload_n 1, 1) := by decide +kernel
theorem dX10_ways_83 : decode cX10_ways 83 = .ok (.iconst (-1), 1) := by decide +kernel
theorem dX10_ways_84 : decode cX10_ways 84 = .ok (.if_icmp .eq 26, 3) := by decide +kernel
theorem dX10_ways_87 : decode cX10_ways 87 = .ok (.aload_n 0, 1) := by decide +kernel
theorem dX10_ways_88 : decode cX10_ways 88 = .ok (.getfield 69, 3) := by decide +kernel
theorem dX10_ways_91 : decode cX10_ways 91 = .ok (.getfield 123, 3) := by decide +kernel
theorem dX10_ways_94 : decode cX10_ways 94 = .ok (.iload_n 1, 1) := by decide +kernel
theorem dX10_ways_95 : decode cX10_ways 95 = .ok (.iaload, 1) := by decide +kernel
theorem dX10_ways_96 : decode cX10_ways 96 = .ok (.iload 4, 2) := by decide +kernel
theorem dX10_ways_98 : decode cX10_ways 98 = .ok (.if_icmp .ne 12, 3) := by decide +kernel
theorem dX10_ways_101 : decode cX10_ways 101 = .ok (.aload_n 0, 1) := by decide +kernel
theorem dX10_ways_102 : decode cX10_ways 102 = .ok (.getfield 48, 3) := by decide +kernel
theorem dX10_ways_105 : decode cX10_ways 105 = .ok (.iload_n 1, 1) := by decide +kernel
theorem dX10_ways_106 : decode cX10_ways 106 = .ok (.invokevirtual 237, 3) := by decide +kernel
theorem dX10_ways_109 : decode cX10_ways 109 = .ok (.istore_n 3, 1) := by decide +kernel
theorem dX10_ways_110 : decode cX10_ways 110 = .ok (.iinc 4 1, 3) := by decide +kernel
theorem dX10_ways_113 : decode cX10_ways 113 = .ok (.goto (-72), 3) := by decide +kernel
theorem dX10_ways_116 : decode cX10_ways 116 = .ok (.iload_n 1, 1) := by decide +kernel
theorem dX10_ways_117 : decode cX10_ways 117 = .ok (.iconst (-1), 1) := by decide +kernel
theorem dX10_ways_118 : decode cX10_ways 118 = .ok (.if_icmp .ne 5, 3) := by decide +kernel
theorem dX10_ways_121 : decode cX10_ways 121 = .ok (.iload_n 2, 1) := by decide +kernel
theorem dX10_ways_122 : decode cX10_ways 122 = .ok (.ireturn, 1) := by decide +kernel
theorem dX10_ways_123 : decode cX10_ways 123 = .ok (.iload_n 2, 1) := by decide +kernel
theorem dX10_ways_124 : decode cX10_ways 124 = .ok (.ifCond .ne 7, 3) := by decide +kernel
theorem dX10_ways_127 : decode cX10_ways 127 = .ok (.iconst (-1), 1) := by decide +kernel
theorem dX10_ways_128 : decode cX10_ways 128 = .ok (.goto 4, 3) := by decide +kernel
theorem dX10_ways_131 : decode cX10_ways 131 = .ok (.iload_n 3, 1) := by decide +kernel
theorem dX10_ways_132 : decode cX10_ways 132 = .ok (.ireturn, 1) := by decide +kernel
theorem dX10_ask_0 : decode cX10_ask 0 = .ok (.aload_n 0, 1) := by decide +kernel
theorem dX10_ask_1 : decode cX10_ask 1 = .ok (.getfield 69, 3) := by decide +kernel
theorem dX10_ask_4 : decode cX10_ask 4 = .ok (.getfield 212, 3) := by decide +kernel
theorem dX10_ask_7 : decode cX10_ask 7 = .ok (.iconst 1, 1) := by decide +kernel
theorem dX10_ask_8 : decode cX10_ask 8 = .ok (.iaload, 1) := by decide +kernel
theorem dX10_ask_9 : decode cX10_ask 9 = .ok (.istore_n 1, 1) := by decide +kernel
theorem dX10_ask_10 : decode cX10_ask 10 = .ok (.iconst 1, 1) := by decide +kernel
theorem dX10_ask_11 : decode cX10_ask 11 = .ok (.istore_n 2, 1) := by decide +kernel
theorem dX10_ask_12 : decode cX10_ask 12 = .ok (.iconst 0, 1) := by decide +kernel
theorem dX10_ask_13 : decode cX10_ask 13 = .ok (.istore_n 3, 1) := by decide +kernel
theorem dX10_ask_14 : decode cX10_ask 14 = .ok (.iload_n 3, 1) := by decide +kernel
theorem dX10_ask_15 : decode cX10_ask 15 = .ok (.iload_n 1, 1) := by decide +kernel
theorem dX10_ask_16 : decode cX10_ask 16 = .ok (.if_icmp .ge 99, 3) := by decide +kernel
theorem dX10_ask_19 : decode cX10_ask 19 = .ok (.aload_n 0, 1) := by decide +kernel
theorem dX10_ask_20 : decode cX10_ask 20 = .ok (.getfield 48, 3) := by decide +kernel
theorem dX10_ask_23 : decode cX10_ask 23 = .ok (.aload_n 0, 1) := by decide +kernel
theorem dX10_ask_24 : decode cX10_ask 24 = .ok (.getfield 69, 3) := by decide +kernel
theorem dX10_ask_27 : decode cX10_ask 27 = .ok (.aload_n 0, 1) := by decide +kernel
theorem dX10_ask_28 : decode cX10_ask 28 = .ok (.getfield 19, 3) := by decide +kernel
theorem dX10_ask_31 : decode cX10_ask 31 = .ok (.iload_n 3, 1) := by decide +kernel
theorem dX10_ask_32 : decode cX10_ask 32 = .ok (.invokevirtual 233, 3) := by decide +kernel
theorem dX10_ask_35 : decode cX10_ask 35 = .ok (.aload_n 0, 1) := by decide +kernel
theorem dX10_ask_36 : decode cX10_ask 36 = .ok (.getfield 59, 3) := by decide +kernel
theorem dX10_ask_39 : decode cX10_ask 39 = .ok (.iload_n 3, 1) := by decide +kernel
theorem dX10_ask_40 : decode cX10_ask 40 = .ok (.aload_n 0, 1) := by decide +kernel
theorem dX10_ask_41 : decode cX10_ask 41 = .ok (.getfield 48, 3) := by decide +kernel
theorem dX10_ask_44 : decode cX10_ask 44 = .ok (.getfield 222, 3) := by decide +kernel
theorem dX10_ask_47 : decode cX10_ask 47 = .ok (.iastore, 1) := by decide +kernel
theorem dX10_ask_48 : decode cX10_ask 48 = .ok (.aload_n 0, 1) := by decide +kernel
theorem dX10_ask_49 : decode cX10_ask 49 = .ok (.getfield 63, 3) := by decide +kernel
theorem dX10_ask_52 : decode cX10_ask 52 = .ok (.iload_n 3, 1) := by decide +kernel
theorem dX10_ask_53 : decode cX10_ask 53 = .ok (.iconst 3, 1) := by decide +kernel
theorem dX10_ask_54 : decode cX10_ask 54 = .ok (.imul, 1) := by decide +kernel
theorem dX10_ask_55 : decode cX10_ask 55 = .ok (.iconst 0, 1) := by decide +kernel
theorem dX10_ask_56 : decode cX10_ask 56 = .ok (.iadd, 1) := by decide +kernel
theorem dX10_ask_57 : decode cX10_ask 57 = .ok (.aload_n 0, 1) := by decide +kernel
theorem dX10_ask_58 : decode cX10_ask 58 = .ok (.getfield 48, 3) := by decide +kernel
theorem dX10_ask_61 : decode cX10_ask 61 = .ok (.getfield 240, 3) := by decide +kernel
theorem dX10_ask_64 : decode cX10_ask 64 = .ok (.iastore, 1) := by decide +kernel
theorem dX10_ask_65 : decode cX10_ask 65 = .ok (.aload_n 0, 1) := by decide +kernel
theorem dX10_ask_66 : decode cX10_ask 66 = .ok (.getfield 63, 3) := by decide +kernel
theorem dX10_ask_69 : decode cX10_ask 69 = .ok (.iload_n 3, 1) := by decide +kernel
theorem dX10_ask_70 : decode cX10_ask 70 = .ok (.iconst 3, 1) := by decide +kernel
theorem dX10_ask_71 : decode cX10_ask 71 = .ok (.imul, 1) := by decide +kernel
theorem dX10_ask_72 : decode cX10_ask 72 = .ok (.iconst 1, 1) := by decide +kernel
theorem dX10_ask_73 : decode cX10_ask 73 = .ok (.iadd, 1) := by decide +kernel
theorem dX10_ask_74 : decode cX10_ask 74 = .ok (.aload_n 0, 1) := by decide +kernel
theorem dX10_ask_75 : decode cX10_ask 75 = .ok (.getfield 48, 3) := by decide +kernel
theorem dX10_ask_78 : decode cX10_ask 78 = .ok (.getfield 243, 3) := by decide +kernel
theorem dX10_ask_81 : decode cX10_ask 81 = .ok (.iastore, 1) := by decide +kernel
theorem dX10_ask_82 : decode cX10_ask 82 = .ok (.aload_n 0, 1) := by decide +kernel
theorem dX10_ask_83 : decode cX10_ask 83 = .ok (.getfield 63, 3) := by decide +kernel
theorem dX10_ask_86 : decode cX10_ask 86 = .ok (.iload_n 3, 1) := by decide +kernel
theorem dX10_ask_87 : decode cX10_ask 87 = .ok (.iconst 3, 1) := by decide +kernel
theorem dX10_ask_88 : decode cX10_ask 88 = .ok (.imul, 1) := by decide +kernel
theorem dX10_ask_89 : decode cX10_ask 89 = .ok (.iconst 2, 1) := by decide +kernel
theorem dX10_ask_90 : decode cX10_ask 90 = .ok (.iadd, 1) := by decide +kernel
theorem dX10_ask_91 : decode cX10_ask 91 = .ok (.aload_n 0, 1) := by decide +kernel
theorem dX10_ask_92 : decode cX10_ask 92 = .ok (.getfield 48, 3) := by decide +kernel
theorem dX10_ask_95 : decode cX10_ask 95 = .ok (.getfield 246, 3) := by decide +kernel
theorem dX10_ask_98 : decode cX10_ask 98 = .ok (.iastore, 1) := by decide +kernel
theorem dX10_ask_99 : decode cX10_ask 99 = .ok (.iload_n 2, 1) := by decide +kernel
theorem dX10_ask_100 : decode cX10_ask 100 = .ok (.aload_n 0, 1) := by decide +kernel
theorem dX10_ask_101 : decode cX10_ask 101 = .ok (.getfield 48, 3) := by decide +kernel
theorem dX10_ask_104 : decode cX10_ask 104 = .ok (.getfield 222, 3) := by decide +kernel
theorem dX10_ask_107 : decode cX10_ask 107 = .ok (.imul, 1) := by decide +kernel
theorem dX10_ask_108 : decode cX10_ask 108 = .ok (.istore_n 2, 1) := by decide +kernel
theorem dX10_ask_109 : decode cX10_ask 109 = .ok (.iinc 3 1, 3) := by decide +kernel
theorem dX10_ask_112 : decode cX10_ask 112 = .ok (.goto (-98), 3) := by decide +kernel
theorem dX10_ask_115 : decode cX10_ask 115 = .ok (.iload_n 2, 1) := by decide +kernel
theorem dX10_ask_116 : decode cX10_ask 116 = .ok (.istore_n 3, 1) := by decide +kernel
theorem dX10_ask_117 : decode cX10_ask 117 = .ok (.iconst (-1), 1) := by decide +kernel
theorem dX10_ask_118 : decode cX10_ask 118 = .ok (.istore 4, 2) := by decide +kernel
theorem dX10_ask_120 : decode cX10_ask 120 = .ok (.iconst 0, 1) := by decide +kernel
theorem dX10_ask_121 : decode cX10_ask 121 = .ok (.istore 5, 2) := by decide +kernel
theorem dX10_ask_123 : decode cX10_ask 123 = .ok (.iload 5, 2) := by decide +kernel
theorem dX10_ask_125 : decode cX10_ask 125 = .ok (.aload_n 0, 1) := by decide +kernel
theorem dX10_ask_126 : decode cX10_ask 126 = .ok (.getfield 69, 3) := by decide +kernel
theorem dX10_ask_129 : decode cX10_ask 129 = .ok (.getfield 212, 3) := by decide +kernel
theorem dX10_ask_132 : decode cX10_ask 132 = .ok (.iconst 4, 1) := by decide +kernel
theorem dX10_ask_133 : decode cX10_ask 133 = .ok (.iaload, 1) := by decide +kernel
theorem dX10_ask_134 : decode cX10_ask 134 = .ok (.if_icmp .ge 92, 3) := by decide +kernel
theorem dX10_ask_137 : decode cX10_ask 137 = .ok (.iconst 0, 1) := by decide +kernel
theorem dX10_ask_138 : decode cX10_ask 138 = .ok (.istore 6, 2) := by decide +kernel
theorem dX10_ask_140 : decode cX10_ask 140 = .ok (.iload 6, 2) := by decide +kernel
theorem dX10_ask_142 : decode cX10_ask 142 = .ok (.iload_n 1, 1) := by decide +kernel
theorem dX10_ask_143 : decode cX10_ask 143 = .ok (.if_icmp .ge 77, 3) := by decide +kernel
theorem dX10_ask_146 : decode cX10_ask 146 = .ok (.aload_n 0, 1) := by decide +kernel
theorem dX10_ask_147 : decode cX10_ask 147 = .ok (.getfield 59, 3) := by decide +kernel
theorem dX10_ask_150 : decode cX10_ask 150 = .ok (.iload 6, 2) := by decide +kernel
theorem dX10_ask_152 : decode cX10_ask 152 = .ok (.iaload, 1) := by decide +kernel
theorem dX10_ask_153 : decode cX10_ask 153 = .ok (.ifCond .le 15, 3) := by decide +kernel
theorem dX10_ask_156 : decode cX10_ask 156 = .ok (.iload_n 2, 1) := by decide +kernel
theorem dX10_ask_157 : decode cX10_ask 157 = .ok (.aload_n 0, 1) := by decide +kernel
theorem dX10_ask_158 : decode cX10_ask 158 = .ok (.getfield 59, 3) := by decide +kernel
theorem dX10_ask_161 : decode cX10_ask 161 = .ok (.iload 6, 2) := by decide +kernel
theorem dX10_ask_163 : decode cX10_ask 163 = .ok (.iaload, 1) := by decide +kernel
theorem dX10_ask_164 : decode cX10_ask 164 = .ok (.idiv, 1) := by decide +kernel
theorem dX10_ask_165 : decode cX10_ask 165 = .ok (.goto 4, 3) := by decide +kernel
theorem dX10_ask_168 : decode cX10_ask 168 = .ok (.iconst 0, 1) := by decide +kernel
theorem dX10_ask_169 : decode cX10_ask 169 = .ok (.istore 7, 2) := by decide +kernel
theorem dX10_ask_171 : decode cX10_ask 171 = .ok (.aload_n 0, 1) := by decide +kernel
theorem dX10_ask_172 : decode cX10_ask 172 = .ok (.getfield 63, 3) := by decide +kernel
theorem dX10_ask_175 : decode cX10_ask 175 = .ok (.iload 6, 2) := by decide +kernel
theorem dX10_ask_177 : decode cX10_ask 177 = .ok (.iconst 3, 1) := by decide +kernel
theorem dX10_ask_178 : decode cX10_ask 178 = .ok (.imul, 1) := by decide +kernel
theorem dX10_ask_179 : decode cX10_ask 179 = .ok (.aload_n 0, 1) := by decide +kernel
theorem dX10_ask_180 : decode cX10_ask 180 = .ok (.getfield 69, 3) := by decide +kernel
theorem dX10_ask_183 : decode cX10_ask 183 = .ok (.getfield 249, 3) := by decide +kernel
theorem dX10_ask_186 : decode cX10_ask 186 = .ok (.iload 5, 2) := by decide +kernel
theorem dX10_ask_188 : decode cX10_ask 188 = .ok (.iaload, 1) := by decide +kernel
theorem dX10_ask_189 : decode cX10_ask 189 = .ok (.iadd, 1) := by decide +kernel
theorem dX10_ask_190 : decode cX10_ask 190 = .ok (.iaload, 1) := by decide +kernel
theorem dX10_ask_191 : decode cX10_ask 191 = .ok (.iload 7, 2) := by decide +kernel
theorem dX10_ask_193 : decode cX10_ask 193 = .ok (.imul, 1) := by decide +kernel
theorem dX10_ask_194 : decode cX10_ask 194 = .ok (.istore 8, 2) := by decide +kernel
theorem dX10_ask_196 : decode cX10_ask 196 = .ok (.iload 8, 2) := by decide +kernel
theorem dX10_ask_198 : decode cX10_ask 198 = .ok (.iload_n 3, 1) := by decide +kernel
theorem dX10_ask_199 : decode cX10_ask 199 = .ok (.if_icmp .ge 15, 3) := by decide +kernel
theorem dX10_ask_202 : decode cX10_ask 202 = .ok (.iload 8, 2) := by decide +kernel
theorem dX10_ask_204 : decode cX10_ask 204 = .ok (.istore_n 3, 1) := by decide +kernel
theorem dX10_ask_205 : decode cX10_ask 205 = .ok (.iload 5, 2) := by decide +kernel
theorem dX10_ask_207 : decode cX10_ask 207 = .ok (.iconst 3, 1) := by decide +kernel
theorem dX10_ask_208 : decode cX10_ask 208 = .ok (.imul, 1) := by decide +kernel
theorem dX10_ask_209 : decode cX10_ask 209 = .ok (.iload 6, 2) := by decide +kernel
theorem dX10_ask_211 : decode cX10_ask 211 = .ok (.iadd, 1) := by decide +kernel
theorem dX10_ask_212 : decode cX10_ask 212 = .ok (.istore 4, 2) := by decide +kernel
theorem dX10_ask_214 : decode cX10_ask 214 = .ok (.iinc 6 1, 3) := by decide +kernel
theorem dX10_ask_217 : decode cX10_ask 217 = .ok (.goto (-77), 3) := by decide +kernel
theorem dX10_ask_220 : decode cX10_ask 220 = .ok (.iinc 5 1, 3) := by decide +kernel
theorem dX10_ask_223 : decode cX10_ask 223 = .ok (.goto (-100), 3) := by decide +kernel
theorem dX10_ask_226 : decode cX10_ask 226 = .ok (.iload 4, 2) := by decide +kernel
theorem dX10_ask_228 : decode cX10_ask 228 = .ok (.ireturn, 1) := by decide +kernel
theorem dX10_blur_0 : decode cX10_blur 0 = .ok (.aload_n 0, 1) := by decide +kernel
theorem dX10_blur_1 : decode cX10_blur 1 = .ok (.getfield 69, 3) := by decide +kernel
theorem dX10_blur_4 : decode cX10_blur 4 = .ok (.iconst 3, 1) := by decide +kernel
theorem dX10_blur_5 : decode cX10_blur 5 = .ok (.iload_n 1, 1) := by decide +kernel
theorem dX10_blur_6 : decode cX10_blur 6 = .ok (.invokevirtual 116, 3) := by decide +kernel
theorem dX10_blur_9 : decode cX10_blur 9 = .ok (.ifCond .eq 20, 3) := by decide +kernel
theorem dX10_blur_12 : decode cX10_blur 12 = .ok (.aload_n 0, 1) := by decide +kernel
theorem dX10_blur_13 : decode cX10_blur 13 = .ok (.getfield 69, 3) := by decide +kernel
theorem dX10_blur_16 : decode cX10_blur 16 = .ok (.iconst 3, 1) := by decide +kernel
theorem dX10_blur_17 : decode cX10_blur 17 = .ok (.iload_n 2, 1) := by decide +kernel
theorem dX10_blur_18 : decode cX10_blur 18 = .ok (.invokevirtual 116, 3) := by decide +kernel
theorem dX10_blur_21 : decode cX10_blur 21 = .ok (.ifCond .eq 8, 3) := by decide +kernel
theorem dX10_blur_24 : decode cX10_blur 24 = .ok (.iload_n 1, 1) := by decide +kernel
theorem dX10_blur_25 : decode cX10_blur 25 = .ok (.iload_n 2, 1) := by decide +kernel
theorem dX10_blur_26 : decode cX10_blur 26 = .ok (.if_icmp .ne 5, 3) := by decide +kernel
theorem dX10_blur_29 : decode cX10_blur 29 = .ok (.iconst (-1), 1) := by decide +kernel
theorem dX10_blur_30 : decode cX10_blur 30 = .ok (.ireturn, 1) := by decide +kernel
theorem dX10_blur_31 : decode cX10_blur 31 = .ok (.aload_n 0, 1) := by decide +kernel
theorem dX10_blur_32 : decode cX10_blur 32 = .ok (.getfield 69, 3) := by decide +kernel
theorem dX10_blur_35 : decode cX10_blur 35 = .ok (.iload_n 1, 1) := by decide +kernel
theorem dX10_blur_36 : decode cX10_blur 36 = .ok (.iload_n 2, 1) := by decide +kernel
theorem dX10_blur_37 : decode cX10_blur 37 = .ok (.iconst 0, 1) := by decide +kernel
theorem dX10_blur_38 : decode cX10_blur 38 = .ok (.invokevirtual 252, 3) := by decide +kernel
theorem dX10_blur_41 : decode cX10_blur 41 = .ok (.istore_n 3, 1) := by decide +kernel
theorem dX10_blur_42 : decode cX10_blur 42 = .ok (.aload_n 0, 1) := by decide +kernel
theorem dX10_blur_43 : decode cX10_blur 43 = .ok (.getfield 69, 3) := by decide +kernel
theorem dX10_blur_46 : decode cX10_blur 46 = .ok (.iload_n 1, 1) := by decide +kernel
theorem dX10_blur_47 : decode cX10_blur 47 = .ok (.iload_n 2, 1) := by decide +kernel
theorem dX10_blur_48 : decode cX10_blur 48 = .ok (.iconst 1, 1) := by decide +kernel
theorem dX10_blur_49 : decode cX10_blur 49 = .ok (.invokevirtual 252, 3) := by decide +kernel
theorem dX10_blur_52 : decode cX10_blur 52 = .ok (.istore 4, 2) := by decide +kernel
theorem dX10_blur_54 : decode cX10_blur 54 = .ok (.iconst 0, 1) := by decide +kernel
theorem dX10_blur_55 : decode cX10_blur 55 = .ok (.istore 5, 2) := by decide +kernel
theorem dX10_blur_57 : decode cX10_blur 57 = .ok (.iconst 0, 1) := by decide +kernel
theorem dX10_blur_58 : decode cX10_blur 58 = .ok (.istore 6, 2) := by decide +kernel
theorem dX10_blur_60 : decode cX10_blur 60 = .ok (.iload 6, 2) := by decide +kernel
theorem dX10_blur_62 : decode cX10_blur 62 = .ok (.aload_n 0, 1) := by decide +kernel
theorem dX10_blur_63 : decode cX10_blur 63 = .ok (.getfield 69, 3) := by decide +kernel
theorem dX10_blur_66 : decode cX10_blur 66 = .ok (.getfield 212, 3) := by decide +kernel
theorem dX10_blur_69 : decode cX10_blur 69 = .ok (.iconst 4, 1) := by decide +kernel
theorem dX10_blur_70 : decode cX10_blur 70 = .ok (.iaload, 1) := by decide +kernel
theorem dX10_blur_71 : decode cX10_blur 71 = .ok (.if_icmp .ge 50, 3) := by decide +kernel
theorem dX10_blur_74 : decode cX10_blur 74 = .ok (.aload_n 0, 1) := by decide +kernel
theorem dX10_blur_75 : decode cX10_blur 75 = .ok (.getfield 69, 3) := by decide +kernel
theorem dX10_blur_78 : decode cX10_blur 78 = .ok (.getfield 249, 3) := by decide +kernel
theorem dX10_blur_81 : decode cX10_blur 81 = .ok (.iload 6, 2) := by decide +kernel
theorem dX10_blur_83 : decode cX10_blur 83 = .ok (.iaload, 1) := by decide +kernel
theorem dX10_blur_84 : decode cX10_blur 84 = .ok (.istore 7, 2) := by decide +kernel
theorem dX10_blur_86 : decode cX10_blur 86 = .ok (.iload_n 3, 1) := by decide +kernel
theorem dX10_blur_87 : decode cX10_blur 87 = .ok (.ifCond .ne 9, 3) := by decide +kernel
theorem dX10_blur_90 : decode cX10_blur 90 = .ok (.iload 7, 2) := by decide +kernel
theorem dX10_blur_92 : decode cX10_blur 92 = .ok (.iconst 1, 1) := by decide +kernel
theorem dX10_blur_93 : decode cX10_blur 93 = .ok (.if_icmp .ne 22, 3) := by decide +kernel
theorem dX10_blur_96 : decode cX10_blur 96 = .ok (.iload 4, 2) := by decide +kernel
theorem dX10_blur_98 : decode cX10_blur 98 = .ok (.ifCond .ne 8, 3) := by decide +kernel
theorem dX10_blur_101 : decode cX10_blur 101 = .ok (.iload 7, 2) := by decide +kernel
theorem dX10_blur_103 : decode cX10_blur 103 = .ok (.ifCond .ne 12, 3) := by decide +kernel
theorem dX10_blur_106 : decode cX10_blur 106 = .ok (.iload 5, 2) := by decide +kernel
theorem dX10_blur_108 : decode cX10_blur 108 = .ok (.iconst 1, 1) := by decide +kernel
theorem dX10_blur_109 : decode cX10_blur 109 = .ok (.iload 6, 2) := by decide +kernel
theorem dX10_blur_111 : decode cX10_blur 111 = .ok (.ishl, 1) := by decide +kernel
theorem dX10_blur_112 : decode cX10_blur 112 = .ok (.ior, 1) := by decide +kernel
theorem dX10_blur_113 : decode cX10_blur 113 = .ok (.istore 5, 2) := by decide +kernel
theorem dX10_blur_115 : decode cX10_blur 115 = .ok (.iinc 6 1, 3) := by decide +kernel
theorem dX10_blur_118 : decode cX10_blur 118 = .ok (.goto (-58), 3) := by decide +kernel
theorem dX10_blur_121 : decode cX10_blur 121 = .ok (.iload 5, 2) := by decide +kernel
theorem dX10_blur_123 : decode cX10_blur 123 = .ok (.ireturn, 1) := by decide +kernel
theorem dX10_share_0 : decode cX10_share 0 = .ok (.aload_n 0, 1) := by decide +kernel
theorem dX10_share_1 : decode cX10_share 1 = .ok (.getfield 69, 3) := by decide +kernel
theorem dX10_share_4 : decode cX10_share 4 = .ok (.iconst 2, 1) := by decide +kernel
theorem dX10_share_5 : decode cX10_share 5 = .ok (.iload_n 1, 1) := by decide +kernel
theorem dX10_share_6 : decode cX10_share 6 = .ok (.invokevirtual 116, 3) := by decide +kernel
theorem dX10_share_9 : decode cX10_share 9 = .ok (.ifCond .ne 5, 3) := by decide +kernel
theorem dX10_share_12 : decode cX10_share 12 = .ok (.iconst (-1), 1) := by decide +kernel
theorem dX10_share_13 : decode cX10_share 13 = .ok (.ireturn, 1) := by decide +kernel
theorem dX10_share_14 : decode cX10_share 14 = .ok (.aload_n 0, 1) := by decide +kernel
theorem dX10_share_15 : decode cX10_share 15 = .ok (.getfield 19, 3) := by decide +kernel
theorem dX10_share_18 : decode cX10_share 18 = .ok (.getfield 120, 3) := by decide +kernel
theorem dX10_share_21 : decode cX10_share 21 = .ok (.iload_n 1, 1) := by decide +kernel
theorem dX10_share_22 : decode cX10_share 22 = .ok (.invokevirtual 230, 3) := by decide +kernel
theorem dX10_share_25 : decode cX10_share 25 = .ok (.ifCond .ne 5, 3) := by decide +kernel
theorem dX10_share_28 : decode cX10_share 28 = .ok (.iconst 0, 1) := by decide +kernel
theorem dX10_share_29 : decode cX10_share 29 = .ok (.ireturn, 1) := by decide +kernel
theorem dX10_share_30 : decode cX10_share 30 = .ok (.aload_n 0, 1) := by decide +kernel
theorem dX10_share_31 : decode cX10_share 31 = .ok (.getfield 19, 3) := by decide +kernel
theorem dX10_share_34 : decode cX10_share 34 = .ok (.getfield 120, 3) := by decide +kernel
theorem dX10_share_37 : decode cX10_share 37 = .ok (.invokevirtual 255, 3) := by decide +kernel
theorem dX10_share_40 : decode cX10_share 40 = .ok (.aload_n 0, 1) := by decide +kernel
theorem dX10_share_41 : decode cX10_share 41 = .ok (.getfield 69, 3) := by decide +kernel
theorem dX10_share_44 : decode cX10_share 44 = .ok (.aload_n 0, 1) := by decide +kernel
theorem dX10_share_45 : decode cX10_share 45 = .ok (.getfield 69, 3) := by decide +kernel
theorem dX10_share_48 : decode cX10_share 48 = .ok (.getfield 123, 3) := by decide +kernel
theorem dX10_share_51 : decode cX10_share 51 = .ok (.iload_n 1, 1) := by decide +kernel
theorem dX10_share_52 : decode cX10_share 52 = .ok (.iaload, 1) := by decide +kernel
theorem dX10_share_53 : decode cX10_share 53 = .ok (.invokevirtual 136, 3) := by decide +kernel
theorem dX10_share_56 : decode cX10_share 56 = .ok (.iand, 1) := by decide +kernel
theorem dX10_share_57 : decode cX10_share 57 = .ok (.istore_n 2, 1) := by decide +kernel
theorem dX10_share_58 : decode cX10_share 58 = .ok (.iconst 1, 1) := by decide +kernel
theorem dX10_share_59 : decode cX10_share 59 = .ok (.iload_n 1, 1) := by decide +kernel
theorem dX10_share_60 : decode cX10_share 60 = .ok (.ishl, 1) := by decide +kernel
theorem dX10_share_61 : decode cX10_share 61 = .ok (.istore_n 3, 1) := by decide +kernel
theorem dX10_share_62 : decode cX10_share 62 = .ok (.iload_n 2, 1) := by decide +kernel
theorem dX10_share_63 : decode cX10_share 63 = .ok (.iload_n 3, 1) := by decide +kernel
theorem dX10_share_64 : decode cX10_share 64 = .ok (.iconst (-1), 1) := by decide +kernel
theorem dX10_share_65 : decode cX10_share 65 = .ok (.ixor, 1) := by decide +kernel
theorem dX10_share_66 : decode cX10_share 66 = .ok (.iand, 1) := by decide +kernel
theorem dX10_share_67 : decode cX10_share 67 = .ok (.istore 4, 2) := by decide +kernel
theorem dX10_share_69 : decode cX10_share 69 = .ok (.iload_n 2, 1) := by decide +kernel
theorem dX10_share_70 : decode cX10_share 70 = .ok (.invokestatic 258, 3) := by decide +kernel
theorem dX10_share_73 : decode cX10_share 73 = .ok (.istore 5, 2) := by decide +kernel
theorem dX10_share_75 : decode cX10_share 75 = .ok (.iload 5, 2) := by decide +kernel
theorem dX10_share_77 : decode cX10_share 77 = .ok (.iconst 1, 1) := by decide +kernel
theorem dX10_share_78 : decode cX10_share 78 = .ok (.if_icmp .lt 12, 3) := by decide +kernel
theorem dX10_share_81 : decode cX10_share 81 = .ok (.iload 5, 2) := by decide +kernel
theorem dX10_share_83 : decode cX10_share 83 = .ok (.getstatic 263, 3) := by decide +kernel
theorem dX10_share_86 : decode cX10_share 86 = .ok (.arraylength, 1) := by decide +kernel
theorem dX10_share_87 : decode cX10_share 87 = .ok (.if_icmp .lt 5, 3) := by decide +kernel
theorem dX10_share_90 : decode cX10_share 90 = .ok (.iconst 0, 1) := by decide +kernel
theorem dX10_share_91 : decode cX10_share 91 = .ok (.ireturn, 1) := by decide +kernel
theorem dX10_share_92 : decode cX10_share 92 = .ok (.iconst 0, 1) := by decide +kernel
theorem dX10_share_93 : decode cX10_share 93 = .ok (.istore 6, 2) := by decide +kernel
theorem dX10_share_95 : decode cX10_share 95 = .ok (.iconst 0, 1) := by decide +kernel
theorem dX10_share_96 : decode cX10_share 96 = .ok (.istore 7, 2) := by decide +kernel
theorem dX10_share_98 : decode cX10_share 98 = .ok (.iload 7, 2) := by decide +kernel
