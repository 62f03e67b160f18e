theorem dX11_read_24 : decode cX11_read 24 = .ok (.ifCond .eq 30, 3) := by decide +kernel
theorem dX11_read_27 : decode cX11_read 27 = .ok (.iload_n 3, 1) := by decide +kernel
theorem dX11_read_28 : decode cX11_read 28 = .ok (.iconst (-1), 1) := by decide +kernel
theorem dX11_read_29 : decode cX11_read 29 = .ok (.aload_n 0, 1) := by decide +kernel
theorem dX11_read_30 : decode cX11_read 30 = .ok (.getfield 13, 3) := by decide +kernel
theorem dX11_read_33 : decode cX11_read 33 = .ok (.iconst 3, 1) := by decide +kernel
theorem dX11_read_34 : decode cX11_read 34 = .ok (.iaload, 1) := by decide +kernel
theorem dX11_read_35 : decode cX11_read 35 = .ok (.iconst 1, 1) := by decide +kernel
theorem dX11_read_36 : decode cX11_read 36 = .ok (.isub, 1) := by decide +kernel
theorem dX11_read_37 : decode cX11_read 37 = .ok (.invokestatic 289, 3) := by decide +kernel
theorem dX11_read_40 : decode cX11_read 40 = .ok (.ifCond .eq 14, 3) := by decide +kernel
theorem dX11_read_43 : decode cX11_read 43 = .ok (.aload_n 0, 1) := by decide +kernel
theorem dX11_read_44 : decode cX11_read 44 = .ok (.getfield 108, 3) := by decide +kernel
theorem dX11_read_47 : decode cX11_read 47 = .ok (.iconst 0, 1) := by decide +kernel
theorem dX11_read_48 : decode cX11_read 48 = .ok (.iaload, 1) := by decide +kernel
theorem dX11_read_49 : decode cX11_read 49 = .ok (.bipush 8, 2) := by decide +kernel
theorem dX11_read_51 : decode cX11_read 51 = .ok (.if_icmp .ne 5, 3) := by decide +kernel
theorem dX11_read_54 : decode cX11_read 54 = .ok (.iconst 0, 1) := by decide +kernel
theorem dX11_read_55 : decode cX11_read 55 = .ok (.ireturn, 1) := by decide +kernel
theorem dX11_read_56 : decode cX11_read 56 = .ok (.aload_n 0, 1) := by decide +kernel
theorem dX11_read_57 : decode cX11_read 57 = .ok (.getfield 111, 3) := by decide +kernel
theorem dX11_read_60 : decode cX11_read 60 = .ok (.aload_n 0, 1) := by decide +kernel
theorem dX11_read_61 : decode cX11_read 61 = .ok (.getfield 108, 3) := by decide +kernel
theorem dX11_read_64 : decode cX11_read 64 = .ok (.iconst 0, 1) := by decide +kernel
theorem dX11_read_65 : decode cX11_read 65 = .ok (.iaload, 1) := by decide +kernel
theorem dX11_read_66 : decode cX11_read 66 = .ok (.iload_n 1, 1) := by decide +kernel
theorem dX11_read_67 : decode cX11_read 67 = .ok (.iastore, 1) := by decide +kernel
theorem dX11_read_68 : decode cX11_read 68 = .ok (.aload_n 0, 1) := by decide +kernel
theorem dX11_read_69 : decode cX11_read 69 = .ok (.getfield 114, 3) := by decide +kernel
theorem dX11_read_72 : decode cX11_read 72 = .ok (.aload_n 0, 1) := by decide +kernel
theorem dX11_read_73 : decode cX11_read 73 = .ok (.getfield 108, 3) := by decide +kernel
theorem dX11_read_76 : decode cX11_read 76 = .ok (.iconst 0, 1) := by decide +kernel
theorem dX11_read_77 : decode cX11_read 77 = .ok (.iaload, 1) := by decide +kernel
theorem dX11_read_78 : decode cX11_read 78 = .ok (.iload_n 2, 1) := by decide +kernel
theorem dX11_read_79 : decode cX11_read 79 = .ok (.iastore, 1) := by decide +kernel
theorem dX11_read_80 : decode cX11_read 80 = .ok (.aload_n 0, 1) := by decide +kernel
theorem dX11_read_81 : decode cX11_read 81 = .ok (.getfield 117, 3) := by decide +kernel
theorem dX11_read_84 : decode cX11_read 84 = .ok (.aload_n 0, 1) := by decide +kernel
theorem dX11_read_85 : decode cX11_read 85 = .ok (.getfield 108, 3) := by decide +kernel
theorem dX11_read_88 : decode cX11_read 88 = .ok (.iconst 0, 1) := by decide +kernel
theorem dX11_read_89 : decode cX11_read 89 = .ok (.iaload, 1) := by decide +kernel
theorem dX11_read_90 : decode cX11_read 90 = .ok (.iload_n 3, 1) := by decide +kernel
theorem dX11_read_91 : decode cX11_read 91 = .ok (.iastore, 1) := by decide +kernel
theorem dX11_read_92 : decode cX11_read 92 = .ok (.aload_n 0, 1) := by decide +kernel
theorem dX11_read_93 : decode cX11_read 93 = .ok (.getfield 108, 3) := by decide +kernel
theorem dX11_read_96 : decode cX11_read 96 = .ok (.iconst 0, 1) := by decide +kernel
theorem dX11_read_97 : decode cX11_read 97 = .ok (.dup2, 1) := by decide +kernel
theorem dX11_read_98 : decode cX11_read 98 = .ok (.iaload, 1) := by decide +kernel
theorem dX11_read_99 : decode cX11_read 99 = .ok (.iconst 1, 1) := by decide +kernel
theorem dX11_read_100 : decode cX11_read 100 = .ok (.iadd, 1) := by decide +kernel
theorem dX11_read_101 : decode cX11_read 101 = .ok (.iastore, 1) := by decide +kernel
theorem dX11_read_102 : decode cX11_read 102 = .ok (.iconst 1, 1) := by decide +kernel
theorem dX11_read_103 : decode cX11_read 103 = .ok (.ireturn, 1) := by decide +kernel
theorem dX11_isWithin_0 : decode cX11_isWithin 0 = .ok (.iload_n 2, 1) := by decide +kernel
theorem dX11_isWithin_1 : decode cX11_isWithin 1 = .ok (.aload_n 0, 1) := by decide +kernel
theorem dX11_isWithin_2 : decode cX11_isWithin 2 = .ok (.getfield 35, 3) := by decide +kernel
theorem dX11_isWithin_5 : decode cX11_isWithin 5 = .ok (.iconst 4, 1) := by decide +kernel
theorem dX11_isWithin_6 : decode cX11_isWithin 6 = .ok (.iload_n 1, 1) := by decide +kernel
theorem dX11_isWithin_7 : decode cX11_isWithin 7 = .ok (.imul, 1) := by decide +kernel
theorem dX11_isWithin_8 : decode cX11_isWithin 8 = .ok (.iconst 2, 1) := by decide +kernel
theorem dX11_isWithin_9 : decode cX11_isWithin 9 = .ok (.iload_n 3, 1) := by decide +kernel
theorem dX11_isWithin_10 : decode cX11_isWithin 10 = .ok (.imul, 1) := by decide +kernel
theorem dX11_isWithin_11 : decode cX11_isWithin 11 = .ok (.iadd, 1) := by decide +kernel
theorem dX11_isWithin_12 : decode cX11_isWithin 12 = .ok (.iaload, 1) := by decide +kernel
theorem dX11_isWithin_13 : decode cX11_isWithin 13 = .ok (.aload_n 0, 1) := by decide +kernel
theorem dX11_isWithin_14 : decode cX11_isWithin 14 = .ok (.getfield 35, 3) := by decide +kernel
theorem dX11_isWithin_17 : decode cX11_isWithin 17 = .ok (.iconst 4, 1) := by decide +kernel
theorem dX11_isWithin_18 : decode cX11_isWithin 18 = .ok (.iload_n 1, 1) := by decide +kernel
theorem dX11_isWithin_19 : decode cX11_isWithin 19 = .ok (.imul, 1) := by decide +kernel
theorem dX11_isWithin_20 : decode cX11_isWithin 20 = .ok (.iconst 2, 1) := by decide +kernel
theorem dX11_isWithin_21 : decode cX11_isWithin 21 = .ok (.iload_n 3, 1) := by decide +kernel
theorem dX11_isWithin_22 : decode cX11_isWithin 22 = .ok (.imul, 1) := by decide +kernel
theorem dX11_isWithin_23 : decode cX11_isWithin 23 = .ok (.iadd, 1) := by decide +kernel
theorem dX11_isWithin_24 : decode cX11_isWithin 24 = .ok (.iconst 1, 1) := by decide +kernel
theorem dX11_isWithin_25 : decode cX11_isWithin 25 = .ok (.iadd, 1) := by decide +kernel
theorem dX11_isWithin_26 : decode cX11_isWithin 26 = .ok (.iaload, 1) := by decide +kernel
theorem dX11_isWithin_27 : decode cX11_isWithin 27 = .ok (.invokestatic 289, 3) := by decide +kernel
theorem dX11_isWithin_30 : decode cX11_isWithin 30 = .ok (.ireturn, 1) := by decide +kernel
theorem dX11_isAsSeen_0 : decode cX11_isAsSeen 0 = .ok (.aload_n 0, 1) := by decide +kernel
theorem dX11_isAsSeen_1 : decode cX11_isAsSeen 1 = .ok (.getfield 38, 3) := by decide +kernel
theorem dX11_isAsSeen_4 : decode cX11_isAsSeen 4 = .ok (.aload_n 0, 1) := by decide +kernel
theorem dX11_isAsSeen_5 : decode cX11_isAsSeen 5 = .ok (.getfield 111, 3) := by decide +kernel
theorem dX11_isAsSeen_8 : decode cX11_isAsSeen 8 = .ok (.iload_n 1, 1) := by decide +kernel
theorem dX11_isAsSeen_9 : decode cX11_isAsSeen 9 = .ok (.iaload, 1) := by decide +kernel
theorem dX11_isAsSeen_10 : decode cX11_isAsSeen 10 = .ok (.iaload, 1) := by decide +kernel
theorem dX11_isAsSeen_11 : decode cX11_isAsSeen 11 = .ok (.istore_n 2, 1) := by decide +kernel
theorem dX11_isAsSeen_12 : decode cX11_isAsSeen 12 = .ok (.iload_n 2, 1) := by decide +kernel
theorem dX11_isAsSeen_13 : decode cX11_isAsSeen 13 = .ok (.iconst 2, 1) := by decide +kernel
theorem dX11_isAsSeen_14 : decode cX11_isAsSeen 14 = .ok (.if_icmp .ne 28, 3) := by decide +kernel
theorem dX11_isAsSeen_17 : decode cX11_isAsSeen 17 = .ok (.aload_n 0, 1) := by decide +kernel
theorem dX11_isAsSeen_18 : decode cX11_isAsSeen 18 = .ok (.aload_n 0, 1) := by decide +kernel
theorem dX11_isAsSeen_19 : decode cX11_isAsSeen 19 = .ok (.getfield 114, 3) := by decide +kernel
theorem dX11_isAsSeen_22 : decode cX11_isAsSeen 22 = .ok (.iload_n 1, 1) := by decide +kernel
theorem dX11_isAsSeen_23 : decode cX11_isAsSeen 23 = .ok (.iaload, 1) := by decide +kernel
theorem dX11_isAsSeen_24 : decode cX11_isAsSeen 24 = .ok (.invokevirtual 491, 3) := by decide +kernel
theorem dX11_isAsSeen_27 : decode cX11_isAsSeen 27 = .ok (.aload_n 0, 1) := by decide +kernel
theorem dX11_isAsSeen_28 : decode cX11_isAsSeen 28 = .ok (.getfield 117, 3) := by decide +kernel
theorem dX11_isAsSeen_31 : decode cX11_isAsSeen 31 = .ok (.iload_n 1, 1) := by decide +kernel
theorem dX11_isAsSeen_32 : decode cX11_isAsSeen 32 = .ok (.iaload, 1) := by decide +kernel
theorem dX11_isAsSeen_33 : decode cX11_isAsSeen 33 = .ok (.if_icmp .ne 7, 3) := by decide +kernel
theorem dX11_isAsSeen_36 : decode cX11_isAsSeen 36 = .ok (.iconst 1, 1) := by decide +kernel
theorem dX11_isAsSeen_37 : decode cX11_isAsSeen 37 = .ok (.goto 4, 3) := by decide +kernel
theorem dX11_isAsSeen_40 : decode cX11_isAsSeen 40 = .ok (.iconst 0, 1) := by decide +kernel
theorem dX11_isAsSeen_41 : decode cX11_isAsSeen 41 = .ok (.ireturn, 1) := by decide +kernel
theorem dX11_isAsSeen_42 : decode cX11_isAsSeen 42 = .ok (.aload_n 0, 1) := by decide +kernel
theorem dX11_isAsSeen_43 : decode cX11_isAsSeen 43 = .ok (.aload_n 0, 1) := by decide +kernel
theorem dX11_isAsSeen_44 : decode cX11_isAsSeen 44 = .ok (.getfield 114, 3) := by decide +kernel
theorem dX11_isAsSeen_47 : decode cX11_isAsSeen 47 = .ok (.iload_n 1, 1) := by decide +kernel
theorem dX11_isAsSeen_48 : decode cX11_isAsSeen 48 = .ok (.iaload, 1) := by decide +kernel
theorem dX11_isAsSeen_49 : decode cX11_isAsSeen 49 = .ok (.iload_n 2, 1) := by decide +kernel
theorem dX11_isAsSeen_50 : decode cX11_isAsSeen 50 = .ok (.invokevirtual 473, 3) := by decide +kernel
theorem dX11_isAsSeen_53 : decode cX11_isAsSeen 53 = .ok (.istore_n 3, 1) := by decide +kernel
theorem dX11_isAsSeen_54 : decode cX11_isAsSeen 54 = .ok (.aload_n 0, 1) := by decide +kernel
theorem dX11_isAsSeen_55 : decode cX11_isAsSeen 55 = .ok (.getfield 117, 3) := by decide +kernel
theorem dX11_isAsSeen_58 : decode cX11_isAsSeen 58 = .ok (.iload_n 1, 1) := by decide +kernel
theorem dX11_isAsSeen_59 : decode cX11_isAsSeen 59 = .ok (.iaload, 1) := by decide +kernel
theorem dX11_isAsSeen_60 : decode cX11_isAsSeen 60 = .ok (.ifCond .lt 16, 3) := by decide +kernel
theorem dX11_isAsSeen_63 : decode cX11_isAsSeen 63 = .ok (.aload_n 0, 1) := by decide +kernel
theorem dX11_isAsSeen_64 : decode cX11_isAsSeen 64 = .ok (.aload_n 0, 1) := by decide +kernel
theorem dX11_isAsSeen_65 : decode cX11_isAsSeen 65 = .ok (.getfield 117, 3) := by decide +kernel
theorem dX11_isAsSeen_68 : decode cX11_isAsSeen 68 = .ok (.iload_n 1, 1) := by decide +kernel
theorem dX11_isAsSeen_69 : decode cX11_isAsSeen 69 = .ok (.iaload, 1) := by decide +kernel
theorem dX11_isAsSeen_70 : decode cX11_isAsSeen 70 = .ok (.iload_n 3, 1) := by decide +kernel
theorem dX11_isAsSeen_71 : decode cX11_isAsSeen 71 = .ok (.iload_n 2, 1) := by decide +kernel
theorem dX11_isAsSeen_72 : decode cX11_isAsSeen 72 = .ok (.invokevirtual 518, 3) := by decide +kernel
theorem dX11_isAsSeen_75 : decode cX11_isAsSeen 75 = .ok (.ireturn, 1) := by decide +kernel
theorem dX11_isAsSeen_76 : decode cX11_isAsSeen 76 = .ok (.iconst 0, 1) := by decide +kernel
theorem dX11_isAsSeen_77 : decode cX11_isAsSeen 77 = .ok (.istore 4, 2) := by decide +kernel
theorem dX11_isAsSeen_79 : decode cX11_isAsSeen 79 = .ok (.iload 4, 2) := by decide +kernel
theorem dX11_isAsSeen_81 : decode cX11_isAsSeen 81 = .ok (.aload_n 0, 1) := by decide +kernel
theorem dX11_isAsSeen_82 : decode cX11_isAsSeen 82 = .ok (.getfield 13, 3) := by decide +kernel
theorem dX11_isAsSeen_85 : decode cX11_isAsSeen 85 = .ok (.iconst 3, 1) := by decide +kernel
theorem dX11_isAsSeen_86 : decode cX11_isAsSeen 86 = .ok (.iaload, 1) := by decide +kernel
theorem dX11_isAsSeen_87 : decode cX11_isAsSeen 87 = .ok (.if_icmp .ge 22, 3) := by decide +kernel
theorem dX11_isAsSeen_90 : decode cX11_isAsSeen 90 = .ok (.aload_n 0, 1) := by decide +kernel
theorem dX11_isAsSeen_91 : decode cX11_isAsSeen 91 = .ok (.iload 4, 2) := by decide +kernel
theorem dX11_isAsSeen_93 : decode cX11_isAsSeen 93 = .ok (.iload_n 3, 1) := by decide +kernel
theorem dX11_isAsSeen_94 : decode cX11_isAsSeen 94 = .ok (.iload_n 2, 1) := by decide +kernel
theorem dX11_isAsSeen_95 : decode cX11_isAsSeen 95 = .ok (.invokevirtual 518, 3) := by decide +kernel
theorem dX11_isAsSeen_98 : decode cX11_isAsSeen 98 = .ok (.ifCond .eq 5, 3) := by decide +kernel
theorem dX11_isAsSeen_101 : decode cX11_isAsSeen 101 = .ok (.iconst 0, 1) := by decide +kernel
theorem dX11_isAsSeen_102 : decode cX11_isAsSeen 102 = .ok (.ireturn, 1) := by decide +kernel
theorem dX11_isAsSeen_103 : decode cX11_isAsSeen 103 = .ok (.iinc 4 1, 3) := by decide +kernel
theorem dX11_isAsSeen_106 : decode cX11_isAsSeen 106 = .ok (.goto (-27), 3) := by decide +kernel
theorem dX11_isAsSeen_109 : decode cX11_isAsSeen 109 = .ok (.iconst 1, 1) := by decide +kernel
theorem dX11_isAsSeen_110 : decode cX11_isAsSeen 110 = .ok (.ireturn, 1) := by decide +kernel
theorem dX11_isAllSeen_0 : decode cX11_isAllSeen 0 = .ok (.iconst 0, 1) := by decide +kernel
theorem dX11_isAllSeen_1 : decode cX11_isAllSeen 1 = .ok (.istore_n 1, 1) := by decide +kernel
theorem dX11_isAllSeen_2 : decode cX11_isAllSeen 2 = .ok (.iload_n 1, 1) := by decide +kernel
theorem dX11_isAllSeen_3 : decode cX11_isAllSeen 3 = .ok (.aload_n 0, 1) := by decide +kernel
theorem dX11_isAllSeen_4 : decode cX11_isAllSeen 4 = .ok (.getfield 108, 3) := by decide +kernel
theorem dX11_isAllSeen_7 : decode cX11_isAllSeen 7 = .ok (.iconst 0, 1) := by decide +kernel
theorem dX11_isAllSeen_8 : decode cX11_isAllSeen 8 = .ok (.iaload, 1) := by decide +kernel
theorem dX11_isAllSeen_9 : decode cX11_isAllSeen 9 = .ok (.if_icmp .ge 19, 3) := by decide +kernel
theorem dX11_isAllSeen_12 : decode cX11_isAllSeen 12 = .ok (.aload_n 0, 1) := by decide +kernel
theorem dX11_isAllSeen_13 : decode cX11_isAllSeen 13 = .ok (.iload_n 1, 1) := by decide +kernel
theorem dX11_isAllSeen_14 : decode cX11_isAllSeen 14 = .ok (.invokevirtual 521, 3) := by decide +kernel
theorem dX11_isAllSeen_17 : decode cX11_isAllSeen 17 = .ok (.ifCond .ne 5, 3) := by decide +kernel
theorem dX11_isAllSeen_20 : decode cX11_isAllSeen 20 = .ok (.iconst 0, 1) := by decide +kernel
theorem dX11_isAllSeen_21 : decode cX11_isAllSeen 21 = .ok (.ireturn, 1) := by decide +kernel
theorem dX11_isAllSeen_22 : decode cX11_isAllSeen 22 = .ok (.iinc 1 1, 3) := by decide +kernel
theorem dX11_isAllSeen_25 : decode cX11_isAllSeen 25 = .ok (.goto (-23), 3) := by decide +kernel
theorem dX11_isAllSeen_28 : decode cX11_isAllSeen 28 = .ok (.iconst 1, 1) := by decide +kernel
theorem dX11_isAllSeen_29 : decode cX11_isAllSeen 29 = .ok (.ireturn, 1) := by decide +kernel
theorem dX11_allHouses_0 : decode cX11_allHouses 0 = .ok (.iconst 1, 1) := by decide +kernel
theorem dX11_allHouses_1 : decode cX11_allHouses 1 = .ok (.aload_n 0, 1) := by decide +kernel
theorem dX11_allHouses_2 : decode cX11_allHouses 2 = .ok (.getfield 13, 3) := by decide +kernel
theorem dX11_allHouses_5 : decode cX11_allHouses 5 = .ok (.iconst 2, 1) := by decide +kernel
theorem dX11_allHouses_6 : decode cX11_allHouses 6 = .ok (.iaload, 1) := by decide +kernel
theorem dX11_allHouses_7 : decode cX11_allHouses 7 = .ok (.ishl, 1) := by decide +kernel
theorem dX11_allHouses_8 : decode cX11_allHouses 8 = .ok (.iconst 1, 1) := by decide +kernel
theorem dX11_allHouses_9 : decode cX11_allHouses 9 = .ok (.isub, 1) := by decide +kernel
theorem dX11_allHouses_10 : decode cX11_allHouses 10 = .ok (.ireturn, 1) := by decide +kernel
theorem dX11_laysWays_0 : decode cX11_laysWays 0 = .ok (.aload_n 0, 1) := by decide +kernel
theorem dX11_laysWays_1 : decode cX11_laysWays 1 = .ok (.aload_n 0, 1) := by decide +kernel
theorem dX11_laysWays_2 : decode cX11_laysWays 2 = .ok (.invokevirtual 524, 3) := by decide +kernel
theorem dX11_laysWays_5 : decode cX11_laysWays 5 = .ok (.invokevirtual 482, 3) := by decide +kernel
theorem dX11_laysWays_8 : decode cX11_laysWays 8 = .ok (.istore_n 1, 1) := by decide +kernel
theorem dX11_laysWays_9 : decode cX11_laysWays 9 = .ok (.iconst 0, 1) := by decide +kernel
theorem dX11_laysWays_10 : decode cX11_laysWays 10 = .ok (.istore_n 2, 1) := by decide +kernel
theorem dX11_laysWays_11 : decode cX11_laysWays 11 = .ok (.aload_n 0, 1) := by decide +kernel
theorem dX11_laysWays_12 : decode cX11_laysWays 12 = .ok (.iload_n 1, 1) := by decide +kernel
theorem dX11_laysWays_13 : decode cX11_laysWays 13 = .ok (.invokevirtual 485, 3) := by decide +kernel
theorem dX11_laysWays_16 : decode cX11_laysWays 16 = .ok (.iconst 1, 1) := by decide +kernel
theorem dX11_laysWays_17 : decode cX11_laysWays 17 = .ok (.istore_n 3, 1) := by decide +kernel
theorem dX11_laysWays_18 : decode cX11_laysWays 18 = .ok (.iload_n 3, 1) := by decide +kernel
theorem dX11_laysWays_19 : decode cX11_laysWays 19 = .ok (.ifCond .eq 77, 3) := by decide +kernel
theorem dX11_laysWays_22 : decode cX11_laysWays 22 = .ok (.aload_n 0, 1) := by decide +kernel
theorem dX11_laysWays_23 : decode cX11_laysWays 23 = .ok (.invokevirtual 527, 3) := by decide +kernel
theorem dX11_laysWays_26 : decode cX11_laysWays 26 = .ok (.ifCond .eq 61, 3) := by decide +kernel
theorem dX11_laysWays_29 : decode cX11_laysWays 29 = .ok (.iconst 0, 1) := by decide +kernel
theorem dX11_laysWays_30 : decode cX11_laysWays 30 = .ok (.istore 4, 2) := by decide +kernel
theorem dX11_laysWays_32 : decode cX11_laysWays 32 = .ok (.iload 4, 2) := by decide +kernel
theorem dX11_laysWays_34 : decode cX11_laysWays 34 = .ok (.iconst 4, 1) := by decide +kernel
theorem dX11_laysWays_35 : decode cX11_laysWays 35 = .ok (.if_icmp .ge 49, 3) := by decide +kernel
theorem dX11_laysWays_38 : decode cX11_laysWays 38 = .ok (.aload_n 0, 1) := by decide +kernel
theorem dX11_laysWays_39 : decode cX11_laysWays 39 = .ok (.getfield 147, 3) := by decide +kernel
theorem dX11_laysWays_42 : decode cX11_laysWays 42 = .ok (.iload 4, 2) := by decide +kernel
theorem dX11_laysWays_44 : decode cX11_laysWays 44 = .ok (.iload_n 2, 1) := by decide +kernel
theorem dX11_laysWays_45 : decode cX11_laysWays 45 = .ok (.ifCond .eq 20, 3) := by decide +kernel
theorem dX11_laysWays_48 : decode cX11_laysWays 48 = .ok (.aload_n 0, 1) := by decide +kernel
theorem dX11_laysWays_49 : decode cX11_laysWays 49 = .ok (.getfield 147, 3) := by decide +kernel
theorem dX11_laysWays_52 : decode cX11_laysWays 52 = .ok (.iload 4, 2) := by decide +kernel
theorem dX11_laysWays_54 : decode cX11_laysWays 54 = .ok (.iaload, 1) := by decide +kernel
theorem dX11_laysWays_55 : decode cX11_laysWays 55 = .ok (.aload_n 0, 1) := by decide +kernel
theorem dX11_laysWays_56 : decode cX11_laysWays 56 = .ok (.getfield 135, 3) := by decide +kernel
theorem dX11_laysWays_59 : decode cX11_laysWays 59 = .ok (.iload 4, 2) := by decide +kernel
theorem dX11_laysWays_61 : decode cX11_laysWays 61 = .ok (.iaload, 1) := by decide +kernel
theorem dX11_laysWays_62 : decode cX11_laysWays 62 = .ok (.if_icmp .ne 13, 3) := by decide +kernel
theorem dX11_laysWays_65 : decode cX11_laysWays 65 = .ok (.aload_n 0, 1) := by decide +kernel
theorem dX11_laysWays_66 : decode cX11_laysWays 66 = .ok (.getfield 135, 3) := by decide +kernel
theorem dX11_laysWays_69 : decode cX11_laysWays 69 = .ok (.iload 4, 2) := by decide +kernel
theorem dX11_laysWays_71 : decode cX11_laysWays 71 = .ok (.iaload, 1) := by decide +kernel
theorem dX11_laysWays_72 : decode cX11_laysWays 72 = .ok (.goto 5, 3) := by decide +kernel
theorem dX11_laysWays_75 : decode cX11_laysWays 75 = .ok (.bipush 6, 2) := by decide +kernel
theorem dX11_laysWays_77 : decode cX11_laysWays 77 = .ok (.iastore, 1) := by decide +kernel
theorem dX11_laysWays_78 : decode cX11_laysWays 78 = .ok (.iinc 4 1, 3) := by decide +kernel
theorem dX11_laysWays_81 : decode cX11_laysWays 81 = .ok (.goto (-49), 3) := by decide +kernel
theorem dX11_laysWays_84 : decode cX11_laysWays 84 = .ok (.iinc 2 1, 3) := by decide +kernel
theorem dX11_laysWays_87 : decode cX11_laysWays 87 = .ok (.aload_n 0, 1) := by decide +kernel
theorem dX11_laysWays_88 : decode cX11_laysWays 88 = .ok (.iload_n 1, 1) := by decide +kernel
theorem dX11_laysWays_89 : decode cX11_laysWays 89 = .ok (.invokevirtual 494, 3) := by decide +kernel
theorem dX11_laysWays_92 : decode cX11_laysWays 92 = .ok (.istore_n 3, 1) := by decide +kernel
theorem dX11_laysWays_93 : decode cX11_laysWays 93 = .ok (.goto (-75), 3) := by decide +kernel
theorem dX11_laysWays_96 : decode cX11_laysWays 96 = .ok (.iload_n 2, 1) := by decide +kernel
theorem dX11_laysWays_97 : decode cX11_laysWays 97 = .ok (.ireturn, 1) := by decide +kernel
theorem dX11_ways_0 : decode cX11_ways 0 = .ok (.aload_n 0, 1) := by decide +kernel
theorem dX11_ways_1 : decode cX11_ways 1 = .ok (.iconst 0, 1) := by decide +kernel
theorem dX11_ways_2 : decode cX11_ways 2 = .ok (.putfield 156, 3) := by decide +kernel
theorem dX11_ways_5 : decode cX11_ways 5 = .ok (.iload_n 1, 1) := by decide +kernel
theorem dX11_ways_6 : decode cX11_ways 6 = .ok (.iconst (-1), 1) := by decide +kernel
theorem dX11_ways_7 : decode cX11_ways 7 = .ok (.if_icmp .eq 22, 3) := by decide +kernel
theorem dX11_ways_10 : decode cX11_ways 10 = .ok (.aload_n 0, 1) := by decide +kernel
theorem dX11_ways_11 : decode cX11_ways 11 = .ok (.iload_n 1, 1) := by decide +kernel
theorem dX11_ways_12 : decode cX11_ways 12 = .ok (.invokevirtual 432, 3) := by decide +kernel
theorem dX11_ways_15 : decode cX11_ways 15 = .ok (.ifCond .eq 11, 3) := by decide +kernel
theorem dX11_ways_18 : decode cX11_ways 18 = .ok (.aload_n 0, 1) := by decide +kernel
theorem dX11_ways_19 : decode cX11_ways 19 = .ok (.iload_n 1, 1) := by decide +kernel
theorem dX11_ways_20 : decode cX11_ways 20 = .ok (.invokevirtual 404, 3) := by decide +kernel
theorem dX11_ways_23 : decode cX11_ways 23 = .ok (.ifCond .eq 6, 3) := by decide +kernel
theorem dX11_ways_26 : decode cX11_ways 26 = .ok (.bipush (-2), 2) := by decide +kernel
theorem dX11_ways_28 : decode cX11_ways 28 = .ok (.ireturn, 1) := by decide +kernel
theorem dX11_ways_29 : decode cX11_ways 29 = .ok (.aload_n 0, 1) := by decide +kernel
theorem dX11_ways_30 : decode cX11_ways 30 = .ok (.invokevirtual 530, 3) := by decide +kernel
theorem dX11_ways_33 : decode cX11_ways 33 = .ok (.istore_n 2, 1) := by decide +kernel
theorem dX11_ways_34 : decode cX11_ways 34 = .ok (.iload_n 1, 1) := by decide +kernel
theorem dX11_ways_35 : decode cX11_ways 35 = .ok (.iconst (-1), 1) := by decide +kernel
theorem dX11_ways_36 : decode cX11_ways 36 = .ok (.if_icmp .ne 5, 3) := by decide +kernel
theorem dX11_ways_39 : decode cX11_ways 39 = .ok (.iload_n 2, 1) := by decide +kernel
theorem dX11_ways_40 : decode cX11_ways 40 = .ok (.ireturn, 1) := by decide +kernel
theorem dX11_ways_41 : decode cX11_ways 41 = .ok (.iload_n 2, 1) := by decide +kernel
theorem dX11_ways_42 : decode cX11_ways 42 = .ok (.ifCond .eq 14, 3) := by decide +kernel
theorem dX11_ways_45 : decode cX11_ways 45 = .ok (.aload_n 0, 1) := by decide +kernel
theorem dX11_ways_46 : decode cX11_ways 46 = .ok (.getfield 147, 3) := by decide +kernel
theorem dX11_ways_49 : decode cX11_ways 49 = .ok (.iload_n 1, 1) := by decide +kernel
theorem dX11_ways_50 : decode cX11_ways 50 = .ok (.iaload, 1) := by decide +kernel
theorem dX11_ways_51 : decode cX11_ways 51 = .ok (.bipush 6, 2) := by decide +kernel
theorem dX11_ways_53 : decode cX11_ways 53 = .ok (.if_icmp .ne 7, 3) := by decide +kernel
theorem dX11_ways_56 : decode cX11_ways 56 = .ok (.iconst (-1), 1) := by decide +kernel
theorem dX11_ways_57 : decode cX11_ways 57 = .ok (.goto 18, 3) := by decide +kernel
theorem dX11_ways_60 : decode cX11_ways 60 = .ok (.aload_n 0, 1) := by decide +kernel
theorem dX11_ways_61 : decode cX11_ways 61 = .ok (.getfield 147, 3) := by decide +kernel
theorem dX11_ways_64 : decode cX11_ways 64 = .ok (.iload_n 1, 1) := by decide +kernel
theorem dX11_ways_65 : decode cX11_ways 65 = .ok (.iaload, 1) := by decide +kernel
theorem dX11_ways_66 : decode cX11_ways 66 = .ok (.aload_n 0, 1) := by decide +kernel
theorem dX11_ways_67 : decode cX11_ways 67 = .ok (.getfield 13, 3) := by decide +kernel
theorem dX11_ways_70 : decode cX11_ways 70 = .ok (.iconst 0, 1) := by decide +kernel
theorem dX11_ways_71 : decode cX11_ways 71 = .ok (.iaload, 1) := by decide +kernel
theorem dX11_ways_72 : decode cX11_ways 72 = .ok (.invokestatic 414, 3) := by decide +kernel
theorem dX11_ways_75 : decode cX11_ways 75 = .ok (.ireturn, 1) := by decide +kernel
theorem dX11_mostAlike_0 : decode cX11_mostAlike 0 = .ok (.aload_n 0, 1) := by decide +kernel
theorem dX11_mostAlike_1 : decode cX11_mostAlike 1 = .ok (.aload_n 0, 1) := by decide +kernel
theorem dX11_mostAlike_2 : decode cX11_mostAlike 2 = .ok (.invokevirtual 524, 3) := by decide +kernel
theorem dX11_mostAlike_5 : decode cX11_mostAlike 5 = .ok (.invokevirtual 482, 3) := by decide +kernel
theorem dX11_mostAlike_8 : decode cX11_mostAlike 8 = .ok (.istore_n 3, 1) := by decide +kernel
theorem dX11_mostAlike_9 : decode cX11_mostAlike 9 = .ok (.iconst 0, 1) := by decide +kernel
theorem dX11_mostAlike_10 : decode cX11_mostAlike 10 = .ok (.istore 4, 2) := by decide +kernel
theorem dX11_mostAlike_12 : decode cX11_mostAlike 12 = .ok (.iconst 0, 1) := by decide +kernel
theorem dX11_mostAlike_13 : decode cX11_mostAlike 13 = .ok (.istore 5, 2) := by decide +kernel
theorem dX11_mostAlike_15 : decode cX11_mostAlike 15 = .ok (.iload 5, 2) := by decide +kernel
theorem dX11_mostAlike_17 : decode cX11_mostAlike 17 = .ok (.sipush 1001, 3) := by decide +kernel
theorem dX11_mostAlike_20 : decode cX11_mostAlike 20 = .ok (.if_icmp .ge 17, 3) := by decide +kernel
theorem dX11_mostAlike_23 : decode cX11_mostAlike 23 = .ok (.aload_n 0, 1) := by decide +kernel
theorem dX11_mostAlike_24 : decode cX11_mostAlike 24 = .ok (.getfield 150, 3) := by decide +kernel
theorem dX11_mostAlike_27 : decode cX11_mostAlike 27 = .ok (.iload 5, 2) := by decide +kernel
theorem dX11_mostAlike_29 : decode cX11_mostAlike 29 = .ok (.iconst 0, 1) := by decide +kernel
theorem dX11_mostAlike_30 : decode cX11_mostAlike 30 = .ok (.iastore, 1) := by decide +kernel
theorem dX11_mostAlike_31 : decode cX11_mostAlike 31 = .ok (.iinc 5 1, 3) := by decide +kernel
theorem dX11_mostAlike_34 : decode cX11_mostAlike 34 = .ok (.goto (-19), 3) := by decide +kernel
theorem dX11_mostAlike_37 : decode cX11_mostAlike 37 = .ok (.aload_n 0, 1) := by decide +kernel
theorem dX11_mostAlike_38 : decode cX11_mostAlike 38 = .ok (.iload_n 3, 1) := by decide +kernel
theorem dX11_mostAlike_39 : decode cX11_mostAlike 39 = .ok (.invokevirtual 485, 3) := by decide +kernel
theorem dX11_mostAlike_42 : decode cX11_mostAlike 42 = .ok (.iconst 1, 1) := by decide +kernel
theorem dX11_mostAlike_43 : decode cX11_mostAlike 43 = .ok (.istore 5, 2) := by decide +kernel
theorem dX11_mostAlike_45 : decode cX11_mostAlike 45 = .ok (.iload 5, 2) := by decide +kernel
theorem dX11_mostAlike_47 : decode cX11_mostAlike 47 = .ok (.ifCond .eq 78, 3) := by decide +kernel
theorem dX11_mostAlike_50 : decode cX11_mostAlike 50 = .ok (.aload_n 0, 1) := by decide +kernel
theorem dX11_mostAlike_51 : decode cX11_mostAlike 51 = .ok (.invokevirtual 527, 3) := by decide +kernel
theorem dX11_mostAlike_54 : decode cX11_mostAlike 54 = .ok (.ifCond .eq 61, 3) := by decide +kernel
theorem dX11_mostAlike_57 : decode cX11_mostAlike 57 = .ok (.aload_n 0, 1) := by decide +kernel
theorem dX11_mostAlike_58 : decode cX11_mostAlike 58 = .ok (.getfield 38, 3) := by decide +kernel
theorem dX11_mostAlike_61 : decode cX11_mostAlike 61 = .ok (.iload_n 1, 1) := by decide +kernel
theorem dX11_mostAlike_62 : decode cX11_mostAlike 62 = .ok (.iaload, 1) := by decide +kernel
theorem dX11_mostAlike_63 : decode cX11_mostAlike 63 = .ok (.iconst 2, 1) := by decide +kernel
theorem dX11_mostAlike_64 : decode cX11_mostAlike 64 = .ok (.if_icmp .ne 13, 3) := by decide +kernel
theorem dX11_mostAlike_67 : decode cX11_mostAlike 67 = .ok (.iconst 1, 1) := by decide +kernel
theorem dX11_mostAlike_68 : decode cX11_mostAlike 68 = .ok (.aload_n 0, 1) := by decide +kernel
theorem dX11_mostAlike_69 : decode cX11_mostAlike 69 = .ok (.iload_n 2, 1) := by decide +kernel
theorem dX11_mostAlike_70 : decode cX11_mostAlike 70 = .ok (.invokevirtual 491, 3) := by decide +kernel
theorem dX11_mostAlike_73 : decode cX11_mostAlike 73 = .ok (.iadd, 1) := by decide +kernel
theorem dX11_mostAlike_74 : decode cX11_mostAlike 74 = .ok (.goto 14, 3) := by decide +kernel
theorem dX11_mostAlike_77 : decode cX11_mostAlike 77 = .ok (.aload_n 0, 1) := by decide +kernel
theorem dX11_mostAlike_78 : decode cX11_mostAlike 78 = .ok (.iload_n 2, 1) := by decide +kernel
theorem dX11_mostAlike_79 : decode cX11_mostAlike 79 = .ok (.aload_n 0, 1) := by decide +kernel
theorem dX11_mostAlike_80 : decode cX11_mostAlike 80 = .ok (.getfield 38, 3) := by decide +kernel
theorem dX11_mostAlike_83 : decode cX11_mostAlike 83 = .ok (.iload_n 1, 1) := by decide +kernel
theorem dX11_mostAlike_84 : decode cX11_mostAlike 84 = .ok (.iaload, 1) := by decide +kernel
theorem dX11_mostAlike_85 : decode cX11_mostAlike 85 = .ok (.invokevirtual 473, 3) := by decide +kernel
theorem dX11_mostAlike_88 : decode cX11_mostAlike 88 = .ok (.istore 6, 2) := by decide +kernel
theorem dX11_mostAlike_90 : decode cX11_mostAlike 90 = .ok (.aload_n 0, 1) := by decide +kernel
theorem dX11_mostAlike_91 : decode cX11_mostAlike 91 = .ok (.getfield 150, 3) := by decide +kernel
theorem dX11_mostAlike_94 : decode cX11_mostAlike 94 = .ok (.iload 6, 2) := by decide +kernel
theorem dX11_mostAlike_96 : decode cX11_mostAlike 96 = .ok (.dup2, 1) := by decide +kernel
theorem dX11_mostAlike_97 : decode cX11_mostAlike 97 = .ok (.iaload, 1) := by decide +kernel
theorem dX11_mostAlike_98 : decode cX11_mostAlike 98 = .ok (.iconst 1, 1) := by decide +kernel
theorem dX11_mostAlike_99 : decode cX11_mostAlike 99 = .ok (.iadd, 1) := by decide +kernel
theorem dX11_mostAlike_100 : decode cX11_mostAlike 100 = .ok (.iastore, 1) := by decide +kernel
theorem dX11_mostAlike_101 : decode cX11_mostAlike 101 = .ok (.iload 4, 2) := by decide +kernel
theorem dX11_mostAlike_103 : decode cX11_mostAlike 103 = .ok (.aload_n 0, 1) := by decide +kernel
theorem dX11_mostAlike_104 : decode cX11_mostAlike 104 = .ok (.getfield 150, 3) := by decide +kernel
theorem dX11_mostAlike_107 : decode cX11_mostAlike 107 = .ok (.iload 6, 2) := by decide +kernel
theorem dX11_mostAlike_109 : decode cX11_mostAlike 109 = .ok (.iaload, 1) := by decide +kernel
theorem dX11_mostAlike_110 : decode cX11_mostAlike 110 = .ok (.invokestatic 373, 3) := by decide +kernel
theorem dX11_mostAlike_113 : decode cX11_mostAlike 113 = .ok (.istore 4, 2) := by decide +kernel
theorem dX11_mostAlike_115 : decode cX11_mostAlike 115 = .ok (.aload_n 0, 1) := by decide +kernel
theorem dX11_mostAlike_116 : decode cX11_mostAlike 116 = .ok (.iload_n 3, 1) := by decide +kernel
theorem dX11_mostAlike_117 : decode cX11_mostAlike 117 = .ok (.invokevirtual 494, 3) := by decide +kernel
theorem dX11_mostAlike_120 : decode cX11_mostAlike 120 = .ok (.istore 5, 2) := by decide +kernel
theorem dX11_mostAlike_122 : decode cX11_mostAlike 122 = .ok (.goto (-77), 3) := by decide +kernel
theorem dX11_mostAlike_125 : decode cX11_mostAlike 125 = .ok (.iload 4, 2) := by decide +kernel
theorem dX11_mostAlike_127 : decode cX11_mostAlike 127 = .ok (.ireturn, 1) := by decide +kernel
theorem dX11_ask_0 : decode cX11_ask 0 = .ok (.aload_n 0, 1) := by decide +kernel
theorem dX11_ask_1 : decode cX11_ask 1 = .ok (.iconst 0, 1) := by decide +kernel
theorem dX11_ask_2 : decode cX11_ask 2 = .ok (.putfield 156, 3) := by decide +kernel
theorem dX11_ask_5 : decode cX11_ask 5 = .ok (.aload_n 0, 1) := by decide +kernel
theorem dX11_ask_6 : decode cX11_ask 6 = .ok (.invokevirtual 530, 3) := by decide +kernel
theorem dX11_ask_9 : decode cX11_ask 9 = .ok (.istore_n 1, 1) := by decide +kernel
theorem dX11_ask_10 : decode cX11_ask 10 = .ok (.iconst (-1), 1) := by decide +kernel
theorem dX11_ask_11 : decode cX11_ask 11 = .ok (.istore_n 2, 1) := by decide +kernel
theorem dX11_ask_12 : decode cX11_ask 12 = .ok (.iconst 0, 1) := by decide +kernel
theorem dX11_ask_13 : decode cX11_ask 13 = .ok (.istore_n 3, 1) := by decide +kernel
theorem dX11_ask_14 : decode cX11_ask 14 = .ok (.iload_n 3, 1) := by decide +kernel
theorem dX11_ask_15 : decode cX11_ask 15 = .ok (.aload_n 0, 1) := by decide +kernel
theorem dX11_ask_16 : decode cX11_ask 16 = .ok (.getfield 13, 3) := by decide +kernel
theorem dX11_ask_19 : decode cX11_ask 19 = .ok (.iconst 4, 1) := by decide +kernel
theorem dX11_ask_20 : decode cX11_ask 20 = .ok (.iaload, 1) := by decide +kernel
theorem dX11_ask_21 : decode cX11_ask 21 = .ok (.if_icmp .ge 57, 3) := by decide +kernel
theorem dX11_ask_24 : decode cX11_ask 24 = .ok (.iconst 0, 1) := by decide +kernel
theorem dX11_ask_25 : decode cX11_ask 25 = .ok (.istore 4, 2) := by decide +kernel
theorem dX11_ask_27 : decode cX11_ask 27 = .ok (.iload 4, 2) := by decide +kernel
theorem dX11_ask_29 : decode cX11_ask 29 = .ok (.aload_n 0, 1) := by decide +kernel
theorem dX11_ask_30 : decode cX11_ask 30 = .ok (.getfield 13, 3) := by decide +kernel
theorem dX11_ask_33 : decode cX11_ask 33 = .ok (.iconst 1, 1) := by decide +kernel
theorem dX11_ask_34 : decode cX11_ask 34 = .ok (.iaload, 1) := by decide +kernel
theorem dX11_ask_35 : decode cX11_ask 35 = .ok (.if_icmp .ge 37, 3) := by decide +kernel
theorem dX11_ask_38 : decode cX11_ask 38 = .ok (.aload_n 0, 1) := by decide +kernel
theorem dX11_ask_39 : decode cX11_ask 39 = .ok (.iload_n 3, 1) := by decide +kernel
theorem dX11_ask_40 : decode cX11_ask 40 = .ok (.iload 4, 2) := by decide +kernel
theorem dX11_ask_42 : decode cX11_ask 42 = .ok (.invokevirtual 533, 3) := by decide +kernel
theorem dX11_ask_45 : decode cX11_ask 45 = .ok (.istore 5, 2) := by decide +kernel
theorem dX11_ask_47 : decode cX11_ask 47 = .ok (.iload 5, 2) := by decide +kernel
theorem dX11_ask_49 : decode cX11_ask 49 = .ok (.iload_n 1, 1) := by decide +kernel
theorem dX11_ask_50 : decode cX11_ask 50 = .ok (.if_icmp .lt 6, 3) := by decide +kernel
theorem dX11_ask_53 : decode cX11_ask 53 = .ok (.goto 13, 3) := by decide +kernel
theorem dX11_ask_56 : decode cX11_ask 56 = .ok (.iload 5, 2) := by decide +kernel
theorem dX11_ask_58 : decode cX11_ask 58 = .ok (.istore_n 1, 1) := by decide +kernel
theorem dX11_ask_59 : decode cX11_ask 59 = .ok (.iconst 3, 1) := by decide +kernel
theorem dX11_ask_60 : decode cX11_ask 60 = .ok (.iload_n 3, 1) := by decide +kernel
theorem dX11_ask_61 : decode cX11_ask 61 = .ok (.imul, 1) := by decide +kernel
theorem dX11_ask_62 : decode cX11_ask 62 = .ok (.iload 4, 2) := by decide +kernel
theorem dX11_ask_64 : decode cX11_ask 64 = .ok (.iadd, 1) := by decide +kernel
theorem dX11_ask_65 : decode cX11_ask 65 = .ok (.istore_n 2, 1) := by decide +kernel
theorem dX11_ask_66 : decode cX11_ask 66 = .ok (.iinc 4 1, 3) := by decide +kernel
theorem dX11_ask_69 : decode cX11_ask 69 = .ok (.goto (-42), 3) := by decide +kernel
theorem dX11_ask_72 : decode cX11_ask 72 = .ok (.iinc 3 1, 3) := by decide +kernel
theorem dX11_ask_75 : decode cX11_ask 75 = .ok (.goto (-61), 3) := by decide +kernel
theorem dX11_ask_78 : decode cX11_ask 78 = .ok (.iload_n 2, 1) := by decide +kernel
theorem dX11_ask_79 : decode cX11_ask 79 = .ok (.ireturn, 1) := by decide +kernel
theorem dX11_areMet_0 : decode cX11_areMet 0 = .ok (.aload_n 0, 1) := by decide +kernel
theorem dX11_areMet_1 : decode cX11_areMet 1 = .ok (.getfield 35, 3) := by decide +kernel
theorem dX11_areMet_4 : decode cX11_areMet 4 = .ok (.iconst 4, 1) := by decide +kernel
theorem dX11_areMet_5 : decode cX11_areMet 5 = .ok (.iload_n 1, 1) := by decide +kernel
theorem dX11_areMet_6 : decode cX11_areMet 6 = .ok (.imul, 1) := by decide +kernel
theorem dX11_areMet_7 : decode cX11_areMet 7 = .ok (.iconst 2, 1) := by decide +kernel
theorem dX11_areMet_8 : decode cX11_areMet 8 = .ok (.iload_n 3, 1) := by decide +kernel
theorem dX11_areMet_9 : decode cX11_areMet 9 = .ok (.imul, 1) := by decide +kernel
theorem dX11_areMet_10 : decode cX11_areMet 10 = .ok (.iadd, 1) := by decide +kernel
theorem dX11_areMet_11 : decode cX11_areMet 11 = .ok (.iaload, 1) := by decide +kernel
theorem dX11_areMet_12 : decode cX11_areMet 12 = .ok (.aload_n 0, 1) := by decide +kernel
theorem dX11_areMet_13 : decode cX11_areMet 13 = .ok (.getfield 35, 3) := by decide +kernel
theorem dX11_areMet_16 : decode cX11_areMet 16 = .ok (.iconst 4, 1) := by decide +kernel
theorem dX11_areMet_17 : decode cX11_areMet 17 = .ok (.iload_n 2, 1) := by decide +kernel
theorem dX11_areMet_18 : decode cX11_areMet 18 = .ok (.imul, 1) := by decide +kernel
theorem dX11_areMet_19 : decode cX11_areMet 19 = .ok (.iconst 2, 1) := by decide +kernel
theorem dX11_areMet_20 : decode cX11_areMet 20 = .ok (.iload_n 3, 1) := by decide +kernel
theorem dX11_areMet_21 : decode cX11_areMet 21 = .ok (.imul, 1) := by decide +kernel
theorem dX11_areMet_22 : decode cX11_areMet 22 = .ok (.iadd, 1) := by decide +kernel
theorem dX11_areMet_23 : decode cX11_areMet 23 = .ok (.iaload, 1) := by decide +kernel
theorem dX11_areMet_24 : decode cX11_areMet 24 = .ok (.invokestatic 373, 3) := by decide +kernel
theorem dX11_areMet_27 : decode cX11_areMet 27 = .ok (.aload_n 0, 1) := by decide +kernel
theorem dX11_areMet_28 : decode cX11_areMet 28 = .ok (.getfield 35, 3) := by decide +kernel
theorem dX11_areMet_31 : decode cX11_areMet 31 = .ok (.iconst 4, 1) := by decide +kernel
theorem dX11_areMet_32 : decode cX11_areMet 32 = .ok (.iload_n 1, 1) := by decide +kernel
theorem dX11_areMet_33 : decode cX11_areMet 33 = .ok (.imul, 1) := by decide +kernel
theorem dX11_areMet_34 : decode cX11_areMet 34 = .ok (.iconst 2, 1) := by decide +kernel
theorem dX11_areMet_35 : decode cX11_areMet 35 = .ok (.iload_n 3, 1) := by decide +kernel
theorem dX11_areMet_36 : decode cX11_areMet 36 = .ok (.imul, 1) := by decide +kernel
theorem dX11_areMet_37 : decode cX11_areMet 37 = .ok (.iadd, 1) := by decide +kernel
theorem dX11_areMet_38 : decode cX11_areMet 38 = .ok (.iconst 1, 1) := by decide +kernel
theorem dX11_areMet_39 : decode cX11_areMet 39 = .ok (.iadd, 1) := by decide +kernel
theorem dX11_areMet_40 : decode cX11_areMet 40 = .ok (.iaload, 1) := by decide +kernel
theorem dX11_areMet_41 : decode cX11_areMet 41 = .ok (.aload_n 0, 1) := by decide +kernel
theorem dX11_areMet_42 : decode cX11_areMet 42 = .ok (.getfield 35, 3) := by decide +kernel
theorem dX11_areMet_45 : decode cX11_areMet 45 = .ok (.iconst 4, 1) := by decide +kernel
theorem dX11_areMet_46 : decode cX11_areMet 46 = .ok (.iload_n 2, 1) := by decide +kernel
theorem dX11_areMet_47 : decode cX11_areMet 47 = .ok (.imul, 1) := by decide +kernel
theorem dX11_areMet_48 : decode cX11_areMet 48 = .ok (.iconst 2, 1) := by decide +kernel
theorem dX11_areMet_49 : decode cX11_areMet 49 = .ok (.iload_n 3, 1) := by decide +kernel
theorem dX11_areMet_50 : decode cX11_areMet 50 = .ok (.imul, 1) := by decide +kernel
theorem dX11_areMet_51 : decode cX11_areMet 51 = .ok (.iadd, 1) := by decide +kernel
theorem dX11_areMet_52 : decode cX11_areMet 52 = .ok (.iconst 1, 1) := by decide +kernel
theorem dX11_areMet_53 : decode cX11_areMet 53 = .ok (.iadd, 1) := by decide +kernel
theorem dX11_areMet_54 : decode cX11_areMet 54 = .ok (.iaload, 1) := by decide +kernel
theorem dX11_areMet_55 : decode cX11_areMet 55 = .ok (.invokestatic 414, 3) := by decide +kernel
theorem dX11_areMet_58 : decode cX11_areMet 58 = .ok (.if_icmp .gt 7, 3) := by decide +kernel
theorem dX11_areMet_61 : decode cX11_areMet 61 = .ok (.iconst 1, 1) := by decide +kernel
theorem dX11_areMet_62 : decode cX11_areMet 62 = .ok (.goto 4, 3) := by decide +kernel
theorem dX11_areMet_65 : decode cX11_areMet 65 = .ok (.iconst 0, 1) := by decide +kernel
theorem dX11_areMet_66 : decode cX11_areMet 66 = .ok (.ireturn, 1) := by decide +kernel
theorem dX11_blur_0 : decode cX11_blur 0 = .ok (.aload_n 0, 1) := by decide +kernel
theorem dX11_blur_1 : decode cX11_blur 1 = .ok (.iconst 0, 1) := by decide +kernel
theorem dX11_blur_2 : decode cX11_blur 2 = .ok (.putfield 156, 3) := by decide +kernel
theorem dX11_blur_5 : decode cX11_blur 5 = .ok (.aload_n 0, 1) := by decide +kernel
theorem dX11_blur_6 : decode cX11_blur 6 = .ok (.iload_n 1, 1) := by decide +kernel
theorem dX11_blur_7 : decode cX11_blur 7 = .ok (.invokevirtual 509, 3) := by decide +kernel
theorem dX11_blur_10 : decode cX11_blur 10 = .ok (.ifCond .eq 16, 3) := by decide +kernel
theorem dX11_blur_13 : decode cX11_blur 13 = .ok (.aload_n 0, 1) := by decide +kernel
theorem dX11_blur_14 : decode cX11_blur 14 = .ok (.iload_n 2, 1) := by decide +kernel
theorem dX11_blur_15 : decode cX11_blur 15 = .ok (.invokevirtual 509, 3) := by decide +kernel
theorem dX11_blur_18 : decode cX11_blur 18 = .ok (.ifCond .eq 8, 3) := by decide +kernel
theorem dX11_blur_21 : decode cX11_blur 21 = .ok (.iload_n 1, 1) := by decide +kernel
theorem dX11_blur_22 : decode cX11_blur 22 = .ok (.iload_n 2, 1) := by decide +kernel
theorem dX11_blur_23 : decode cX11_blur 23 = .ok (.if_icmp .ne 5, 3) := by decide +kernel
theorem dX11_blur_26 : decode cX11_blur 26 = .ok (.iconst (-1), 1) := by decide +kernel
theorem dX11_blur_27 : decode cX11_blur 27 = .ok (.ireturn, 1) := by decide +kernel
theorem dX11_blur_28 : decode cX11_blur 28 = .ok (.iconst 0, 1) := by decide +kernel
theorem dX11_blur_29 : decode cX11_blur 29 = .ok (.istore_n 3, 1) := by decide +kernel
theorem dX11_blur_30 : decode cX11_blur 30 = .ok (.iconst 0, 1) := by decide +kernel
theorem dX11_blur_31 : decode cX11_blur 31 = .ok (.istore 4, 2) := by decide +kernel
theorem dX11_blur_33 : decode cX11_blur 33 = .ok (.iload 4, 2) := by decide +kernel
theorem dX11_blur_35 : decode cX11_blur 35 = .ok (.aload_n 0, 1) := by decide +kernel
theorem dX11_blur_36 : decode cX11_blur 36 = .ok (.getfield 13, 3) := by decide +kernel
theorem dX11_blur_39 : decode cX11_blur 39 = .ok (.iconst 4, 1) := by decide +kernel
theorem dX11_blur_40 : decode cX11_blur 40 = .ok (.iaload, 1) := by decide +kernel
theorem dX11_blur_41 : decode cX11_blur 41 = .ok (.if_icmp .ge 79, 3) := by decide +kernel
theorem dX11_blur_44 : decode cX11_blur 44 = .ok (.aload_n 0, 1) := by decide +kernel
theorem dX11_blur_45 : decode cX11_blur 45 = .ok (.getfield 38, 3) := by decide +kernel
theorem dX11_blur_48 : decode cX11_blur 48 = .ok (.iload 4, 2) := by decide +kernel
theorem dX11_blur_50 : decode cX11_blur 50 = .ok (.iaload, 1) := by decide +kernel
theorem dX11_blur_51 : decode cX11_blur 51 = .ok (.iconst 2, 1) := by decide +kernel
theorem dX11_blur_52 : decode cX11_blur 52 = .ok (.if_icmp .ne 31, 3) := by decide +kernel
theorem dX11_blur_55 : decode cX11_blur 55 = .ok (.aload_n 0, 1) := by decide +kernel
theorem dX11_blur_56 : decode cX11_blur 56 = .ok (.iload_n 1, 1) := by decide +kernel
theorem dX11_blur_57 : decode cX11_blur 57 = .ok (.iload_n 2, 1) := by decide +kernel
theorem dX11_blur_58 : decode cX11_blur 58 = .ok (.iconst 0, 1) := by decide +kernel
theorem dX11_blur_59 : decode cX11_blur 59 = .ok (.invokevirtual 536, 3) := by decide +kernel
theorem dX11_blur_62 : decode cX11_blur 62 = .ok (.ifCond .eq 17, 3) := by decide +kernel
theorem dX11_blur_65 : decode cX11_blur 65 = .ok (.aload_n 0, 1) := by decide +kernel
theorem dX11_blur_66 : decode cX11_blur 66 = .ok (.iload_n 1, 1) := by decide +kernel
theorem dX11_blur_67 : decode cX11_blur 67 = .ok (.iload_n 2, 1) := by decide +kernel
theorem dX11_blur_68 : decode cX11_blur 68 = .ok (.iconst 1, 1) := by decide +kernel
theorem dX11_blur_69 : decode cX11_blur 69 = .ok (.invokevirtual 536, 3) := by decide +kernel
theorem dX11_blur_72 : decode cX11_blur 72 = .ok (.ifCond .eq 7, 3) := by decide +kernel
theorem dX11_blur_75 : decode cX11_blur 75 = .ok (.iconst 1, 1) := by decide +kernel
theorem dX11_blur_76 : decode cX11_blur 76 = .ok (.goto 20, 3) := by decide +kernel
theorem dX11_blur_79 : decode cX11_blur 79 = .ok (.iconst 0, 1) := by decide +kernel
theorem dX11_blur_80 : decode cX11_blur 80 = .ok (.goto 16, 3) := by decide +kernel
theorem dX11_blur_83 : decode cX11_blur 83 = .ok (.aload_n 0, 1) := by decide +kernel
theorem dX11_blur_84 : decode cX11_blur 84 = .ok (.iload_n 1, 1) := by decide +kernel
theorem dX11_blur_85 : decode cX11_blur 85 = .ok (.iload_n 2, 1) := by decide +kernel
theorem dX11_blur_86 : decode cX11_blur 86 = .ok (.aload_n 0, 1) := by decide +kernel
theorem dX11_blur_87 : decode cX11_blur 87 = .ok (.getfield 38, 3) := by decide +kernel
theorem dX11_blur_90 : decode cX11_blur 90 = .ok (.iload 4, 2) := by decide +kernel
theorem dX11_blur_92 : decode cX11_blur 92 = .ok (.iaload, 1) := by decide +kernel
theorem dX11_blur_93 : decode cX11_blur 93 = .ok (.invokevirtual 536, 3) := by decide +kernel
theorem dX11_blur_96 : decode cX11_blur 96 = .ok (.istore 5, 2) := by decide +kernel
theorem dX11_blur_98 : decode cX11_blur 98 = .ok (.iload_n 3, 1) := by decide +kernel
theorem dX11_blur_99 : decode cX11_blur 99 = .ok (.iload 5, 2) := by decide +kernel
theorem dX11_blur_101 : decode cX11_blur 101 = .ok (.ifCond .eq 10, 3) := by decide +kernel
theorem dX11_blur_104 : decode cX11_blur 104 = .ok (.iconst 1, 1) := by decide +kernel
theorem dX11_blur_105 : decode cX11_blur 105 = .ok (.iload 4, 2) := by decide +kernel
theorem dX11_blur_107 : decode cX11_blur 107 = .ok (.ishl, 1) := by decide +kernel
theorem dX11_blur_108 : decode cX11_blur 108 = .ok (.goto 4, 3) := by decide +kernel
theorem dX11_blur_111 : decode cX11_blur 111 = .ok (.iconst 0, 1) := by decide +kernel
theorem dX11_blur_112 : decode cX11_blur 112 = .ok (.ior, 1) := by decide +kernel
theorem dX11_blur_113 : decode cX11_blur 113 = .ok (.istore_n 3, 1) := by decide +kernel
theorem dX11_blur_114 : decode cX11_blur 114 = .ok (.iinc 4 1, 3) := by decide +kernel
theorem dX11_blur_117 : decode cX11_blur 117 = .ok (.goto (-84), 3) := by decide +kernel
theorem dX11_blur_120 : decode cX11_blur 120 = .ok (.iload_n 3, 1) := by decide +kernel
theorem dX11_blur_121 : decode cX11_blur 121 = .ok (.ireturn, 1) := by decide +kernel
theorem dX11_sootOf_0 : decode cX11_sootOf 0 = .ok (.iconst 0, 1) := by decide +kernel
theorem dX11_sootOf_1 : decode cX11_sootOf 1 = .ok (.istore_n 2, 1) := by decide +kernel
theorem dX11_sootOf_2 : decode cX11_sootOf 2 = .ok (.iconst 0, 1) := by decide +kernel
theorem dX11_sootOf_3 : decode cX11_sootOf 3 = .ok (.istore_n 3, 1) := by decide +kernel
theorem dX11_sootOf_4 : decode cX11_sootOf 4 = .ok (.iconst 0, 1) := by decide +kernel
theorem dX11_sootOf_5 : decode cX11_sootOf 5 = .ok (.istore 4, 2) := by decide +kernel
theorem dX11_sootOf_7 : decode cX11_sootOf 7 = .ok (.iload 4, 2) := by decide +kernel
theorem dX11_sootOf_9 : decode cX11_sootOf 9 = .ok (.aload_n 0, 1) := by decide +kernel
theorem dX11_sootOf_10 : decode cX11_sootOf 10 = .ok (.getfield 13, 3) := by decide +kernel
theorem dX11_sootOf_13 : decode cX11_sootOf 13 = .ok (.iconst 2, 1) := by decide +kernel
theorem dX11_sootOf_14 : decode cX11_sootOf 14 = .ok (.iaload, 1) := by decide +kernel
theorem dX11_sootOf_15 : decode cX11_sootOf 15 = .ok (.if_icmp .ge 57, 3) := by decide +kernel
theorem dX11_sootOf_18 : decode cX11_sootOf 18 = .ok (.iload_n 2, 1) := by decide +kernel
theorem dX11_sootOf_19 : decode cX11_sootOf 19 = .ok (.iload_n 1, 1) := by decide +kernel
theorem dX11_sootOf_20 : decode cX11_sootOf 20 = .ok (.iload 4, 2) := by decide +kernel
theorem dX11_sootOf_22 : decode cX11_sootOf 22 = .ok (.ishr, 1) := by decide +kernel
theorem dX11_sootOf_23 : decode cX11_sootOf 23 = .ok (.iconst 1, 1) := by decide +kernel
theorem dX11_sootOf_24 : decode cX11_sootOf 24 = .ok (.iand, 1) := by decide +kernel
theorem dX11_sootOf_25 : decode cX11_sootOf 25 = .ok (.iconst 1, 1) := by decide +kernel
theorem dX11_sootOf_26 : decode cX11_sootOf 26 = .ok (.if_icmp .ne 13, 3) := by decide +kernel
theorem dX11_sootOf_29 : decode cX11_sootOf 29 = .ok (.aload_n 0, 1) := by decide +kernel
theorem dX11_sootOf_30 : decode cX11_sootOf 30 = .ok (.iload 4, 2) := by decide +kernel
theorem dX11_sootOf_32 : decode cX11_sootOf 32 = .ok (.iconst 0, 1) := by decide +kernel
theorem dX11_sootOf_33 : decode cX11_sootOf 33 = .ok (.invokevirtual 411, 3) := by decide +kernel
theorem dX11_sootOf_36 : decode cX11_sootOf 36 = .ok (.goto 4, 3) := by decide +kernel
theorem dX11_sootOf_39 : decode cX11_sootOf 39 = .ok (.iconst 0, 1) := by decide +kernel
theorem dX11_sootOf_40 : decode cX11_sootOf 40 = .ok (.iadd, 1) := by decide +kernel
theorem dX11_sootOf_41 : decode cX11_sootOf 41 = .ok (.istore_n 2, 1) := by decide +kernel
theorem dX11_sootOf_42 : decode cX11_sootOf 42 = .ok (.iload_n 3, 1) := by decide +kernel
theorem dX11_sootOf_43 : decode cX11_sootOf 43 = .ok (.iload_n 1, 1) := by decide +kernel
theorem dX11_sootOf_44 : decode cX11_sootOf 44 = .ok (.iload 4, 2) := by decide +kernel
theorem dX11_sootOf_46 : decode cX11_sootOf 46 = .ok (.ishr, 1) := by decide +kernel
theorem dX11_sootOf_47 : decode cX11_sootOf 47 = .ok (.iconst 1, 1) := by decide +kernel
theorem dX11_sootOf_48 : decode cX11_sootOf 48 = .ok (.iand, 1) := by decide +kernel
theorem dX11_sootOf_49 : decode cX11_sootOf 49 = .ok (.iconst 1, 1) := by decide +kernel
theorem dX11_sootOf_50 : decode cX11_sootOf 50 = .ok (.if_icmp .ne 13, 3) := by decide +kernel
theorem dX11_sootOf_53 : decode cX11_sootOf 53 = .ok (.aload_n 0, 1) := by decide +kernel
theorem dX11_sootOf_54 : decode cX11_sootOf 54 = .ok (.iload 4, 2) := by decide +kernel
theorem dX11_sootOf_56 : decode cX11_sootOf 56 = .ok (.iconst 1, 1) := by decide +kernel
theorem dX11_sootOf_57 : decode cX11_sootOf 57 = .ok (.invokevirtual 411, 3) := by decide +kernel
theorem dX11_sootOf_60 : decode cX11_sootOf 60 = .ok (.goto 4, 3) := by decide +kernel
theorem dX11_sootOf_63 : decode cX11_sootOf 63 = .ok (.iconst 0, 1) := by decide +kernel
theorem dX11_sootOf_64 : decode cX11_sootOf 64 = .ok (.iadd, 1) := by decide +kernel
theorem dX11_sootOf_65 : decode cX11_sootOf 65 = .ok (.istore_n 3, 1) := by decide +kernel
theorem dX11_sootOf_66 : decode cX11_sootOf 66 = .ok (.iinc 4 1, 3) := by decide +kernel
theorem dX11_sootOf_69 : decode cX11_sootOf 69 = .ok (.goto (-62), 3) := by decide +kernel
theorem dX11_sootOf_72 : decode cX11_sootOf 72 = .ok (.aload_n 0, 1) := by decide +kernel
theorem dX11_sootOf_73 : decode cX11_sootOf 73 = .ok (.sipush 999, 3) := by decide +kernel
theorem dX11_sootOf_76 : decode cX11_sootOf 76 = .ok (.iload_n 2, 1) := by decide +kernel
theorem dX11_sootOf_77 : decode cX11_sootOf 77 = .ok (.invokestatic 414, 3) := by decide +kernel
theorem dX11_sootOf_80 : decode cX11_sootOf 80 = .ok (.sipush 999, 3) := by decide +kernel
theorem dX11_sootOf_83 : decode cX11_sootOf 83 = .ok (.iload_n 3, 1) := by decide +kernel
theorem dX11_sootOf_84 : decode cX11_sootOf 84 = .ok (.invokestatic 414, 3) := by decide +kernel
theorem dX11_sootOf_87 : decode cX11_sootOf 87 = .ok (.invokevirtual 429, 3) := by decide +kernel
theorem dX11_sootOf_90 : decode cX11_sootOf 90 = .ok (.ireturn, 1) := by decide +kernel
theorem dX11_orders_0 : decode cX11_orders 0 = .ok (.iconst 1, 1) := by decide +kernel
theorem dX11_orders_1 : decode cX11_orders 1 = .ok (.istore_n 1, 1) := by decide +kernel
theorem dX11_orders_2 : decode cX11_orders 2 = .ok (.iconst 2, 1) := by decide +kernel
theorem dX11_orders_3 : decode cX11_orders 3 = .ok (.istore_n 2, 1) := by decide +kernel
theorem dX11_orders_4 : decode cX11_orders 4 = .ok (.iload_n 2, 1) := by decide +kernel
theorem dX11_orders_5 : decode cX11_orders 5 = .ok (.iload_n 0, 1) := by decide +kernel
theorem dX11_orders_6 : decode cX11_orders 6 = .ok (.if_icmp .gt 13, 3) := by decide +kernel
theorem dX11_orders_9 : decode cX11_orders 9 = .ok (.iload_n 1, 1) := by decide +kernel
theorem dX11_orders_10 : decode cX11_orders 10 = .ok (.iload_n 2, 1) := by decide +kernel
theorem dX11_orders_11 : decode cX11_orders 11 = .ok (.imul, 1) := by decide +kernel
theorem dX11_orders_12 : decode cX11_orders 12 = .ok (.istore_n 1, 1) := by decide +kernel
theorem dX11_orders_13 : decode cX11_orders 13 = .ok (.iinc 2 1, 3) := by decide +kernel
theorem dX11_orders_16 : decode cX11_orders 16 = .ok (.goto (-12), 3) := by decide +kernel
theorem dX11_orders_19 : decode cX11_orders 19 = .ok (.iload_n 1, 1) := by decide +kernel
theorem dX11_orders_20 : decode cX11_orders 20 = .ok (.ireturn, 1) := by decide +kernel
theorem dX11_bits_0 : decode cX11_bits 0 = .ok (.iload_n 0, 1) := by decide +kernel
theorem dX11_bits_1 : decode cX11_bits 1 = .ok (.iconst 1, 1) := by decide +kernel
theorem dX11_bits_2 : decode cX11_bits 2 = .ok (.iand, 1) := by decide +kernel
theorem dX11_bits_3 : decode cX11_bits 3 = .ok (.iload_n 0, 1) := by decide +kernel
theorem dX11_bits_4 : decode cX11_bits 4 = .ok (.iconst 1, 1) := by decide +kernel
theorem dX11_bits_5 : decode cX11_bits 5 = .ok (.ishr, 1) := by decide +kernel
theorem dX11_bits_6 : decode cX11_bits 6 = .ok (.iconst 1, 1) := by decide +kernel
theorem dX11_bits_7 : decode cX11_bits 7 = .ok (.iand, 1) := by decide +kernel
theorem dX11_bits_8 : decode cX11_bits 8 = .ok (.iadd, 1) := by decide +kernel
theorem dX11_bits_9 : decode cX11_bits 9 = .ok (.iload_n 0, 1) := by decide +kernel
theorem dX11_bits_10 : decode cX11_bits 10 = .ok (.iconst 2, 1) := by decide +kernel
theorem dX11_bits_11 : decode cX11_bits 11 = .ok (.ishr, 1) := by decide +kernel
theorem dX11_bits_12 : decode cX11_bits 12 = .ok (.iconst 1, 1) := by decide +kernel
theorem dX11_bits_13 : decode cX11_bits 13 = .ok (.iand, 1) := by decide +kernel
theorem dX11_bits_14 : decode cX11_bits 14 = .ok (.iadd, 1) := by decide +kernel
theorem dX11_bits_15 : decode cX11_bits 15 = .ok (.iload_n 0, 1) := by decide +kernel
theorem dX11_bits_16 : decode cX11_bits 16 = .ok (.iconst 3, 1) := by decide +kernel
theorem dX11_bits_17 : decode cX11_bits 17 = .ok (.ishr, 1) := by decide +kernel
theorem dX11_bits_18 : decode cX11_bits 18 = .ok (.iconst 1, 1) := by decide +kernel
theorem dX11_bits_19 : decode cX11_bits 19 = .ok (.iand, 1) := by decide +kernel
theorem dX11_bits_20 : decode cX11_bits 20 = .ok (.iadd, 1) := by decide +kernel
theorem dX11_bits_21 : decode cX11_bits 21 = .ok (.ireturn, 1) := by decide +kernel
theorem dX11_share_0 : decode cX11_share 0 = .ok (.aload_n 0, 1) := by decide +kernel
theorem dX11_share_1 : decode cX11_share 1 = .ok (.iconst 0, 1) := by decide +kernel
theorem dX11_share_2 : decode cX11_share 2 = .ok (.putfield 156, 3) := by decide +kernel
theorem dX11_share_5 : decode cX11_share 5 = .ok (.aload_n 0, 1) := by decide +kernel
theorem dX11_share_6 : decode cX11_share 6 = .ok (.iload_n 1, 1) := by decide +kernel
theorem dX11_share_7 : decode cX11_share 7 = .ok (.invokevirtual 432, 3) := by decide +kernel
theorem dX11_share_10 : decode cX11_share 10 = .ok (.ifCond .ne 5, 3) := by decide +kernel
theorem dX11_share_13 : decode cX11_share 13 = .ok (.iconst (-1), 1) := by decide +kernel
theorem dX11_share_14 : decode cX11_share 14 = .ok (.ireturn, 1) := by decide +kernel
theorem dX11_share_15 : decode cX11_share 15 = .ok (.aload_n 0, 1) := by decide +kernel
theorem dX11_share_16 : decode cX11_share 16 = .ok (.aload_n 0, 1) := by decide +kernel
theorem dX11_share_17 : decode cX11_share 17 = .ok (.getfield 29, 3) := by decide +kernel
theorem dX11_share_20 : decode cX11_share 20 = .ok (.iload_n 1, 1) := by decide +kernel
theorem dX11_share_21 : decode cX11_share 21 = .ok (.iaload, 1) := by decide +kernel
theorem dX11_share_22 : decode cX11_share 22 = .ok (.invokevirtual 438, 3) := by decide +kernel
theorem dX11_share_25 : decode cX11_share 25 = .ok (.istore_n 2, 1) := by decide +kernel
theorem dX11_share_26 : decode cX11_share 26 = .ok (.iload_n 2, 1) := by decide +kernel
theorem dX11_share_27 : decode cX11_share 27 = .ok (.invokestatic 539, 3) := by decide +kernel
theorem dX11_share_30 : decode cX11_share 30 = .ok (.istore_n 3, 1) := by decide +kernel
theorem dX11_share_31 : decode cX11_share 31 = .ok (.lconst 0, 1) := by decide +kernel
theorem dX11_share_32 : decode cX11_share 32 = .ok (.lstore 4, 2) := by decide +kernel
theorem dX11_share_34 : decode cX11_share 34 = .ok (.iconst 0, 1) := by decide +kernel
theorem dX11_share_35 : decode cX11_share 35 = .ok (.istore 6, 2) := by decide +kernel
theorem dX11_share_37 : decode cX11_share 37 = .ok (.iload 6, 2) := by decide +kernel
theorem dX11_share_39 : decode cX11_share 39 = .ok (.iload_n 2, 1) := by decide +kernel
theorem dX11_share_40 : decode cX11_share 40 = .ok (.if_icmp .gt 82, 3) := by decide +kernel
theorem dX11_share_43 : decode cX11_share 43 = .ok (.iload 6, 2) := by decide +kernel
theorem dX11_share_45 : decode cX11_share 45 = .ok (.iload_n 2, 1) := by decide +kernel
theorem dX11_share_46 : decode cX11_share 46 = .ok (.iconst (-1), 1) := by decide +kernel
theorem dX11_share_47 : decode cX11_share 47 = .ok (.ixor, 1) := by decide +kernel
theorem dX11_share_48 : decode cX11_share 48 = .ok (.iand, 1) := by decide +kernel
theorem dX11_share_49 : decode cX11_share 49 = .ok (.ifCond .ne 67, 3) := by decide +kernel
theorem dX11_share_52 : decode cX11_share 52 = .ok (.iload 6, 2) := by decide +kernel
theorem dX11_share_54 : decode cX11_share 54 = .ok (.iload_n 1, 1) := by decide +kernel
theorem dX11_share_55 : decode cX11_share 55 = .ok (.ishr, 1) := by decide +kernel
theorem dX11_share_56 : decode cX11_share 56 = .ok (.iconst 1, 1) := by decide +kernel
theorem dX11_share_57 : decode cX11_share 57 = .ok (.iand, 1) := by decide +kernel
theorem dX11_share_58 : decode cX11_share 58 = .ok (.iconst 1, 1) := by decide +kernel
theorem dX11_share_59 : decode cX11_share 59 = .ok (.if_icmp .ne 6, 3) := by decide +kernel
theorem dX11_share_62 : decode cX11_share 62 = .ok (.goto 54, 3) := by decide +kernel
theorem dX11_share_65 : decode cX11_share 65 = .ok (.aload_n 0, 1) := by decide +kernel
theorem dX11_share_66 : decode cX11_share 66 = .ok (.iload 6, 2) := by decide +kernel
theorem dX11_share_68 : decode cX11_share 68 = .ok (.iconst 1, 1) := by decide +kernel
theorem dX11_share_69 : decode cX11_share 69 = .ok (.iload_n 1, 1) := by decide +kernel
theorem dX11_share_70 : decode cX11_share 70 = .ok (.ishl, 1) := by decide +kernel
theorem dX11_share_71 : decode cX11_share 71 = .ok (.ior, 1) := by decide +kernel
theorem dX11_share_72 : decode cX11_share 72 = .ok (.invokevirtual 542, 3) := by decide +kernel
theorem dX11_share_75 : decode cX11_share 75 = .ok (.aload_n 0, 1) := by decide +kernel
theorem dX11_share_76 : decode cX11_share 76 = .ok (.iload 6, 2) := by decide +kernel
theorem dX11_share_78 : decode cX11_share 78 = .ok (.invokevirtual 542, 3) := by decide +kernel
theorem dX11_share_81 : decode cX11_share 81 = .ok (.isub, 1) := by decide +kernel
theorem dX11_share_82 : decode cX11_share 82 = .ok (.i2l, 1) := by decide +kernel
theorem dX11_share_83 : decode cX11_share 83 = .ok (.lstore 7, 2) := by decide +kernel
theorem dX11_share_85 : decode cX11_share 85 = .ok (.lload 4, 2) := by decide +kernel
theorem dX11_share_87 : decode cX11_share 87 = .ok (.lload 7, 2) := by decide +kernel
theorem dX11_share_89 : decode cX11_share 89 = .ok (.iload 6, 2) := by decide +kernel
theorem dX11_share_91 : decode cX11_share 91 = .ok (.invokestatic 539, 3) := by decide +kernel
theorem dX11_share_94 : decode cX11_share 94 = .ok (.invokestatic 545, 3) := by decide +kernel
theorem dX11_share_97 : decode cX11_share 97 = .ok (.i2l, 1) := by decide +kernel
theorem dX11_share_98 : decode cX11_share 98 = .ok (.lmul, 1) := by decide +kernel
theorem dX11_share_99 : decode cX11_share 99 = .ok (.iload_n 3, 1) := by decide +kernel
theorem dX11_share_100 : decode cX11_share 100 = .ok (.iconst 1, 1) := by decide +kernel
theorem dX11_share_101 : decode cX11_share 101 = .ok (.isub, 1) := by decide +kernel
theorem dX11_share_102 : decode cX11_share 102 = .ok (.iload 6, 2) := by decide +kernel
theorem dX11_share_104 : decode cX11_share 104 = .ok (.invokestatic 539, 3) := by decide +kernel
theorem dX11_share_107 : decode cX11_share 107 = .ok (.isub, 1) := by decide +kernel
theorem dX11_share_108 : decode cX11_share 108 = .ok (.invokestatic 545, 3) := by decide +kernel
theorem dX11_share_111 : decode cX11_share 111 = .ok (.i2l, 1) := by decide +kernel
theorem dX11_share_112 : decode cX11_share 112 = .ok (.lmul, 1) := by decide +kernel
theorem dX11_share_113 : decode cX11_share 113 = .ok (.ladd, 1) := by decide +kernel
theorem dX11_share_114 : decode cX11_share 114 = .ok (.lstore 4, 2) := by decide +kernel
theorem dX11_share_116 : decode cX11_share 116 = .ok (.iinc 6 1, 3) := by decide +kernel
theorem dX11_share_119 : decode cX11_share 119 = .ok (.goto (-82), 3) := by decide +kernel
theorem dX11_share_122 : decode cX11_share 122 = .ok (.lload 4, 2) := by decide +kernel
theorem dX11_share_124 : decode cX11_share 124 = .ok (.ldc2_w 548, 3) := by decide +kernel
theorem dX11_share_127 : decode cX11_share 127 = .ok (.lmul, 1) := by decide +kernel
theorem dX11_share_128 : decode cX11_share 128 = .ok (.iload_n 3, 1) := by decide +kernel
theorem dX11_share_129 : decode cX11_share 129 = .ok (.invokestatic 545, 3) := by decide +kernel
theorem dX11_share_132 : decode cX11_share 132 = .ok (.i2l, 1) := by decide +kernel
theorem dX11_share_133 : decode cX11_share 133 = .ok (.ldiv, 1) := by decide +kernel
theorem dX11_share_134 : decode cX11_share 134 = .ok (.l2i, 1) := by decide +kernel
theorem dX11_share_135 : decode cX11_share 135 = .ok (.ireturn, 1) := by decide +kernel
theorem dX11_given_0 : decode cX11_given 0 = .ok (.aload_n 0, 1) := by decide +kernel
theorem dX11_given_1 : decode cX11_given 1 = .ok (.iconst 0, 1) := by decide +kernel
theorem dX11_given_2 : decode cX11_given 2 = .ok (.putfield 156, 3) := by decide +kernel
theorem dX11_given_5 : decode cX11_given 5 = .ok (.aload_n 0, 1) := by decide +kernel
theorem dX11_given_6 : decode cX11_given 6 = .ok (.iload_n 1, 1) := by decide +kernel
theorem dX11_given_7 : decode cX11_given 7 = .ok (.invokevirtual 432, 3) := by decide +kernel
theorem dX11_given_10 : decode cX11_given 10 = .ok (.ifCond .eq 11, 3) := by decide +kernel
theorem dX11_given_13 : decode cX11_given 13 = .ok (.aload_n 0, 1) := by decide +kernel
theorem dX11_given_14 : decode cX11_given 14 = .ok (.iload_n 2, 1) := by decide +kernel
theorem dX11_given_15 : decode cX11_given 15 = .ok (.invokevirtual 445, 3) := by decide +kernel
theorem dX11_given_18 : decode cX11_given 18 = .ok (.ifCond .ne 5, 3) := by decide +kernel
theorem dX11_given_21 : decode cX11_given 21 = .ok (.iconst (-1), 1) := by decide +kernel
theorem dX11_given_22 : decode cX11_given 22 = .ok (.ireturn, 1) := by decide +kernel
theorem dX11_given_23 : decode cX11_given 23 = .ok (.aload_n 0, 1) := by decide +kernel
theorem dX11_given_24 : decode cX11_given 24 = .ok (.aload_n 0, 1) := by decide +kernel
theorem dX11_given_25 : decode cX11_given 25 = .ok (.getfield 29, 3) := by decide +kernel
theorem dX11_given_28 : decode cX11_given 28 = .ok (.iload_n 1, 1) := by decide +kernel
theorem dX11_given_29 : decode cX11_given 29 = .ok (.iaload, 1) := by decide +kernel
theorem dX11_given_30 : decode cX11_given 30 = .ok (.invokevirtual 438, 3) := by decide +kernel
theorem dX11_given_33 : decode cX11_given 33 = .ok (.istore_n 3, 1) := by decide +kernel
theorem dX11_given_34 : decode cX11_given 34 = .ok (.iconst 0, 1) := by decide +kernel
theorem dX11_given_35 : decode cX11_given 35 = .ok (.istore 4, 2) := by decide +kernel
theorem dX11_given_37 : decode cX11_given 37 = .ok (.iconst 0, 1) := by decide +kernel
theorem dX11_given_38 : decode cX11_given 38 = .ok (.istore 5, 2) := by decide +kernel
theorem dX11_given_40 : decode cX11_given 40 = .ok (.iconst 0, 1) := by decide +kernel
theorem dX11_given_41 : decode cX11_given 41 = .ok (.istore 6, 2) := by decide +kernel
theorem dX11_given_43 : decode cX11_given 43 = .ok (.iload 6, 2) := by decide +kernel
theorem dX11_given_45 : decode cX11_given 45 = .ok (.aload_n 0, 1) := by decide +kernel
theorem dX11_given_46 : decode cX11_given 46 = .ok (.getfield 13, 3) := by decide +kernel
theorem dX11_given_49 : decode cX11_given 49 = .ok (.iconst 2, 1) := by decide +kernel
theorem dX11_given_50 : decode cX11_given 50 = .ok (.iaload, 1) := by decide +kernel
theorem dX11_given_51 : decode cX11_given 51 = .ok (.if_icmp .ge 68, 3) := by decide +kernel
theorem dX11_given_54 : decode cX11_given 54 = .ok (.iload 4, 2) := by decide +kernel
theorem dX11_given_56 : decode cX11_given 56 = .ok (.iload_n 3, 1) := by decide +kernel
theorem dX11_given_57 : decode cX11_given 57 = .ok (.iload 6, 2) := by decide +kernel
theorem dX11_given_59 : decode cX11_given 59 = .ok (.ishr, 1) := by decide +kernel
theorem dX11_given_60 : decode cX11_given 60 = .ok (.iconst 1, 1) := by decide +kernel
theorem dX11_given_61 : decode cX11_given 61 = .ok (.iand, 1) := by decide +kernel
theorem dX11_given_62 : decode cX11_given 62 = .ok (.iconst 1, 1) := by decide +kernel
theorem dX11_given_63 : decode cX11_given 63 = .ok (.if_icmp .ne 20, 3) := by decide +kernel
theorem dX11_given_66 : decode cX11_given 66 = .ok (.aload_n 0, 1) := by decide +kernel
theorem dX11_given_67 : decode cX11_given 67 = .ok (.getfield 120, 3) := by decide +kernel
theorem dX11_given_70 : decode cX11_given 70 = .ok (.bipush 9, 2) := by decide +kernel
theorem dX11_given_72 : decode cX11_given 72 = .ok (.iconst 5, 1) := by decide +kernel
theorem dX11_given_73 : decode cX11_given 73 = .ok (.iload 6, 2) := by decide +kernel
theorem dX11_given_75 : decode cX11_given 75 = .ok (.imul, 1) := by decide +kernel
theorem dX11_given_76 : decode cX11_given 76 = .ok (.iadd, 1) := by decide +kernel
theorem dX11_given_77 : decode cX11_given 77 = .ok (.iload_n 2, 1) := by decide +kernel
theorem dX11_given_78 : decode cX11_given 78 = .ok (.iadd, 1) := by decide +kernel
theorem dX11_given_79 : decode cX11_given 79 = .ok (.iaload, 1) := by decide +kernel
theorem dX11_given_80 : decode cX11_given 80 = .ok (.goto 4, 3) := by decide +kernel
theorem dX11_given_83 : decode cX11_given 83 = .ok (.iconst 0, 1) := by decide +kernel
theorem dX11_given_84 : decode cX11_given 84 = .ok (.iadd, 1) := by decide +kernel
theorem dX11_given_85 : decode cX11_given 85 = .ok (.istore 4, 2) := by decide +kernel
theorem dX11_given_87 : decode cX11_given 87 = .ok (.iload 5, 2) := by decide +kernel
theorem dX11_given_89 : decode cX11_given 89 = .ok (.iload_n 3, 1) := by decide +kernel
theorem dX11_given_90 : decode cX11_given 90 = .ok (.iload 6, 2) := by decide +kernel
theorem dX11_given_92 : decode cX11_given 92 = .ok (.ishr, 1) := by decide +kernel
theorem dX11_given_93 : decode cX11_given 93 = .ok (.iconst 1, 1) := by decide +kernel
theorem dX11_given_94 : decode cX11_given 94 = .ok (.iand, 1) := by decide +kernel
theorem dX11_given_95 : decode cX11_given 95 = .ok (.iconst 1, 1) := by decide +kernel
theorem dX11_given_96 : decode cX11_given 96 = .ok (.if_icmp .ne 13, 3) := by decide +kernel
theorem dX11_given_99 : decode cX11_given 99 = .ok (.iload 6, 2) := by decide +kernel
theorem dX11_given_101 : decode cX11_given 101 = .ok (.iload_n 1, 1) := by decide +kernel
theorem dX11_given_102 : decode cX11_given 102 = .ok (.if_icmp .ge 7, 3) := by decide +kernel
theorem dX11_given_105 : decode cX11_given 105 = .ok (.iconst 1, 1) := by decide +kernel
theorem dX11_given_106 : decode cX11_given 106 = .ok (.goto 4, 3) := by decide +kernel
theorem dX11_given_109 : decode cX11_given 109 = .ok (.iconst 0, 1) := by decide +kernel
theorem dX11_given_110 : decode cX11_given 110 = .ok (.iadd, 1) := by decide +kernel
theorem dX11_given_111 : decode cX11_given 111 = .ok (.istore 5, 2) := by decide +kernel
theorem dX11_given_113 : decode cX11_given 113 = .ok (.iinc 6 1, 3) := by decide +kernel
theorem dX11_given_116 : decode cX11_given 116 = .ok (.goto (-73), 3) := by decide +kernel
theorem dX11_given_119 : decode cX11_given 119 = .ok (.iload 4, 2) := by decide +kernel
theorem dX11_given_121 : decode cX11_given 121 = .ok (.iload_n 3, 1) := by decide +kernel
theorem dX11_given_122 : decode cX11_given 122 = .ok (.invokestatic 539, 3) := by decide +kernel
theorem dX11_given_125 : decode cX11_given 125 = .ok (.idiv, 1) := by decide +kernel
theorem dX11_given_126 : decode cX11_given 126 = .ok (.iload 5, 2) := by decide +kernel
theorem dX11_given_128 : decode cX11_given 128 = .ok (.iload 4, 2) := by decide +kernel
theorem dX11_given_130 : decode cX11_given 130 = .ok (.iload_n 3, 1) := by decide +kernel
theorem dX11_given_131 : decode cX11_given 131 = .ok (.invokestatic 539, 3) := by decide +kernel
theorem dX11_given_134 : decode cX11_given 134 = .ok (.irem, 1) := by decide +kernel
theorem dX11_given_135 : decode cX11_given 135 = .ok (.if_icmp .ge 7, 3) := by decide +kernel
theorem dX11_given_138 : decode cX11_given 138 = .ok (.iconst 1, 1) := by decide +kernel
theorem dX11_given_139 : decode cX11_given 139 = .ok (.goto 4, 3) := by decide +kernel
theorem dX11_given_142 : decode cX11_given 142 = .ok (.iconst 0, 1) := by decide +kernel
theorem dX11_given_143 : decode cX11_given 143 = .ok (.iadd, 1) := by decide +kernel
theorem dX11_given_144 : decode cX11_given 144 = .ok (.ireturn, 1) := by decide +kernel
theorem dX11_getsBy_0 : decode cX11_getsBy 0 = .ok (.aload_n 0, 1) := by decide +kernel
theorem dX11_getsBy_1 : decode cX11_getsBy 1 = .ok (.aload_n 0, 1) := by decide +kernel
theorem dX11_getsBy_2 : decode cX11_getsBy 2 = .ok (.getfield 29, 3) := by decide +kernel
theorem dX11_getsBy_5 : decode cX11_getsBy 5 = .ok (.iload_n 1, 1) := by decide +kernel
theorem dX11_getsBy_6 : decode cX11_getsBy 6 = .ok (.iaload, 1) := by decide +kernel
theorem dX11_getsBy_7 : decode cX11_getsBy 7 = .ok (.invokevirtual 491, 3) := by decide +kernel
theorem dX11_getsBy_10 : decode cX11_getsBy 10 = .ok (.iload_n 2, 1) := by decide +kernel
theorem dX11_getsBy_11 : decode cX11_getsBy 11 = .ok (.if_icmp .ne 7, 3) := by decide +kernel
theorem dX11_getsBy_14 : decode cX11_getsBy 14 = .ok (.iload_n 3, 1) := by decide +kernel
theorem dX11_getsBy_15 : decode cX11_getsBy 15 = .ok (.goto 4, 3) := by decide +kernel
theorem dX11_getsBy_18 : decode cX11_getsBy 18 = .ok (.iconst 0, 1) := by decide +kernel
theorem dX11_getsBy_19 : decode cX11_getsBy 19 = .ok (.aload_n 0, 1) := by decide +kernel
theorem dX11_getsBy_20 : decode cX11_getsBy 20 = .ok (.getfield 135, 3) := by decide +kernel
theorem dX11_getsBy_23 : decode cX11_getsBy 23 = .ok (.iload_n 1, 1) := by decide +kernel
theorem dX11_getsBy_24 : decode cX11_getsBy 24 = .ok (.iaload, 1) := by decide +kernel
theorem dX11_getsBy_25 : decode cX11_getsBy 25 = .ok (.iconst 5, 1) := by decide +kernel
theorem dX11_getsBy_26 : decode cX11_getsBy 26 = .ok (.if_icmp .ge 7, 3) := by decide +kernel
theorem dX11_getsBy_29 : decode cX11_getsBy 29 = .ok (.iconst 1, 1) := by decide +kernel
theorem dX11_getsBy_30 : decode cX11_getsBy 30 = .ok (.goto 4, 3) := by decide +kernel
theorem dX11_getsBy_33 : decode cX11_getsBy 33 = .ok (.iconst 0, 1) := by decide +kernel
theorem dX11_getsBy_34 : decode cX11_getsBy 34 = .ok (.isub, 1) := by decide +kernel
theorem dX11_getsBy_35 : decode cX11_getsBy 35 = .ok (.ireturn, 1) := by decide +kernel
theorem dX11_isContent_0 : decode cX11_isContent 0 = .ok (.aload_n 0, 1) := by decide +kernel
theorem dX11_isContent_1 : decode cX11_isContent 1 = .ok (.getfield 135, 3) := by decide +kernel
theorem dX11_isContent_4 : decode cX11_isContent 4 = .ok (.iload_n 1, 1) := by decide +kernel
theorem dX11_isContent_5 : decode cX11_isContent 5 = .ok (.iaload, 1) := by decide +kernel
theorem dX11_isContent_6 : decode cX11_isContent 6 = .ok (.istore 4, 2) := by decide +kernel
theorem dX11_isContent_8 : decode cX11_isContent 8 = .ok (.aload_n 0, 1) := by decide +kernel
theorem dX11_isContent_9 : decode cX11_isContent 9 = .ok (.iload_n 1, 1) := by decide +kernel
theorem dX11_isContent_10 : decode cX11_isContent 10 = .ok (.iload_n 2, 1) := by decide +kernel
theorem dX11_isContent_11 : decode cX11_isContent 11 = .ok (.iload_n 3, 1) := by decide +kernel
theorem dX11_isContent_12 : decode cX11_isContent 12 = .ok (.invokevirtual 550, 3) := by decide +kernel
theorem dX11_isContent_15 : decode cX11_isContent 15 = .ok (.istore 5, 2) := by decide +kernel
theorem dX11_isContent_17 : decode cX11_isContent 17 = .ok (.iconst 1, 1) := by decide +kernel
theorem dX11_isContent_18 : decode cX11_isContent 18 = .ok (.istore 6, 2) := by decide +kernel
theorem dX11_isContent_20 : decode cX11_isContent 20 = .ok (.iconst 0, 1) := by decide +kernel
theorem dX11_isContent_21 : decode cX11_isContent 21 = .ok (.istore 7, 2) := by decide +kernel
theorem dX11_isContent_23 : decode cX11_isContent 23 = .ok (.iload 7, 2) := by decide +kernel
theorem dX11_isContent_25 : decode cX11_isContent 25 = .ok (.iconst 5, 1) := by decide +kernel
theorem dX11_isContent_26 : decode cX11_isContent 26 = .ok (.if_icmp .gt 54, 3) := by decide +kernel
theorem dX11_isContent_29 : decode cX11_isContent 29 = .ok (.iload 6, 2) := by decide +kernel
theorem dX11_isContent_31 : decode cX11_isContent 31 = .ok (.ifCond .eq 49, 3) := by decide +kernel
theorem dX11_isContent_34 : decode cX11_isContent 34 = .ok (.aload_n 0, 1) := by decide +kernel
theorem dX11_isContent_35 : decode cX11_isContent 35 = .ok (.iload_n 1, 1) := by decide +kernel
theorem dX11_isContent_36 : decode cX11_isContent 36 = .ok (.iload 7, 2) := by decide +kernel
theorem dX11_isContent_38 : decode cX11_isContent 38 = .ok (.invokevirtual 476, 3) := by decide +kernel
theorem dX11_isContent_41 : decode cX11_isContent 41 = .ok (.ifCond .ne 6, 3) := by decide +kernel
theorem dX11_isContent_44 : decode cX11_isContent 44 = .ok (.goto 30, 3) := by decide +kernel
theorem dX11_isContent_47 : decode cX11_isContent 47 = .ok (.aload_n 0, 1) := by decide +kernel
theorem dX11_isContent_48 : decode cX11_isContent 48 = .ok (.getfield 135, 3) := by decide +kernel
theorem dX11_isContent_51 : decode cX11_isContent 51 = .ok (.iload_n 1, 1) := by decide +kernel
theorem dX11_isContent_52 : decode cX11_isContent 52 = .ok (.iload 7, 2) := by decide +kernel
theorem dX11_isContent_54 : decode cX11_isContent 54 = .ok (.iastore, 1) := by decide +kernel
theorem dX11_isContent_55 : decode cX11_isContent 55 = .ok (.aload_n 0, 1) := by decide +kernel
theorem dX11_isContent_56 : decode cX11_isContent 56 = .ok (.iload_n 1, 1) := by decide +kernel
theorem dX11_isContent_57 : decode cX11_isContent 57 = .ok (.iload_n 2, 1) := by decide +kernel
theorem dX11_isContent_58 : decode cX11_isContent 58 = .ok (.iload_n 3, 1) := by decide +kernel
theorem dX11_isContent_59 : decode cX11_isContent 59 = .ok (.invokevirtual 550, 3) := by decide +kernel
theorem dX11_isContent_62 : decode cX11_isContent 62 = .ok (.iload 5, 2) := by decide +kernel
theorem dX11_isContent_64 : decode cX11_isContent 64 = .ok (.if_icmp .gt 7, 3) := by decide +kernel
theorem dX11_isContent_67 : decode cX11_isContent 67 = .ok (.iconst 1, 1) := by decide +kernel
theorem dX11_isContent_68 : decode cX11_isContent 68 = .ok (.goto 4, 3) := by decide +kernel
theorem dX11_isContent_71 : decode cX11_isContent 71 = .ok (.iconst 0, 1) := by decide +kernel
theorem dX11_isContent_72 : decode cX11_isContent 72 = .ok (.istore 6, 2) := by decide +kernel
theorem dX11_isContent_74 : decode cX11_isContent 74 = .ok (.iinc 7 1, 3) := by decide +kernel
theorem dX11_isContent_77 : decode cX11_isContent 77 = .ok (.goto (-54), 3) := by decide +kernel
theorem dX11_isContent_80 : decode cX11_isContent 80 = .ok (.aload_n 0, 1) := by decide +kernel
theorem dX11_isContent_81 : decode cX11_isContent 81 = .ok (.getfield 135, 3) := by decide +kernel
theorem dX11_isContent_84 : decode cX11_isContent 84 = .ok (.iload_n 1, 1) := by decide +kernel
theorem dX11_isContent_85 : decode cX11_isContent 85 = .ok (.iload 4, 2) := by decide +kernel
theorem dX11_isContent_87 : decode cX11_isContent 87 = .ok (.iastore, 1) := by decide +kernel
theorem dX11_isContent_88 : decode cX11_isContent 88 = .ok (.iload 6, 2) := by decide +kernel
theorem dX11_isContent_90 : decode cX11_isContent 90 = .ok (.ireturn, 1) := by decide +kernel
theorem dX11_rests_0 : decode cX11_rests 0 = .ok (.aload_n 0, 1) := by decide +kernel
theorem dX11_rests_1 : decode cX11_rests 1 = .ok (.aload_n 0, 1) := by decide +kernel
theorem dX11_rests_2 : decode cX11_rests 2 = .ok (.iload_n 1, 1) := by decide +kernel
theorem dX11_rests_3 : decode cX11_rests 3 = .ok (.invokevirtual 432, 3) := by decide +kernel
theorem dX11_rests_6 : decode cX11_rests 6 = .ok (.ifCond .eq 85, 3) := by decide +kernel
theorem dX11_rests_9 : decode cX11_rests 9 = .ok (.aload_n 0, 1) := by decide +kernel
theorem dX11_rests_10 : decode cX11_rests 10 = .ok (.iload_n 2, 1) := by decide +kernel
theorem dX11_rests_11 : decode cX11_rests 11 = .ok (.invokevirtual 432, 3) := by decide +kernel
theorem dX11_rests_14 : decode cX11_rests 14 = .ok (.ifCond .eq 77, 3) := by decide +kernel
theorem dX11_rests_17 : decode cX11_rests 17 = .ok (.iload_n 1, 1) := by decide +kernel
theorem dX11_rests_18 : decode cX11_rests 18 = .ok (.iload_n 2, 1) := by decide +kernel
theorem dX11_rests_19 : decode cX11_rests 19 = .ok (.if_icmp .eq 72, 3) := by decide +kernel
theorem dX11_rests_22 : decode cX11_rests 22 = .ok (.aload_n 0, 1) := by decide +kernel
theorem dX11_rests_23 : decode cX11_rests 23 = .ok (.getfield 29, 3) := by decide +kernel
theorem dX11_rests_26 : decode cX11_rests 26 = .ok (.iload_n 1, 1) := by decide +kernel
theorem dX11_rests_27 : decode cX11_rests 27 = .ok (.iaload, 1) := by decide +kernel
theorem dX11_rests_28 : decode cX11_rests 28 = .ok (.aload_n 0, 1) := by decide +kernel
theorem dX11_rests_29 : decode cX11_rests 29 = .ok (.getfield 29, 3) := by decide +kernel
theorem dX11_rests_32 : decode cX11_rests 32 = .ok (.iload_n 2, 1) := by decide +kernel
theorem dX11_rests_33 : decode cX11_rests 33 = .ok (.iaload, 1) := by decide +kernel
theorem dX11_rests_34 : decode cX11_rests 34 = .ok (.if_icmp .ne 57, 3) := by decide +kernel
theorem dX11_rests_37 : decode cX11_rests 37 = .ok (.aload_n 0, 1) := by decide +kernel
theorem dX11_rests_38 : decode cX11_rests 38 = .ok (.iload_n 1, 1) := by decide +kernel
theorem dX11_rests_39 : decode cX11_rests 39 = .ok (.invokevirtual 404, 3) := by decide +kernel
theorem dX11_rests_42 : decode cX11_rests 42 = .ok (.ifCond .ne 49, 3) := by decide +kernel
theorem dX11_rests_45 : decode cX11_rests 45 = .ok (.aload_n 0, 1) := by decide +kernel
theorem dX11_rests_46 : decode cX11_rests 46 = .ok (.iload_n 2, 1) := by decide +kernel
theorem dX11_rests_47 : decode cX11_rests 47 = .ok (.invokevirtual 404, 3) := by decide +kernel
theorem dX11_rests_50 : decode cX11_rests 50 = .ok (.ifCond .ne 41, 3) := by decide +kernel
theorem dX11_rests_53 : decode cX11_rests 53 = .ok (.aload_n 0, 1) := by decide +kernel
theorem dX11_rests_54 : decode cX11_rests 54 = .ok (.iload_n 3, 1) := by decide +kernel
theorem dX11_rests_55 : decode cX11_rests 55 = .ok (.invokevirtual 509, 3) := by decide +kernel
theorem dX11_rests_58 : decode cX11_rests 58 = .ok (.ifCond .eq 33, 3) := by decide +kernel
theorem dX11_rests_61 : decode cX11_rests 61 = .ok (.aload_n 0, 1) := by decide +kernel
theorem dX11_rests_62 : decode cX11_rests 62 = .ok (.iload 4, 2) := by decide +kernel
theorem dX11_rests_64 : decode cX11_rests 64 = .ok (.invokevirtual 509, 3) := by decide +kernel
theorem dX11_rests_67 : decode cX11_rests 67 = .ok (.ifCond .eq 24, 3) := by decide +kernel
theorem dX11_rests_70 : decode cX11_rests 70 = .ok (.iload 5, 2) := by decide +kernel
theorem dX11_rests_72 : decode cX11_rests 72 = .ok (.iconst 0, 1) := by decide +kernel
theorem dX11_rests_73 : decode cX11_rests 73 = .ok (.bipush 99, 2) := by decide +kernel
theorem dX11_rests_75 : decode cX11_rests 75 = .ok (.invokestatic 289, 3) := by decide +kernel
theorem dX11_rests_78 : decode cX11_rests 78 = .ok (.ifCond .eq 13, 3) := by decide +kernel
theorem dX11_rests_81 : decode cX11_rests 81 = .ok (.iload 6, 2) := by decide +kernel
theorem dX11_rests_83 : decode cX11_rests 83 = .ok (.iconst (-1), 1) := by decide +kernel
theorem dX11_rests_84 : decode cX11_rests 84 = .ok (.if_icmp .lt 7, 3) := by decide +kernel
theorem dX11_rests_87 : decode cX11_rests 87 = .ok (.iconst 0, 1) := by decide +kernel
theorem dX11_rests_88 : decode cX11_rests 88 = .ok (.goto 4, 3) := by decide +kernel
theorem dX11_rests_91 : decode cX11_rests 91 = .ok (.iconst 1, 1) := by decide +kernel
theorem dX11_rests_92 : decode cX11_rests 92 = .ok (.putfield 156, 3) := by decide +kernel
theorem dX11_rests_95 : decode cX11_rests 95 = .ok (.aload_n 0, 1) := by decide +kernel
theorem dX11_rests_96 : decode cX11_rests 96 = .ok (.getfield 156, 3) := by decide +kernel
theorem dX11_rests_99 : decode cX11_rests 99 = .ok (.iconst 1, 1) := by decide +kernel
theorem dX11_rests_100 : decode cX11_rests 100 = .ok (.if_icmp .ne 5, 3) := by decide +kernel
theorem dX11_rests_103 : decode cX11_rests 103 = .ok (.iconst 0, 1) := by decide +kernel
theorem dX11_rests_104 : decode cX11_rests 104 = .ok (.ireturn, 1) := by decide +kernel
theorem dX11_rests_105 : decode cX11_rests 105 = .ok (.iconst 0, 1) := by decide +kernel
theorem dX11_rests_106 : decode cX11_rests 106 = .ok (.istore 7, 2) := by decide +kernel
theorem dX11_rests_108 : decode cX11_rests 108 = .ok (.aload_n 0, 1) := by decide +kernel
theorem dX11_rests_109 : decode cX11_rests 109 = .ok (.invokevirtual 553, 3) := by decide +kernel
theorem dX11_rests_112 : decode cX11_rests 112 = .ok (.iconst 0, 1) := by decide +kernel
theorem dX11_rests_113 : decode cX11_rests 113 = .ok (.istore 8, 2) := by decide +kernel
theorem dX11_rests_115 : decode cX11_rests 115 = .ok (.iload 8, 2) := by decide +kernel
theorem dX11_rests_117 : decode cX11_rests 117 = .ok (.bipush 36, 2) := by decide +kernel
theorem dX11_rests_119 : decode cX11_rests 119 = .ok (.if_icmp .ge 129, 3) := by decide +kernel
theorem dX11_rests_122 : decode cX11_rests 122 = .ok (.aload_n 0, 1) := by decide +kernel
theorem dX11_rests_123 : decode cX11_rests 123 = .ok (.iload_n 1, 1) := by decide +kernel
theorem dX11_rests_124 : decode cX11_rests 124 = .ok (.iload 8, 2) := by decide +kernel
theorem dX11_rests_126 : decode cX11_rests 126 = .ok (.bipush 6, 2) := by decide +kernel
theorem dX11_rests_128 : decode cX11_rests 128 = .ok (.idiv, 1) := by decide +kernel
theorem dX11_rests_129 : decode cX11_rests 129 = .ok (.invokevirtual 476, 3) := by decide +kernel
theorem dX11_rests_132 : decode cX11_rests 132 = .ok (.ifCond .eq 110, 3) := by decide +kernel
theorem dX11_rests_135 : decode cX11_rests 135 = .ok (.aload_n 0, 1) := by decide +kernel
theorem dX11_rests_136 : decode cX11_rests 136 = .ok (.iload_n 2, 1) := by decide +kernel
theorem dX11_rests_137 : decode cX11_rests 137 = .ok (.iload 8, 2) := by decide +kernel
theorem dX11_rests_139 : decode cX11_rests 139 = .ok (.bipush 6, 2) := by decide +kernel
theorem dX11_rests_141 : decode cX11_rests 141 = .ok (.irem, 1) := by decide +kernel
theorem dX11_rests_142 : decode cX11_rests 142 = .ok (.invokevirtual 476, 3) := by decide +kernel
theorem dX11_rests_145 : decode cX11_rests 145 = .ok (.ifCond .ne 6, 3) := by decide +kernel
theorem dX11_rests_148 : decode cX11_rests 148 = .ok (.goto 94, 3) := by decide +kernel
theorem dX11_rests_151 : decode cX11_rests 151 = .ok (.aload_n 0, 1) := by decide +kernel
theorem dX11_rests_152 : decode cX11_rests 152 = .ok (.getfield 135, 3) := by decide +kernel
theorem dX11_rests_155 : decode cX11_rests 155 = .ok (.iload_n 1, 1) := by decide +kernel
theorem dX11_rests_156 : decode cX11_rests 156 = .ok (.iload 8, 2) := by decide +kernel
theorem dX11_rests_158 : decode cX11_rests 158 = .ok (.bipush 6, 2) := by decide +kernel
theorem dX11_rests_160 : decode cX11_rests 160 = .ok (.idiv, 1) := by decide +kernel
theorem dX11_rests_161 : decode cX11_rests 161 = .ok (.iastore, 1) := by decide +kernel
theorem dX11_rests_162 : decode cX11_rests 162 = .ok (.aload_n 0, 1) := by decide +kernel
theorem dX11_rests_163 : decode cX11_rests 163 = .ok (.getfield 135, 3) := by decide +kernel
theorem dX11_rests_166 : decode cX11_rests 166 = .ok (.iload_n 2, 1) := by decide +kernel
theorem dX11_rests_167 : decode cX11_rests 167 = .ok (.iload 8, 2) := by decide +kernel
theorem dX11_rests_169 : decode cX11_rests 169 = .ok (.bipush 6, 2) := by decide +kernel
theorem dX11_rests_171 : decode cX11_rests 171 = .ok (.irem, 1) := by decide +kernel
theorem dX11_rests_172 : decode cX11_rests 172 = .ok (.iastore, 1) := by decide +kernel
theorem dX11_rests_173 : decode cX11_rests 173 = .ok (.aload_n 0, 1) := by decide +kernel
theorem dX11_rests_174 : decode cX11_rests 174 = .ok (.iload_n 1, 1) := by decide +kernel
theorem dX11_rests_175 : decode cX11_rests 175 = .ok (.iload_n 3, 1) := by decide +kernel
theorem dX11_rests_176 : decode cX11_rests 176 = .ok (.iload 5, 2) := by decide +kernel
theorem dX11_rests_178 : decode cX11_rests 178 = .ok (.invokevirtual 556, 3) := by decide +kernel
theorem dX11_rests_181 : decode cX11_rests 181 = .ok (.ifCond .eq 61, 3) := by decide +kernel
theorem dX11_rests_184 : decode cX11_rests 184 = .ok (.aload_n 0, 1) := by decide +kernel
theorem dX11_rests_185 : decode cX11_rests 185 = .ok (.iload_n 2, 1) := by decide +kernel
theorem dX11_rests_186 : decode cX11_rests 186 = .ok (.iload 4, 2) := by decide +kernel
theorem dX11_rests_188 : decode cX11_rests 188 = .ok (.iload 5, 2) := by decide +kernel
theorem dX11_rests_190 : decode cX11_rests 190 = .ok (.invokevirtual 556, 3) := by decide +kernel
theorem dX11_rests_193 : decode cX11_rests 193 = .ok (.ifCond .ne 6, 3) := by decide +kernel
theorem dX11_rests_196 : decode cX11_rests 196 = .ok (.goto 46, 3) := by decide +kernel
theorem dX11_rests_199 : decode cX11_rests 199 = .ok (.iload 7, 2) := by decide +kernel
theorem dX11_rests_201 : decode cX11_rests 201 = .ok (.iload 6, 2) := by decide +kernel
theorem dX11_rests_203 : decode cX11_rests 203 = .ok (.if_icmp .ne 36, 3) := by decide +kernel
theorem dX11_rests_206 : decode cX11_rests 206 = .ok (.bipush 10, 2) := by decide +kernel
theorem dX11_rests_208 : decode cX11_rests 208 = .ok (.iload 8, 2) := by decide +kernel
theorem dX11_rests_210 : decode cX11_rests 210 = .ok (.bipush 6, 2) := by decide +kernel
theorem dX11_rests_212 : decode cX11_rests 212 = .ok (.idiv, 1) := by decide +kernel
theorem dX11_rests_213 : decode cX11_rests 213 = .ok (.aload_n 0, 1) := by decide +kernel
theorem dX11_rests_214 : decode cX11_rests 214 = .ok (.getfield 13, 3) := by decide +kernel
theorem dX11_rests_217 : decode cX11_rests 217 = .ok (.iconst 0, 1) := by decide +kernel
theorem dX11_rests_218 : decode cX11_rests 218 = .ok (.iaload, 1) := by decide +kernel
theorem dX11_rests_219 : decode cX11_rests 219 = .ok (.invokestatic 414, 3) := by decide +kernel
theorem dX11_rests_222 : decode cX11_rests 222 = .ok (.imul, 1) := by decide +kernel
theorem dX11_rests_223 : decode cX11_rests 223 = .ok (.iload 8, 2) := by decide +kernel
theorem dX11_rests_225 : decode cX11_rests 225 = .ok (.bipush 6, 2) := by decide +kernel
theorem dX11_rests_227 : decode cX11_rests 227 = .ok (.irem, 1) := by decide +kernel
theorem dX11_rests_228 : decode cX11_rests 228 = .ok (.aload_n 0, 1) := by decide +kernel
theorem dX11_rests_229 : decode cX11_rests 229 = .ok (.getfield 13, 3) := by decide +kernel
theorem dX11_rests_232 : decode cX11_rests 232 = .ok (.iconst 0, 1) := by decide +kernel
theorem dX11_rests_233 : decode cX11_rests 233 = .ok (.iaload, 1) := by decide +kernel
theorem dX11_rests_234 : decode cX11_rests 234 = .ok (.invokestatic 414, 3) := by decide +kernel
theorem dX11_rests_237 : decode cX11_rests 237 = .ok (.iadd, 1) := by decide +kernel
theorem dX11_rests_238 : decode cX11_rests 238 = .ok (.ireturn, 1) := by decide +kernel
theorem dX11_rests_239 : decode cX11_rests 239 = .ok (.iinc 7 1, 3) := by decide +kernel
theorem dX11_rests_242 : decode cX11_rests 242 = .ok (.iinc 8 1, 3) := by decide +kernel
theorem dX11_rests_245 : decode cX11_rests 245 = .ok (.goto (-130), 3) := by decide +kernel
theorem dX11_rests_248 : decode cX11_rests 248 = .ok (.aload_n 0, 1) := by decide +kernel
theorem dX11_rests_249 : decode cX11_rests 249 = .ok (.iload 6, 2) := by decide +kernel
theorem dX11_rests_251 : decode cX11_rests 251 = .ok (.iconst (-1), 1) := by decide +kernel
theorem dX11_rests_252 : decode cX11_rests 252 = .ok (.if_icmp .ne 7, 3) := by decide +kernel
theorem dX11_rests_255 : decode cX11_rests 255 = .ok (.iconst 0, 1) := by decide +kernel
theorem dX11_rests_256 : decode cX11_rests 256 = .ok (.goto 4, 3) := by decide +kernel
theorem dX11_rests_259 : decode cX11_rests 259 = .ok (.iconst 1, 1) := by decide +kernel
theorem dX11_rests_260 : decode cX11_rests 260 = .ok (.putfield 156, 3) := by decide +kernel
theorem dX11_rests_263 : decode cX11_rests 263 = .ok (.iload 6, 2) := by decide +kernel
theorem dX11_rests_265 : decode cX11_rests 265 = .ok (.iconst (-1), 1) := by decide +kernel
theorem dX11_rests_266 : decode cX11_rests 266 = .ok (.if_icmp .ne 8, 3) := by decide +kernel
theorem dX11_rests_269 : decode cX11_rests 269 = .ok (.iload 7, 2) := by decide +kernel
theorem dX11_rests_271 : decode cX11_rests 271 = .ok (.goto 4, 3) := by decide +kernel
theorem dX11_rests_274 : decode cX11_rests 274 = .ok (.iconst 0, 1) := by decide +kernel
theorem dX11_rests_275 : decode cX11_rests 275 = .ok (.ireturn, 1) := by decide +kernel
theorem dX11_draws_0 : decode cX11_draws 0 = .ok (.aload_n 0, 1) := by decide +kernel
theorem dX11_draws_1 : decode cX11_draws 1 = .ok (.aload_n 0, 1) := by decide +kernel
theorem dX11_draws_2 : decode cX11_draws 2 = .ok (.getfield 559, 3) := by decide +kernel
theorem dX11_draws_5 : decode cX11_draws 5 = .ok (.ldc2_w 562, 3) := by decide +kernel
theorem dX11_draws_8 : decode cX11_draws 8 = .ok (.lmul, 1) := by decide +kernel
theorem dX11_draws_9 : decode cX11_draws 9 = .ok (.ldc2_w 564, 3) := by decide +kernel
theorem dX11_draws_12 : decode cX11_draws 12 = .ok (.ladd, 1) := by decide +kernel
theorem dX11_draws_13 : decode cX11_draws 13 = .ok (.ldc2_w 566, 3) := by decide +kernel
theorem dX11_draws_16 : decode cX11_draws 16 = .ok (.lrem, 1) := by decide +kernel
theorem dX11_draws_17 : decode cX11_draws 17 = .ok (.putfield 559, 3) := by decide +kernel
theorem dX11_draws_20 : decode cX11_draws 20 = .ok (.aload_n 0, 1) := by decide +kernel
theorem dX11_draws_21 : decode cX11_draws 21 = .ok (.getfield 559, 3) := by decide +kernel
theorem dX11_draws_24 : decode cX11_draws 24 = .ok (.ldc2_w 568, 3) := by decide +kernel
theorem dX11_draws_27 : decode cX11_draws 27 = .ok (.ldiv, 1) := by decide +kernel
theorem dX11_draws_28 : decode cX11_draws 28 = .ok (.iload_n 1, 1) := by decide +kernel
theorem dX11_draws_29 : decode cX11_draws 29 = .ok (.i2l, 1) := by decide +kernel
theorem dX11_draws_30 : decode cX11_draws 30 = .ok (.lrem, 1) := by decide +kernel
theorem dX11_draws_31 : decode cX11_draws 31 = .ok (.l2i, 1) := by decide +kernel
theorem dX11_draws_32 : decode cX11_draws 32 = .ok (.ireturn, 1) := by decide +kernel
theorem dX11_stocks_0 : decode cX11_stocks 0 = .ok (.iconst 0, 1) := by decide +kernel
theorem dX11_stocks_1 : decode cX11_stocks 1 = .ok (.istore_n 1, 1) := by decide +kernel
theorem dX11_stocks_2 : decode cX11_stocks 2 = .ok (.iconst 0, 1) := by decide +kernel
theorem dX11_stocks_3 : decode cX11_stocks 3 = .ok (.istore_n 2, 1) := by decide +kernel
theorem dX11_stocks_4 : decode cX11_stocks 4 = .ok (.iload_n 2, 1) := by decide +kernel
theorem dX11_stocks_5 : decode cX11_stocks 5 = .ok (.bipush 20, 2) := by decide +kernel
theorem dX11_stocks_7 : decode cX11_stocks 7 = .ok (.if_icmp .ge 21, 3) := by decide +kernel
theorem dX11_stocks_10 : decode cX11_stocks 10 = .ok (.iload_n 1, 1) := by decide +kernel
theorem dX11_stocks_11 : decode cX11_stocks 11 = .ok (.aload_n 0, 1) := by decide +kernel
theorem dX11_stocks_12 : decode cX11_stocks 12 = .ok (.getfield 120, 3) := by decide +kernel
theorem dX11_stocks_15 : decode cX11_stocks 15 = .ok (.bipush 9, 2) := by decide +kernel
theorem dX11_stocks_17 : decode cX11_stocks 17 = .ok (.iload_n 2, 1) := by decide +kernel
theorem dX11_stocks_18 : decode cX11_stocks 18 = .ok (.iadd, 1) := by decide +kernel
theorem dX11_stocks_19 : decode cX11_stocks 19 = .ok (.iaload, 1) := by decide +kernel
theorem dX11_stocks_20 : decode cX11_stocks 20 = .ok (.iadd, 1) := by decide +kernel
theorem dX11_stocks_21 : decode cX11_stocks 21 = .ok (.istore_n 1, 1) := by decide +kernel
theorem dX11_stocks_22 : decode cX11_stocks 22 = .ok (.iinc 2 1, 3) := by decide +kernel
theorem dX11_stocks_25 : decode cX11_stocks 25 = .ok (.goto (-21), 3) := by decide +kernel
theorem dX11_stocks_28 : decode cX11_stocks 28 = .ok (.iload_n 1, 1) := by decide +kernel
theorem dX11_stocks_29 : decode cX11_stocks 29 = .ok (.ireturn, 1) := by decide +kernel
theorem dX11_years_0 : decode cX11_years 0 = .ok (.aload_n 0, 1) := by decide +kernel
theorem dX11_years_1 : decode cX11_years 1 = .ok (.iconst 0, 1) := by decide +kernel
theorem dX11_years_2 : decode cX11_years 2 = .ok (.putfield 156, 3) := by decide +kernel
theorem dX11_years_5 : decode cX11_years 5 = .ok (.iload_n 1, 1) := by decide +kernel
theorem dX11_years_6 : decode cX11_years 6 = .ok (.iconst 0, 1) := by decide +kernel
theorem dX11_years_7 : decode cX11_years 7 = .ok (.sipush 9999, 3) := by decide +kernel
theorem dX11_years_10 : decode cX11_years 10 = .ok (.invokestatic 289, 3) := by decide +kernel
theorem dX11_years_13 : decode cX11_years 13 = .ok (.ifCond .eq 22, 3) := by decide +kernel
theorem dX11_years_16 : decode cX11_years 16 = .ok (.iload_n 2, 1) := by decide +kernel
theorem dX11_years_17 : decode cX11_years 17 = .ok (.iconst 1, 1) := by decide +kernel
theorem dX11_years_18 : decode cX11_years 18 = .ok (.bipush 99, 2) := by decide +kernel
theorem dX11_years_20 : decode cX11_years 20 = .ok (.invokestatic 289, 3) := by decide +kernel
theorem dX11_years_23 : decode cX11_years 23 = .ok (.ifCond .eq 12, 3) := by decide +kernel
theorem dX11_years_26 : decode cX11_years 26 = .ok (.iload_n 3, 1) := by decide +kernel
theorem dX11_years_27 : decode cX11_years 27 = .ok (.iconst 0, 1) := by decide +kernel
theorem dX11_years_28 : decode cX11_years 28 = .ok (.iconst 2, 1) := by decide +kernel
theorem dX11_years_29 : decode cX11_years 29 = .ok (.invokestatic 289, 3) := by decide +kernel
theorem dX11_years_32 : decode cX11_years 32 = .ok (.ifCond .ne 5, 3) := by decide +kernel
theorem dX11_years_35 : decode cX11_years 35 = .ok (.iconst (-1), 1) := by decide +kernel
theorem dX11_years_36 : decode cX11_years 36 = .ok (.ireturn, 1) := by decide +kernel
theorem dX11_years_37 : decode cX11_years 37 = .ok (.aload_n 0, 1) := by decide +kernel
theorem dX11_years_38 : decode cX11_years 38 = .ok (.iload_n 1, 1) := by decide +kernel
theorem dX11_years_39 : decode cX11_years 39 = .ok (.i2l, 1) := by decide +kernel
theorem dX11_years_40 : decode cX11_years 40 = .ok (.putfield 559, 3) := by decide +kernel
theorem dX11_years_43 : decode cX11_years 43 = .ok (.aload_n 0, 1) := by decide +kernel
theorem dX11_years_44 : decode cX11_years 44 = .ok (.getfield 120, 3) := by decide +kernel
theorem dX11_years_47 : decode cX11_years 47 = .ok (.iconst 0, 1) := by decide +kernel
theorem dX11_years_48 : decode cX11_years 48 = .ok (.aload_n 0, 1) := by decide +kernel
theorem dX11_years_49 : decode cX11_years 49 = .ok (.getfield 123, 3) := by decide +kernel
theorem dX11_years_52 : decode cX11_years 52 = .ok (.iconst 0, 1) := by decide +kernel
theorem dX11_years_53 : decode cX11_years 53 = .ok (.invokestatic 441, 3) := by decide +kernel
theorem dX11_years_56 : decode cX11_years 56 = .ok (.iconst 0, 1) := by decide +kernel
theorem dX11_years_57 : decode cX11_years 57 = .ok (.istore 4, 2) := by decide +kernel
theorem dX11_years_59 : decode cX11_years 59 = .ok (.iconst 0, 1) := by decide +kernel
theorem dX11_years_60 : decode cX11_years 60 = .ok (.istore 5, 2) := by decide +kernel
theorem dX11_years_62 : decode cX11_years 62 = .ok (.iconst 0, 1) := by decide +kernel
theorem dX11_years_63 : decode cX11_years 63 = .ok (.istore 6, 2) := by decide +kernel
theorem dX11_years_65 : decode cX11_years 65 = .ok (.iload 6, 2) := by decide +kernel
theorem dX11_years_67 : decode cX11_years 67 = .ok (.iload_n 2, 1) := by decide +kernel
theorem dX11_years_68 : decode cX11_years 68 = .ok (.if_icmp .ge 103, 3) := by decide +kernel
theorem dX11_years_71 : decode cX11_years 71 = .ok (.iconst 0, 1) := by decide +kernel
theorem dX11_years_72 : decode cX11_years 72 = .ok (.istore 7, 2) := by decide +kernel
theorem dX11_years_74 : decode cX11_years 74 = .ok (.iload 7, 2) := by decide +kernel
theorem dX11_years_76 : decode cX11_years 76 = .ok (.aload_n 0, 1) := by decide +kernel
theorem dX11_years_77 : decode cX11_years 77 = .ok (.getfield 13, 3) := by decide +kernel
theorem dX11_years_80 : decode cX11_years 80 = .ok (.iconst 2, 1) := by decide +kernel
theorem dX11_years_81 : decode cX11_years 81 = .ok (.iaload, 1) := by decide +kernel
theorem dX11_years_82 : decode cX11_years 82 = .ok (.if_icmp .ge 60, 3) := by decide +kernel
theorem dX11_years_85 : decode cX11_years 85 = .ok (.aload_n 0, 1) := by decide +kernel
theorem dX11_years_86 : decode cX11_years 86 = .ok (.getfield 13, 3) := by decide +kernel
theorem dX11_years_89 : decode cX11_years 89 = .ok (.iconst 0, 1) := by decide +kernel
theorem dX11_years_90 : decode cX11_years 90 = .ok (.iaload, 1) := by decide +kernel
theorem dX11_years_91 : decode cX11_years 91 = .ok (.ifCond .le 51, 3) := by decide +kernel
theorem dX11_years_94 : decode cX11_years 94 = .ok (.aload_n 0, 1) := by decide +kernel
theorem dX11_years_95 : decode cX11_years 95 = .ok (.aload_n 0, 1) := by decide +kernel
theorem dX11_years_96 : decode cX11_years 96 = .ok (.getfield 13, 3) := by decide +kernel
theorem dX11_years_99 : decode cX11_years 99 = .ok (.iconst 0, 1) := by decide +kernel
theorem dX11_years_100 : decode cX11_years 100 = .ok (.iaload, 1) := by decide +kernel
theorem dX11_years_101 : decode cX11_years 101 = .ok (.iconst 1, 1) := by decide +kernel
theorem dX11_years_102 : decode cX11_years 102 = .ok (.iadd, 1) := by decide +kernel
theorem dX11_years_103 : decode cX11_years 103 = .ok (.invokevirtual 570, 3) := by decide +kernel
theorem dX11_years_106 : decode cX11_years 106 = .ok (.istore 8, 2) := by decide +kernel
theorem dX11_years_108 : decode cX11_years 108 = .ok (.aload_n 0, 1) := by decide +kernel
theorem dX11_years_109 : decode cX11_years 109 = .ok (.iload 8, 2) := by decide +kernel
theorem dX11_years_111 : decode cX11_years 111 = .ok (.invokevirtual 445, 3) := by decide +kernel
theorem dX11_years_114 : decode cX11_years 114 = .ok (.ifCond .eq 22, 3) := by decide +kernel
theorem dX11_years_117 : decode cX11_years 117 = .ok (.aload_n 0, 1) := by decide +kernel
theorem dX11_years_118 : decode cX11_years 118 = .ok (.iload 7, 2) := by decide +kernel
theorem dX11_years_120 : decode cX11_years 120 = .ok (.iload 8, 2) := by decide +kernel
theorem dX11_years_122 : decode cX11_years 122 = .ok (.invokevirtual 448, 3) := by decide +kernel
theorem dX11_years_125 : decode cX11_years 125 = .ok (.ifCond .eq 11, 3) := by decide +kernel
theorem dX11_years_128 : decode cX11_years 128 = .ok (.aload_n 0, 1) := by decide +kernel
theorem dX11_years_129 : decode cX11_years 129 = .ok (.iload 7, 2) := by decide +kernel
theorem dX11_years_131 : decode cX11_years 131 = .ok (.iload 8, 2) := by decide +kernel
theorem dX11_years_133 : decode cX11_years 133 = .ok (.invokevirtual 454, 3) := by decide +kernel
theorem dX11_years_136 : decode cX11_years 136 = .ok (.iinc 7 1, 3) := by decide +kernel
theorem dX11_years_139 : decode cX11_years 139 = .ok (.goto (-65), 3) := by decide +kernel
theorem dX11_years_142 : decode cX11_years 142 = .ok (.aload_n 0, 1) := by decide +kernel
theorem dX11_years_143 : decode cX11_years 143 = .ok (.invokevirtual 461, 3) := by decide +kernel
theorem dX11_years_146 : decode cX11_years 146 = .ok (.pop, 1) := by decide +kernel
theorem dX11_years_147 : decode cX11_years 147 = .ok (.iload 4, 2) := by decide +kernel
theorem dX11_years_149 : decode cX11_years 149 = .ok (.aload_n 0, 1) := by decide +kernel
theorem dX11_years_150 : decode cX11_years 150 = .ok (.getfield 417, 3) := by decide +kernel
theorem dX11_years_153 : decode cX11_years 153 = .ok (.iadd, 1) := by decide +kernel
theorem dX11_years_154 : decode cX11_years 154 = .ok (.istore 4, 2) := by decide +kernel
theorem dX11_years_156 : decode cX11_years 156 = .ok (.iload 5, 2) := by decide +kernel
theorem dX11_years_158 : decode cX11_years 158 = .ok (.aload_n 0, 1) := by decide +kernel
theorem dX11_years_159 : decode cX11_years 159 = .ok (.getfield 420, 3) := by decide +kernel
theorem dX11_years_162 : decode cX11_years 162 = .ok (.iadd, 1) := by decide +kernel
theorem dX11_years_163 : decode cX11_years 163 = .ok (.istore 5, 2) := by decide +kernel
theorem dX11_years_165 : decode cX11_years 165 = .ok (.iinc 6 1, 3) := by decide +kernel
theorem dX11_years_168 : decode cX11_years 168 = .ok (.goto (-103), 3) := by decide +kernel
theorem dX11_years_171 : decode cX11_years 171 = .ok (.aload_n 0, 1) := by decide +kernel
theorem dX11_years_172 : decode cX11_years 172 = .ok (.invokevirtual 573, 3) := by decide +kernel
theorem dX11_years_175 : decode cX11_years 175 = .ok (.istore 6, 2) := by decide +kernel
theorem dX11_years_177 : decode cX11_years 177 = .ok (.aload_n 0, 1) := by decide +kernel
theorem dX11_years_178 : decode cX11_years 178 = .ok (.getfield 123, 3) := by decide +kernel
theorem dX11_years_181 : decode cX11_years 181 = .ok (.iconst 0, 1) := by decide +kernel
theorem dX11_years_182 : decode cX11_years 182 = .ok (.aload_n 0, 1) := by decide +kernel
theorem dX11_years_183 : decode cX11_years 183 = .ok (.getfield 120, 3) := by decide +kernel
theorem dX11_years_186 : decode cX11_years 186 = .ok (.iconst 0, 1) := by decide +kernel
theorem dX11_years_187 : decode cX11_years 187 = .ok (.invokestatic 441, 3) := by decide +kernel
theorem dX11_years_190 : decode cX11_years 190 = .ok (.iload_n 3, 1) := by decide +kernel
theorem dX11_years_191 : decode cX11_years 191 = .ok (.ifCond .ne 8, 3) := by decide +kernel
theorem dX11_years_194 : decode cX11_years 194 = .ok (.iload 4, 2) := by decide +kernel
theorem dX11_years_196 : decode cX11_years 196 = .ok (.goto 15, 3) := by decide +kernel
theorem dX11_years_199 : decode cX11_years 199 = .ok (.iload_n 3, 1) := by decide +kernel
theorem dX11_years_200 : decode cX11_years 200 = .ok (.iconst 1, 1) := by decide +kernel
theorem dX11_years_201 : decode cX11_years 201 = .ok (.if_icmp .ne 8, 3) := by decide +kernel
theorem dX11_years_204 : decode cX11_years 204 = .ok (.iload 5, 2) := by decide +kernel
theorem dX11_years_206 : decode cX11_years 206 = .ok (.goto 5, 3) := by decide +kernel
theorem dX11_years_209 : decode cX11_years 209 = .ok (.iload 6, 2) := by decide +kernel
theorem dX11_years_211 : decode cX11_years 211 = .ok (.ireturn, 1) := by decide +kernel
theorem dX11_mark_0 : decode cX11_mark 0 = .ok (.aload_n 0, 1) := by decide +kernel
theorem dX11_mark_1 : decode cX11_mark 1 = .ok (.iconst 0, 1) := by decide +kernel
theorem dX11_mark_2 : decode cX11_mark 2 = .ok (.putfield 156, 3) := by decide +kernel
theorem dX11_mark_5 : decode cX11_mark 5 = .ok (.iload_n 1, 1) := by decide +kernel
theorem dX11_mark_6 : decode cX11_mark 6 = .ok (.iconst 0, 1) := by decide +kernel
theorem dX11_mark_7 : decode cX11_mark 7 = .ok (.iconst 3, 1) := by decide +kernel
theorem dX11_mark_8 : decode cX11_mark 8 = .ok (.invokestatic 289, 3) := by decide +kernel
theorem dX11_mark_11 : decode cX11_mark 11 = .ok (.ifCond .eq 16, 3) := by decide +kernel
theorem dX11_mark_14 : decode cX11_mark 14 = .ok (.iload_n 2, 1) := by decide +kernel
theorem dX11_mark_15 : decode cX11_mark 15 = .ok (.ifCond .eq 14, 3) := by decide +kernel
theorem dX11_mark_18 : decode cX11_mark 18 = .ok (.aload_n 0, 1) := by decide +kernel
theorem dX11_mark_19 : decode cX11_mark 19 = .ok (.getfield 132, 3) := by decide +kernel
theorem dX11_mark_22 : decode cX11_mark 22 = .ok (.iload_n 1, 1) := by decide +kernel
theorem dX11_mark_23 : decode cX11_mark 23 = .ok (.baload, 1) := by decide +kernel
theorem dX11_mark_24 : decode cX11_mark 24 = .ok (.ifCond .ne 5, 3) := by decide +kernel
theorem dX11_mark_27 : decode cX11_mark 27 = .ok (.iconst 0, 1) := by decide +kernel
theorem dX11_mark_28 : decode cX11_mark 28 = .ok (.ireturn, 1) := by decide +kernel
theorem dX11_mark_29 : decode cX11_mark 29 = .ok (.aload_n 0, 1) := by decide +kernel
theorem dX11_mark_30 : decode cX11_mark 30 = .ok (.getfield 132, 3) := by decide +kernel
theorem dX11_mark_33 : decode cX11_mark 33 = .ok (.iload_n 1, 1) := by decide +kernel
theorem dX11_mark_34 : decode cX11_mark 34 = .ok (.iconst 1, 1) := by decide +kernel
theorem dX11_mark_35 : decode cX11_mark 35 = .ok (.bastore, 1) := by decide +kernel
theorem dX11_mark_36 : decode cX11_mark 36 = .ok (.iload_n 2, 1) := by decide +kernel
theorem dX11_mark_37 : decode cX11_mark 37 = .ok (.ifCond .eq 9, 3) := by decide +kernel
theorem dX11_mark_40 : decode cX11_mark 40 = .ok (.iconst 1, 1) := by decide +kernel
theorem dX11_mark_41 : decode cX11_mark 41 = .ok (.iload_n 1, 1) := by decide +kernel
theorem dX11_mark_42 : decode cX11_mark 42 = .ok (.iadd, 1) := by decide +kernel
theorem dX11_mark_43 : decode cX11_mark 43 = .ok (.goto 4, 3) := by decide +kernel
theorem dX11_mark_46 : decode cX11_mark 46 = .ok (.iconst 0, 1) := by decide +kernel
theorem dX11_mark_47 : decode cX11_mark 47 = .ok (.istore_n 3, 1) := by decide +kernel
theorem dX11_mark_48 : decode cX11_mark 48 = .ok (.iload_n 2, 1) := by decide +kernel
theorem dX11_mark_49 : decode cX11_mark 49 = .ok (.ifCond .eq 7, 3) := by decide +kernel
theorem dX11_mark_52 : decode cX11_mark 52 = .ok (.iconst 0, 1) := by decide +kernel
theorem dX11_mark_53 : decode cX11_mark 53 = .ok (.goto 6, 3) := by decide +kernel
theorem dX11_mark_56 : decode cX11_mark 56 = .ok (.iconst 1, 1) := by decide +kernel
theorem dX11_mark_57 : decode cX11_mark 57 = .ok (.iload_n 1, 1) := by decide +kernel
theorem dX11_mark_58 : decode cX11_mark 58 = .ok (.iadd, 1) := by decide +kernel
theorem dX11_mark_59 : decode cX11_mark 59 = .ok (.istore 4, 2) := by decide +kernel
theorem dX11_mark_61 : decode cX11_mark 61 = .ok (.aload_n 0, 1) := by decide +kernel
theorem dX11_mark_62 : decode cX11_mark 62 = .ok (.iload_n 3, 1) := by decide +kernel
theorem dX11_mark_63 : decode cX11_mark 63 = .ok (.iload 4, 2) := by decide +kernel
theorem dX11_mark_65 : decode cX11_mark 65 = .ok (.invokevirtual 390, 3) := by decide +kernel
theorem dX11_mark_68 : decode cX11_mark 68 = .ok (.aload_n 0, 1) := by decide +kernel
theorem dX11_mark_69 : decode cX11_mark 69 = .ok (.iload_n 3, 1) := by decide +kernel
theorem dX11_mark_70 : decode cX11_mark 70 = .ok (.iload 4, 2) := by decide +kernel
theorem dX11_mark_72 : decode cX11_mark 72 = .ok (.invokevirtual 576, 3) := by decide +kernel
theorem dX11_mark_75 : decode cX11_mark 75 = .ok (.iload_n 2, 1) := by decide +kernel
theorem dX11_mark_76 : decode cX11_mark 76 = .ok (.ifCond .eq 27, 3) := by decide +kernel
theorem dX11_mark_79 : decode cX11_mark 79 = .ok (.aload_n 0, 1) := by decide +kernel
theorem dX11_mark_80 : decode cX11_mark 80 = .ok (.getfield 126, 3) := by decide +kernel
theorem dX11_mark_83 : decode cX11_mark 83 = .ok (.bipush 32, 2) := by decide +kernel
theorem dX11_mark_85 : decode cX11_mark 85 = .ok (.iload_n 1, 1) := by decide +kernel
theorem dX11_mark_86 : decode cX11_mark 86 = .ok (.imul, 1) := by decide +kernel
theorem dX11_mark_87 : decode cX11_mark 87 = .ok (.aload_n 0, 1) := by decide +kernel
theorem dX11_mark_88 : decode cX11_mark 88 = .ok (.getfield 120, 3) := by decide +kernel
theorem dX11_mark_91 : decode cX11_mark 91 = .ok (.iconst 0, 1) := by decide +kernel
theorem dX11_mark_92 : decode cX11_mark 92 = .ok (.invokestatic 441, 3) := by decide +kernel
theorem dX11_mark_95 : decode cX11_mark 95 = .ok (.aload_n 0, 1) := by decide +kernel
theorem dX11_mark_96 : decode cX11_mark 96 = .ok (.iconst 0, 1) := by decide +kernel
theorem dX11_mark_97 : decode cX11_mark 97 = .ok (.putfield 384, 3) := by decide +kernel
theorem dX11_mark_100 : decode cX11_mark 100 = .ok (.goto 19, 3) := by decide +kernel
theorem dX11_mark_103 : decode cX11_mark 103 = .ok (.aload_n 0, 1) := by decide +kernel
theorem dX11_mark_104 : decode cX11_mark 104 = .ok (.getfield 120, 3) := by decide +kernel
theorem dX11_mark_107 : decode cX11_mark 107 = .ok (.iconst 0, 1) := by decide +kernel
theorem dX11_mark_108 : decode cX11_mark 108 = .ok (.aload_n 0, 1) := by decide +kernel
theorem dX11_mark_109 : decode cX11_mark 109 = .ok (.getfield 126, 3) := by decide +kernel
theorem dX11_mark_112 : decode cX11_mark 112 = .ok (.bipush 32, 2) := by decide +kernel
theorem dX11_mark_114 : decode cX11_mark 114 = .ok (.iload_n 1, 1) := by decide +kernel
theorem dX11_mark_115 : decode cX11_mark 115 = .ok (.imul, 1) := by decide +kernel
theorem dX11_mark_116 : decode cX11_mark 116 = .ok (.invokestatic 441, 3) := by decide +kernel
theorem dX11_mark_119 : decode cX11_mark 119 = .ok (.iconst 1, 1) := by decide +kernel
theorem dX11_mark_120 : decode cX11_mark 120 = .ok (.ireturn, 1) := by decide +kernel
theorem dX11_fires_0 : decode cX11_fires 0 = .ok (.iconst 0, 1) := by decide +kernel
theorem dX11_fires_1 : decode cX11_fires 1 = .ok (.istore_n 1, 1) := by decide +kernel
theorem dX11_fires_2 : decode cX11_fires 2 = .ok (.iconst 0, 1) := by decide +kernel
theorem dX11_fires_3 : decode cX11_fires 3 = .ok (.istore_n 2, 1) := by decide +kernel
theorem dX11_fires_4 : decode cX11_fires 4 = .ok (.iload_n 2, 1) := by decide +kernel
theorem dX11_fires_5 : decode cX11_fires 5 = .ok (.aload_n 0, 1) := by decide +kernel
theorem dX11_fires_6 : decode cX11_fires 6 = .ok (.getfield 13, 3) := by decide +kernel
theorem dX11_fires_9 : decode cX11_fires 9 = .ok (.iconst 2, 1) := by decide +kernel
theorem dX11_fires_10 : decode cX11_fires 10 = .ok (.iaload, 1) := by decide +kernel
theorem dX11_fires_11 : decode cX11_fires 11 = .ok (.if_icmp .ge 27, 3) := by decide +kernel
theorem dX11_fires_14 : decode cX11_fires 14 = .ok (.iload_n 1, 1) := by decide +kernel
theorem dX11_fires_15 : decode cX11_fires 15 = .ok (.aload_n 0, 1) := by decide +kernel
theorem dX11_fires_16 : decode cX11_fires 16 = .ok (.iload_n 2, 1) := by decide +kernel
theorem dX11_fires_17 : decode cX11_fires 17 = .ok (.invokevirtual 404, 3) := by decide +kernel
theorem dX11_fires_20 : decode cX11_fires 20 = .ok (.ifCond .eq 9, 3) := by decide +kernel
theorem dX11_fires_23 : decode cX11_fires 23 = .ok (.iconst 1, 1) := by decide +kernel
theorem dX11_fires_24 : decode cX11_fires 24 = .ok (.iload_n 2, 1) := by decide +kernel
theorem dX11_fires_25 : decode cX11_fires 25 = .ok (.ishl, 1) := by decide +kernel
theorem dX11_fires_26 : decode cX11_fires 26 = .ok (.goto 4, 3) := by decide +kernel
theorem dX11_fires_29 : decode cX11_fires 29 = .ok (.iconst 0, 1) := by decide +kernel
theorem dX11_fires_30 : decode cX11_fires 30 = .ok (.ior, 1) := by decide +kernel
theorem dX11_fires_31 : decode cX11_fires 31 = .ok (.istore_n 1, 1) := by decide +kernel
theorem dX11_fires_32 : decode cX11_fires 32 = .ok (.iinc 2 1, 3) := by decide +kernel
theorem dX11_fires_35 : decode cX11_fires 35 = .ok (.goto (-31), 3) := by decide +kernel
theorem dX11_fires_38 : decode cX11_fires 38 = .ok (.iload_n 1, 1) := by decide +kernel
theorem dX11_fires_39 : decode cX11_fires 39 = .ok (.ireturn, 1) := by decide +kernel
theorem dX11_count_0 : decode cX11_count 0 = .ok (.aload_n 0, 1) := by decide +kernel
theorem dX11_count_1 : decode cX11_count 1 = .ok (.iconst 0, 1) := by decide +kernel
theorem dX11_count_2 : decode cX11_count 2 = .ok (.putfield 156, 3) := by decide +kernel
theorem dX11_count_5 : decode cX11_count 5 = .ok (.iload_n 1, 1) := by decide +kernel
theorem dX11_count_6 : decode cX11_count 6 = .ok (.iconst 0, 1) := by decide +kernel
theorem dX11_count_7 : decode cX11_count 7 = .ok (.bipush 13, 2) := by decide +kernel
theorem dX11_count_9 : decode cX11_count 9 = .ok (.invokestatic 289, 3) := by decide +kernel
theorem dX11_count_12 : decode cX11_count 12 = .ok (.ifCond .ne 5, 3) := by decide +kernel
theorem dX11_count_15 : decode cX11_count 15 = .ok (.iconst (-1), 1) := by decide +kernel
theorem dX11_count_16 : decode cX11_count 16 = .ok (.ireturn, 1) := by decide +kernel
theorem dX11_count_17 : decode cX11_count 17 = .ok (.iload_n 1, 1) := by decide +kernel
theorem dX11_count_18 : decode cX11_count 18 = .ok (.iconst 5, 1) := by decide +kernel
theorem dX11_count_19 : decode cX11_count 19 = .ok (.if_icmp .ge 10, 3) := by decide +kernel
theorem dX11_count_22 : decode cX11_count 22 = .ok (.aload_n 0, 1) := by decide +kernel
theorem dX11_count_23 : decode cX11_count 23 = .ok (.getfield 13, 3) := by decide +kernel
theorem dX11_count_26 : decode cX11_count 26 = .ok (.iload_n 1, 1) := by decide +kernel
theorem dX11_count_27 : decode cX11_count 27 = .ok (.iaload, 1) := by decide +kernel
theorem dX11_count_28 : decode cX11_count 28 = .ok (.ireturn, 1) := by decide +kernel
theorem dX11_count_29 : decode cX11_count 29 = .ok (.iload_n 1, 1) := by decide +kernel
theorem dX11_count_30 : decode cX11_count 30 = .ok (.bipush 8, 2) := by decide +kernel
theorem dX11_count_32 : decode cX11_count 32 = .ok (.if_icmp .ge 41, 3) := by decide +kernel
theorem dX11_count_35 : decode cX11_count 35 = .ok (.iload_n 1, 1) := by decide +kernel
theorem dX11_count_36 : decode cX11_count 36 = .ok (.iconst 5, 1) := by decide +kernel
theorem dX11_count_37 : decode cX11_count 37 = .ok (.if_icmp .ne 12, 3) := by decide +kernel
theorem dX11_count_40 : decode cX11_count 40 = .ok (.aload_n 0, 1) := by decide +kernel
theorem dX11_count_41 : decode cX11_count 41 = .ok (.getfield 120, 3) := by decide +kernel
theorem dX11_count_44 : decode cX11_count 44 = .ok (.iconst 0, 1) := by decide +kernel
theorem dX11_count_45 : decode cX11_count 45 = .ok (.iaload, 1) := by decide +kernel
theorem dX11_count_46 : decode cX11_count 46 = .ok (.goto 26, 3) := by decide +kernel
theorem dX11_count_49 : decode cX11_count 49 = .ok (.iload_n 1, 1) := by decide +kernel
theorem dX11_count_50 : decode cX11_count 50 = .ok (.bipush 6, 2) := by decide +kernel
theorem dX11_count_52 : decode cX11_count 52 = .ok (.if_icmp .ne 16, 3) := by decide +kernel
theorem dX11_count_55 : decode cX11_count 55 = .ok (.aload_n 0, 1) := by decide +kernel
theorem dX11_count_56 : decode cX11_count 56 = .ok (.aload_n 0, 1) := by decide +kernel
theorem dX11_count_57 : decode cX11_count 57 = .ok (.getfield 120, 3) := by decide +kernel
theorem dX11_count_60 : decode cX11_count 60 = .ok (.iconst 0, 1) := by decide +kernel
theorem dX11_count_61 : decode cX11_count 61 = .ok (.iaload, 1) := by decide +kernel
theorem dX11_count_62 : decode cX11_count 62 = .ok (.invokevirtual 394, 3) := by decide +kernel
theorem dX11_count_65 : decode cX11_count 65 = .ok (.goto 7, 3) := by decide +kernel
theorem dX11_count_68 : decode cX11_count 68 = .ok (.aload_n 0, 1) := by decide +kernel
theorem dX11_count_69 : decode cX11_count 69 = .ok (.invokevirtual 579, 3) := by decide +kernel
theorem dX11_count_72 : decode cX11_count 72 = .ok (.ireturn, 1) := by decide +kernel
theorem dX11_count_73 : decode cX11_count 73 = .ok (.iload_n 1, 1) := by decide +kernel
theorem dX11_count_74 : decode cX11_count 74 = .ok (.bipush 10, 2) := by decide +kernel
theorem dX11_count_76 : decode cX11_count 76 = .ok (.if_icmp .ge 21, 3) := by decide +kernel
theorem dX11_count_79 : decode cX11_count 79 = .ok (.iload_n 1, 1) := by decide +kernel
theorem dX11_count_80 : decode cX11_count 80 = .ok (.bipush 8, 2) := by decide +kernel
theorem dX11_count_82 : decode cX11_count 82 = .ok (.if_icmp .ne 10, 3) := by decide +kernel
theorem dX11_count_85 : decode cX11_count 85 = .ok (.aload_n 0, 1) := by decide +kernel
theorem dX11_count_86 : decode cX11_count 86 = .ok (.invokevirtual 573, 3) := by decide +kernel
theorem dX11_count_89 : decode cX11_count 89 = .ok (.goto 7, 3) := by decide +kernel
theorem dX11_count_92 : decode cX11_count 92 = .ok (.aload_n 0, 1) := by decide +kernel
theorem dX11_count_93 : decode cX11_count 93 = .ok (.invokevirtual 467, 3) := by decide +kernel
theorem dX11_count_96 : decode cX11_count 96 = .ok (.ireturn, 1) := by decide +kernel
theorem dX11_count_97 : decode cX11_count 97 = .ok (.iload_n 1, 1) := by decide +kernel
theorem dX11_count_98 : decode cX11_count 98 = .ok (.bipush 12, 2) := by decide +kernel
theorem dX11_count_100 : decode cX11_count 100 = .ok (.if_icmp .ge 25, 3) := by decide +kernel
theorem dX11_count_103 : decode cX11_count 103 = .ok (.iload_n 1, 1) := by decide +kernel
theorem dX11_count_104 : decode cX11_count 104 = .ok (.bipush 10, 2) := by decide +kernel
theorem dX11_count_106 : decode cX11_count 106 = .ok (.if_icmp .ne 12, 3) := by decide +kernel
theorem dX11_count_109 : decode cX11_count 109 = .ok (.aload_n 0, 1) := by decide +kernel
theorem dX11_count_110 : decode cX11_count 110 = .ok (.getfield 90, 3) := by decide +kernel
theorem dX11_count_113 : decode cX11_count 113 = .ok (.iconst 0, 1) := by decide +kernel
theorem dX11_count_114 : decode cX11_count 114 = .ok (.iaload, 1) := by decide +kernel
theorem dX11_count_115 : decode cX11_count 115 = .ok (.goto 9, 3) := by decide +kernel
theorem dX11_count_118 : decode cX11_count 118 = .ok (.aload_n 0, 1) := by decide +kernel
theorem dX11_count_119 : decode cX11_count 119 = .ok (.getfield 108, 3) := by decide +kernel
theorem dX11_count_122 : decode cX11_count 122 = .ok (.iconst 0, 1) := by decide +kernel
theorem dX11_count_123 : decode cX11_count 123 = .ok (.iaload, 1) := by decide +kernel
theorem dX11_count_124 : decode cX11_count 124 = .ok (.ireturn, 1) := by decide +kernel
theorem dX11_count_125 : decode cX11_count 125 = .ok (.iload_n 1, 1) := by decide +kernel
theorem dX11_count_126 : decode cX11_count 126 = .ok (.bipush 12, 2) := by decide +kernel
theorem dX11_count_128 : decode cX11_count 128 = .ok (.if_icmp .ne 10, 3) := by decide +kernel
theorem dX11_count_131 : decode cX11_count 131 = .ok (.aload_n 0, 1) := by decide +kernel
theorem dX11_count_132 : decode cX11_count 132 = .ok (.getfield 384, 3) := by decide +kernel
theorem dX11_count_135 : decode cX11_count 135 = .ok (.goto 7, 3) := by decide +kernel
theorem dX11_count_138 : decode cX11_count 138 = .ok (.aload_n 0, 1) := by decide +kernel
theorem dX11_count_139 : decode cX11_count 139 = .ok (.getfield 162, 3) := by decide +kernel
theorem dX11_count_142 : decode cX11_count 142 = .ok (.ireturn, 1) := by decide +kernel
theorem dJ11_isValidCodePoint_9a6ad_0 : decode cJ11_isValidCodePoint_9a6ad 0 = .ok (.iload_n 0, 1) := by decide +kernel
theorem dJ11_isValidCodePoint_9a6ad_1 : decode cJ11_isValidCodePoint_9a6ad 1 = .ok (.bipush 16, 2) := by decide +kernel
theorem dJ11_isValidCodePoint_9a6ad_3 : decode cJ11_isValidCodePoint_9a6ad 3 = .ok (.iushr, 1) := by decide +kernel
theorem dJ11_isValidCodePoint_9a6ad_4 : decode cJ11_isValidCodePoint_9a6ad 4 = .ok (.istore_n 1, 1) := by decide +kernel
theorem dJ11_isValidCodePoint_9a6ad_5 : decode cJ11_isValidCodePoint_9a6ad 5 = .ok (.iload_n 1, 1) := by decide +kernel
theorem dJ11_isValidCodePoint_9a6ad_6 : decode cJ11_isValidCodePoint_9a6ad 6 = .ok (.bipush 17, 2) := by decide +kernel
theorem dJ11_isValidCodePoint_9a6ad_8 : decode cJ11_isValidCodePoint_9a6ad 8 = .ok (.if_icmp .ge 7, 3) := by decide +kernel
theorem dJ11_isValidCodePoint_9a6ad_11 : decode cJ11_isValidCodePoint_9a6ad 11 = .ok (.iconst 1, 1) := by decide +kernel
theorem dJ11_isValidCodePoint_9a6ad_12 : decode cJ11_isValidCodePoint_9a6ad 12 = .ok (.goto 4, 3) := by decide +kernel
theorem dJ11_isValidCodePoint_9a6ad_15 : decode cJ11_isValidCodePoint_9a6ad 15 = .ok (.iconst 0, 1) := by decide +kernel
theorem dJ11_isValidCodePoint_9a6ad_16 : decode cJ11_isValidCodePoint_9a6ad 16 = .ok (.ireturn, 1) := by decide +kernel
theorem dJ11_highSurrogate_5068e_0 : decode cJ11_highSurrogate_5068e 0 = .ok (.iload_n 0, 1) := by decide +kernel
theorem dJ11_highSurrogate_5068e_1 : decode cJ11_highSurrogate_5068e 1 = .ok (.bipush 10, 2) := by decide +kernel
theorem dJ11_highSurrogate_5068e_3 : decode cJ11_highSurrogate_5068e 3 = .ok (.iushr, 1) := by decide +kernel
theorem dJ11_highSurrogate_5068e_4 : decode cJ11_highSurrogate_5068e 4 = .ok (.ldc 110, 2) := by decide +kernel
theorem dJ11_highSurrogate_5068e_6 : decode cJ11_highSurrogate_5068e 6 = .ok (.iadd, 1) := by decide +kernel
theorem dJ11_highSurrogate_5068e_7 : decode cJ11_highSurrogate_5068e 7 = .ok (.i2c, 1) := by decide +kernel
theorem dJ11_highSurrogate_5068e_8 : decode cJ11_highSurrogate_5068e 8 = .ok (.ireturn, 1) := by decide +kernel
theorem dJ11_lowSurrogate_5068e_0 : decode cJ11_lowSurrogate_5068e 0 = .ok (.iload_n 0, 1) := by decide +kernel
theorem dJ11_lowSurrogate_5068e_1 : decode cJ11_lowSurrogate_5068e 1 = .ok (.sipush 1023, 3) := by decide +kernel
theorem dJ11_lowSurrogate_5068e_4 : decode cJ11_lowSurrogate_5068e 4 = .ok (.iand, 1) := by decide +kernel
theorem dJ11_lowSurrogate_5068e_5 : decode cJ11_lowSurrogate_5068e 5 = .ok (.ldc 76, 2) := by decide +kernel
theorem dJ11_lowSurrogate_5068e_7 : decode cJ11_lowSurrogate_5068e 7 = .ok (.iadd, 1) := by decide +kernel
theorem dJ11_lowSurrogate_5068e_8 : decode cJ11_lowSurrogate_5068e 8 = .ok (.i2c, 1) := by decide +kernel
theorem dJ11_lowSurrogate_5068e_9 : decode cJ11_lowSurrogate_5068e 9 = .ok (.ireturn, 1) := by decide +kernel
theorem dJ6_bitCount_0f7a4_0 : decode cJ6_bitCount_0f7a4 0 = .ok (.iload_n 0, 1) := by decide +kernel
theorem dJ6_bitCount_0f7a4_1 : decode cJ6_bitCount_0f7a4 1 = .ok (.iload_n 0, 1) := by decide +kernel
theorem dJ6_bitCount_0f7a4_2 : decode cJ6_bitCount_0f7a4 2 = .ok (.iconst 1, 1) := by decide +kernel
theorem dJ6_bitCount_0f7a4_3 : decode cJ6_bitCount_0f7a4 3 = .ok (.iushr, 1) := by decide +kernel
theorem dJ6_bitCount_0f7a4_4 : decode cJ6_bitCount_0f7a4 4 = .ok (.ldc_w 265, 3) := by decide +kernel
theorem dJ6_bitCount_0f7a4_7 : decode cJ6_bitCount_0f7a4 7 = .ok (.iand, 1) := by decide +kernel
theorem dJ6_bitCount_0f7a4_8 : decode cJ6_bitCount_0f7a4 8 = .ok (.isub, 1) := by decide +kernel
theorem dJ6_bitCount_0f7a4_9 : decode cJ6_bitCount_0f7a4 9 = .ok (.istore_n 0, 1) := by decide +kernel
theorem dJ6_bitCount_0f7a4_10 : decode cJ6_bitCount_0f7a4 10 = .ok (.iload_n 0, 1) := by decide +kernel
theorem dJ6_bitCount_0f7a4_11 : decode cJ6_bitCount_0f7a4 11 = .ok (.ldc_w 266, 3) := by decide +kernel
theorem dJ6_bitCount_0f7a4_14 : decode cJ6_bitCount_0f7a4 14 = .ok (.iand, 1) := by decide +kernel
theorem dJ6_bitCount_0f7a4_15 : decode cJ6_bitCount_0f7a4 15 = .ok (.iload_n 0, 1) := by decide +kernel
theorem dJ6_bitCount_0f7a4_16 : decode cJ6_bitCount_0f7a4 16 = .ok (.iconst 2, 1) := by decide +kernel
theorem dJ6_bitCount_0f7a4_17 : decode cJ6_bitCount_0f7a4 17 = .ok (.iushr, 1) := by decide +kernel
theorem dJ6_bitCount_0f7a4_18 : decode cJ6_bitCount_0f7a4 18 = .ok (.ldc_w 266, 3) := by decide +kernel
theorem dJ6_bitCount_0f7a4_21 : decode cJ6_bitCount_0f7a4 21 = .ok (.iand, 1) := by decide +kernel
theorem dJ6_bitCount_0f7a4_22 : decode cJ6_bitCount_0f7a4 22 = .ok (.iadd, 1) := by decide +kernel
theorem dJ6_bitCount_0f7a4_23 : decode cJ6_bitCount_0f7a4 23 = .ok (.istore_n 0, 1) := by decide +kernel
theorem dJ6_bitCount_0f7a4_24 : decode cJ6_bitCount_0f7a4 24 = .ok (.iload_n 0, 1) := by decide +kernel
theorem dJ6_bitCount_0f7a4_25 : decode cJ6_bitCount_0f7a4 25 = .ok (.iload_n 0, 1) := by decide +kernel
theorem dJ6_bitCount_0f7a4_26 : decode cJ6_bitCount_0f7a4 26 = .ok (.iconst 4, 1) := by decide +kernel
theorem dJ6_bitCount_0f7a4_27 : decode cJ6_bitCount_0f7a4 27 = .ok (.iushr, 1) := by decide +kernel
theorem dJ6_bitCount_0f7a4_28 : decode cJ6_bitCount_0f7a4 28 = .ok (.iadd, 1) := by decide +kernel
theorem dJ6_bitCount_0f7a4_29 : decode cJ6_bitCount_0f7a4 29 = .ok (.ldc_w 267, 3) := by decide +kernel
theorem dJ6_bitCount_0f7a4_32 : decode cJ6_bitCount_0f7a4 32 = .ok (.iand, 1) := by decide +kernel
theorem dJ6_bitCount_0f7a4_33 : decode cJ6_bitCount_0f7a4 33 = .ok (.istore_n 0, 1) := by decide +kernel
theorem dJ6_bitCount_0f7a4_34 : decode cJ6_bitCount_0f7a4 34 = .ok (.iload_n 0, 1) := by decide +kernel
theorem dJ6_bitCount_0f7a4_35 : decode cJ6_bitCount_0f7a4 35 = .ok (.iload_n 0, 1) := by decide +kernel
theorem dJ6_bitCount_0f7a4_36 : decode cJ6_bitCount_0f7a4 36 = .ok (.bipush 8, 2) := by decide +kernel
theorem dJ6_bitCount_0f7a4_38 : decode cJ6_bitCount_0f7a4 38 = .ok (.iushr, 1) := by decide +kernel
theorem dJ6_bitCount_0f7a4_39 : decode cJ6_bitCount_0f7a4 39 = .ok (.iadd, 1) := by decide +kernel
theorem dJ6_bitCount_0f7a4_40 : decode cJ6_bitCount_0f7a4 40 = .ok (.istore_n 0, 1) := by decide +kernel
theorem dJ6_bitCount_0f7a4_41 : decode cJ6_bitCount_0f7a4 41 = .ok (.iload_n 0, 1) := by decide +kernel
theorem dJ6_bitCount_0f7a4_42 : decode cJ6_bitCount_0f7a4 42 = .ok (.iload_n 0, 1) := by decide +kernel
theorem dJ6_bitCount_0f7a4_43 : decode cJ6_bitCount_0f7a4 43 = .ok (.bipush 16, 2) := by decide +kernel
theorem dJ6_bitCount_0f7a4_45 : decode cJ6_bitCount_0f7a4 45 = .ok (.iushr, 1) := by decide +kernel
theorem dJ6_bitCount_0f7a4_46 : decode cJ6_bitCount_0f7a4 46 = .ok (.iadd, 1) := by decide +kernel
theorem dJ6_bitCount_0f7a4_47 : decode cJ6_bitCount_0f7a4 47 = .ok (.istore_n 0, 1) := by decide +kernel
theorem dJ6_bitCount_0f7a4_48 : decode cJ6_bitCount_0f7a4 48 = .ok (.iload_n 0, 1) := by decide +kernel
theorem dJ6_bitCount_0f7a4_49 : decode cJ6_bitCount_0f7a4 49 = .ok (.bipush 63, 2) := by decide +kernel
theorem dJ6_bitCount_0f7a4_51 : decode cJ6_bitCount_0f7a4 51 = .ok (.iand, 1) := by decide +kernel
theorem dJ6_bitCount_0f7a4_52 : decode cJ6_bitCount_0f7a4 52 = .ok (.ireturn, 1) := by decide +kernel
theorem dJ9_max_7cf53_0 : decode cJ9_max_7cf53 0 = .ok (.iload_n 0, 1) := by decide +kernel
theorem dJ9_max_7cf53_1 : decode cJ9_max_7cf53 1 = .ok (.iload_n 1, 1) := by decide +kernel
theorem dJ9_max_7cf53_2 : decode cJ9_max_7cf53 2 = .ok (.if_icmp .lt 7, 3) := by decide +kernel
theorem dJ9_max_7cf53_5 : decode cJ9_max_7cf53 5 = .ok (.iload_n 0, 1) := by decide +kernel
theorem dJ9_max_7cf53_6 : decode cJ9_max_7cf53 6 = .ok (.goto 4, 3) := by decide +kernel
theorem dJ9_max_7cf53_9 : decode cJ9_max_7cf53 9 = .ok (.iload_n 1, 1) := by decide +kernel
theorem dJ9_max_7cf53_10 : decode cJ9_max_7cf53 10 = .ok (.ireturn, 1) := by decide +kernel
theorem dJ9_min_7cf53_0 : decode cJ9_min_7cf53 0 = .ok (.iload_n 0, 1) := by decide +kernel
theorem dJ9_min_7cf53_1 : decode cJ9_min_7cf53 1 = .ok (.iload_n 1, 1) := by decide +kernel
theorem dJ9_min_7cf53_2 : decode cJ9_min_7cf53 2 = .ok (.if_icmp .gt 7, 3) := by decide +kernel
theorem dJ9_min_7cf53_5 : decode cJ9_min_7cf53 5 = .ok (.iload_n 0, 1) := by decide +kernel
theorem dJ9_min_7cf53_6 : decode cJ9_min_7cf53 6 = .ok (.goto 4, 3) := by decide +kernel
theorem dJ9_min_7cf53_9 : decode cJ9_min_7cf53 9 = .ok (.iload_n 1, 1) := by decide +kernel
theorem dJ9_min_7cf53_10 : decode cJ9_min_7cf53 10 = .ok (.ireturn, 1) := by decide +kernel
theorem dJ0_length_8abf5_0 : decode cJ0_length_8abf5 0 = .ok (.aload_n 0, 1) := by decide +kernel
theorem dJ0_length_8abf5_1 : decode cJ0_length_8abf5 1 = .ok (.getfield 9, 3) := by decide +kernel
theorem dJ0_length_8abf5_4 : decode cJ0_length_8abf5 4 = .ok (.arraylength, 1) := by decide +kernel
theorem dJ0_length_8abf5_5 : decode cJ0_length_8abf5 5 = .ok (.aload_n 0, 1) := by decide +kernel
theorem dJ0_length_8abf5_6 : decode cJ0_length_8abf5 6 = .ok (.invokevirtual 335, 3) := by decide +kernel
theorem dJ0_length_8abf5_9 : decode cJ0_length_8abf5 9 = .ok (.ishr, 1) := by decide +kernel
theorem dJ0_length_8abf5_10 : decode cJ0_length_8abf5 10 = .ok (.ireturn, 1) := by decide +kernel
theorem dJ0_indexOf_0f7a4_0 : decode cJ0_indexOf_0f7a4 0 = .ok (.aload_n 0, 1) := by decide +kernel
theorem dJ0_indexOf_0f7a4_1 : decode cJ0_indexOf_0f7a4 1 = .ok (.iload_n 1, 1) := by decide +kernel
theorem dJ0_indexOf_0f7a4_2 : decode cJ0_indexOf_0f7a4 2 = .ok (.iconst 0, 1) := by decide +kernel
theorem dJ0_indexOf_0f7a4_3 : decode cJ0_indexOf_0f7a4 3 = .ok (.invokevirtual 633, 3) := by decide +kernel
theorem dJ0_indexOf_0f7a4_6 : decode cJ0_indexOf_0f7a4 6 = .ok (.ireturn, 1) := by decide +kernel
theorem dJ0_indexOf_7cf53_0 : decode cJ0_indexOf_7cf53 0 = .ok (.aload_n 0, 1) := by decide +kernel
theorem dJ0_indexOf_7cf53_1 : decode cJ0_indexOf_7cf53 1 = .ok (.invokevirtual 492, 3) := by decide +kernel
theorem dJ0_indexOf_7cf53_4 : decode cJ0_indexOf_7cf53 4 = .ok (.ifCond .eq 19, 3) := by decide +kernel
theorem dJ0_indexOf_7cf53_7 : decode cJ0_indexOf_7cf53 7 = .ok (.aload_n 0, 1) := by decide +kernel
theorem dJ0_indexOf_7cf53_8 : decode cJ0_indexOf_7cf53 8 = .ok (.getfield 9, 3) := by decide +kernel
theorem dJ0_indexOf_7cf53_11 : decode cJ0_indexOf_7cf53 11 = .ok (.iload_n 1, 1) := by decide +kernel
theorem dJ0_indexOf_7cf53_12 : decode cJ0_indexOf_7cf53 12 = .ok (.iload_n 2, 1) := by decide +kernel
theorem dJ0_indexOf_7cf53_13 : decode cJ0_indexOf_7cf53 13 = .ok (.aload_n 0, 1) := by decide +kernel
theorem dJ0_indexOf_7cf53_14 : decode cJ0_indexOf_7cf53 14 = .ok (.invokevirtual 505, 3) := by decide +kernel
theorem dJ0_indexOf_7cf53_17 : decode cJ0_indexOf_7cf53 17 = .ok (.invokestatic 637, 3) := by decide +kernel
theorem dJ0_indexOf_7cf53_20 : decode cJ0_indexOf_7cf53 20 = .ok (.goto 16, 3) := by decide +kernel
theorem dJ0_indexOf_7cf53_23 : decode cJ0_indexOf_7cf53 23 = .ok (.aload_n 0, 1) := by decide +kernel
theorem dJ0_indexOf_7cf53_24 : decode cJ0_indexOf_7cf53 24 = .ok (.getfield 9, 3) := by decide +kernel
theorem dJ0_indexOf_7cf53_27 : decode cJ0_indexOf_7cf53 27 = .ok (.iload_n 1, 1) := by decide +kernel
theorem dJ0_indexOf_7cf53_28 : decode cJ0_indexOf_7cf53 28 = .ok (.iload_n 2, 1) := by decide +kernel
theorem dJ0_indexOf_7cf53_29 : decode cJ0_indexOf_7cf53 29 = .ok (.aload_n 0, 1) := by decide +kernel
theorem dJ0_indexOf_7cf53_30 : decode cJ0_indexOf_7cf53 30 = .ok (.invokevirtual 505, 3) := by decide +kernel
theorem dJ0_indexOf_7cf53_33 : decode cJ0_indexOf_7cf53 33 = .ok (.invokestatic 640, 3) := by decide +kernel
theorem dJ0_indexOf_7cf53_36 : decode cJ0_indexOf_7cf53 36 = .ok (.ireturn, 1) := by decide +kernel
theorem dJ0_coder_7d493_0 : decode cJ0_coder_7d493 0 = .ok (.getstatic 38, 3) := by decide +kernel
theorem dJ0_coder_7d493_3 : decode cJ0_coder_7d493 3 = .ok (.ifCond .eq 10, 3) := by decide +kernel
theorem dJ0_coder_7d493_6 : decode cJ0_coder_7d493 6 = .ok (.aload_n 0, 1) := by decide +kernel
theorem dJ0_coder_7d493_7 : decode cJ0_coder_7d493 7 = .ok (.getfield 15, 3) := by decide +kernel
theorem dJ0_coder_7d493_10 : decode cJ0_coder_7d493 10 = .ok (.goto 4, 3) := by decide +kernel
theorem dJ0_coder_7d493_13 : decode cJ0_coder_7d493 13 = .ok (.iconst 1, 1) := by decide +kernel
theorem dJ0_coder_7d493_14 : decode cJ0_coder_7d493 14 = .ok (.ireturn, 1) := by decide +kernel
theorem dJ0_isLatin1_aae02_0 : decode cJ0_isLatin1_aae02 0 = .ok (.getstatic 38, 3) := by decide +kernel
theorem dJ0_isLatin1_aae02_3 : decode cJ0_isLatin1_aae02 3 = .ok (.ifCond .eq 14, 3) := by decide +kernel
theorem dJ0_isLatin1_aae02_6 : decode cJ0_isLatin1_aae02 6 = .ok (.aload_n 0, 1) := by decide +kernel
theorem dJ0_isLatin1_aae02_7 : decode cJ0_isLatin1_aae02 7 = .ok (.getfield 15, 3) := by decide +kernel
theorem dJ0_isLatin1_aae02_10 : decode cJ0_isLatin1_aae02 10 = .ok (.ifCond .ne 7, 3) := by decide +kernel
theorem dJ0_isLatin1_aae02_13 : decode cJ0_isLatin1_aae02 13 = .ok (.iconst 1, 1) := by decide +kernel
theorem dJ0_isLatin1_aae02_14 : decode cJ0_isLatin1_aae02 14 = .ok (.goto 4, 3) := by decide +kernel
theorem dJ0_isLatin1_aae02_17 : decode cJ0_isLatin1_aae02 17 = .ok (.iconst 0, 1) := by decide +kernel
theorem dJ0_isLatin1_aae02_18 : decode cJ0_isLatin1_aae02 18 = .ok (.ireturn, 1) := by decide +kernel
theorem dJ0_checkBoundsBeginEnd_23922_0 : decode cJ0_checkBoundsBeginEnd_23922 0 = .ok (.iload_n 0, 1) := by decide +kernel
theorem dJ0_checkBoundsBeginEnd_23922_1 : decode cJ0_checkBoundsBeginEnd_23922 1 = .ok (.iload_n 1, 1) := by decide +kernel
theorem dJ0_checkBoundsBeginEnd_23922_2 : decode cJ0_checkBoundsBeginEnd_23922 2 = .ok (.iload_n 2, 1) := by decide +kernel
theorem dJ0_checkBoundsBeginEnd_23922_3 : decode cJ0_checkBoundsBeginEnd_23922 3 = .ok (.getstatic 1053, 3) := by decide +kernel
theorem dJ0_checkBoundsBeginEnd_23922_6 : decode cJ0_checkBoundsBeginEnd_23922 6 = .ok (.invokestatic 1062, 3) := by decide +kernel
theorem dJ0_checkBoundsBeginEnd_23922_9 : decode cJ0_checkBoundsBeginEnd_23922 9 = .ok (.pop, 1) := by decide +kernel
theorem dJ0_checkBoundsBeginEnd_23922_10 : decode cJ0_checkBoundsBeginEnd_23922 10 = .ok (.return_, 1) := by decide +kernel
theorem dJ1_canEncode_9a6ad_0 : decode cJ1_canEncode_9a6ad 0 = .ok (.iload_n 0, 1) := by decide +kernel
theorem dJ1_canEncode_9a6ad_1 : decode cJ1_canEncode_9a6ad 1 = .ok (.ifCond .lt 14, 3) := by decide +kernel
theorem dJ1_canEncode_9a6ad_4 : decode cJ1_canEncode_9a6ad 4 = .ok (.iload_n 0, 1) := by decide +kernel
theorem dJ1_canEncode_9a6ad_5 : decode cJ1_canEncode_9a6ad 5 = .ok (.sipush 255, 3) := by decide +kernel
theorem dJ1_canEncode_9a6ad_8 : decode cJ1_canEncode_9a6ad 8 = .ok (.if_icmp .gt 7, 3) := by decide +kernel
theorem dJ1_canEncode_9a6ad_11 : decode cJ1_canEncode_9a6ad 11 = .ok (.iconst 1, 1) := by decide +kernel
theorem dJ1_canEncode_9a6ad_12 : decode cJ1_canEncode_9a6ad 12 = .ok (.goto 4, 3) := by decide +kernel
theorem dJ1_canEncode_9a6ad_15 : decode cJ1_canEncode_9a6ad 15 = .ok (.iconst 0, 1) := by decide +kernel
theorem dJ1_canEncode_9a6ad_16 : decode cJ1_canEncode_9a6ad 16 = .ok (.ireturn, 1) := by decide +kernel
theorem dJ1_indexOf_4cfef_0 : decode cJ1_indexOf_4cfef 0 = .ok (.iload_n 1, 1) := by decide +kernel
theorem dJ1_indexOf_4cfef_1 : decode cJ1_indexOf_4cfef 1 = .ok (.invokestatic 88, 3) := by decide +kernel
theorem dJ1_indexOf_4cfef_4 : decode cJ1_indexOf_4cfef 4 = .ok (.ifCond .ne 5, 3) := by decide +kernel
theorem dJ1_indexOf_4cfef_7 : decode cJ1_indexOf_4cfef 7 = .ok (.iconst (-1), 1) := by decide +kernel
theorem dJ1_indexOf_4cfef_8 : decode cJ1_indexOf_4cfef 8 = .ok (.ireturn, 1) := by decide +kernel
theorem dJ1_indexOf_4cfef_9 : decode cJ1_indexOf_4cfef 9 = .ok (.iload_n 2, 1) := by decide +kernel
theorem dJ1_indexOf_4cfef_10 : decode cJ1_indexOf_4cfef 10 = .ok (.iconst 0, 1) := by decide +kernel
theorem dJ1_indexOf_4cfef_11 : decode cJ1_indexOf_4cfef 11 = .ok (.invokestatic 92, 3) := by decide +kernel
theorem dJ1_indexOf_4cfef_14 : decode cJ1_indexOf_4cfef 14 = .ok (.istore_n 2, 1) := by decide +kernel
theorem dJ1_indexOf_4cfef_15 : decode cJ1_indexOf_4cfef 15 = .ok (.iload_n 3, 1) := by decide +kernel
theorem dJ1_indexOf_4cfef_16 : decode cJ1_indexOf_4cfef 16 = .ok (.aload_n 0, 1) := by decide +kernel
theorem dJ1_indexOf_4cfef_17 : decode cJ1_indexOf_4cfef 17 = .ok (.arraylength, 1) := by decide +kernel
theorem dJ1_indexOf_4cfef_18 : decode cJ1_indexOf_4cfef 18 = .ok (.invokestatic 38, 3) := by decide +kernel
theorem dJ1_indexOf_4cfef_21 : decode cJ1_indexOf_4cfef 21 = .ok (.istore_n 3, 1) := by decide +kernel
theorem dJ1_indexOf_4cfef_22 : decode cJ1_indexOf_4cfef 22 = .ok (.iload_n 2, 1) := by decide +kernel
theorem dJ1_indexOf_4cfef_23 : decode cJ1_indexOf_4cfef 23 = .ok (.iload_n 3, 1) := by decide +kernel
theorem dJ1_indexOf_4cfef_24 : decode cJ1_indexOf_4cfef 24 = .ok (.if_icmp .lt 5, 3) := by decide +kernel
theorem dJ1_indexOf_4cfef_27 : decode cJ1_indexOf_4cfef 27 = .ok (.iconst (-1), 1) := by decide +kernel
theorem dJ1_indexOf_4cfef_28 : decode cJ1_indexOf_4cfef 28 = .ok (.ireturn, 1) := by decide +kernel
theorem dJ1_indexOf_4cfef_29 : decode cJ1_indexOf_4cfef 29 = .ok (.aload_n 0, 1) := by decide +kernel
theorem dJ1_indexOf_4cfef_30 : decode cJ1_indexOf_4cfef 30 = .ok (.iload_n 1, 1) := by decide +kernel
theorem dJ1_indexOf_4cfef_31 : decode cJ1_indexOf_4cfef 31 = .ok (.iload_n 2, 1) := by decide +kernel
theorem dJ1_indexOf_4cfef_32 : decode cJ1_indexOf_4cfef 32 = .ok (.iload_n 3, 1) := by decide +kernel
theorem dJ1_indexOf_4cfef_33 : decode cJ1_indexOf_4cfef 33 = .ok (.invokestatic 95, 3) := by decide +kernel
theorem dJ1_indexOf_4cfef_36 : decode cJ1_indexOf_4cfef 36 = .ok (.ireturn, 1) := by decide +kernel
theorem dJ1_indexOfChar_4cfef_0 : decode cJ1_indexOfChar_4cfef 0 = .ok (.iload_n 1, 1) := by decide +kernel
theorem dJ1_indexOfChar_4cfef_1 : decode cJ1_indexOfChar_4cfef 1 = .ok (.i2b, 1) := by decide +kernel
theorem dJ1_indexOfChar_4cfef_2 : decode cJ1_indexOfChar_4cfef 2 = .ok (.istore 4, 2) := by decide +kernel
theorem dJ1_indexOfChar_4cfef_4 : decode cJ1_indexOfChar_4cfef 4 = .ok (.iload_n 2, 1) := by decide +kernel
theorem dJ1_indexOfChar_4cfef_5 : decode cJ1_indexOfChar_4cfef 5 = .ok (.istore 5, 2) := by decide +kernel
theorem dJ1_indexOfChar_4cfef_7 : decode cJ1_indexOfChar_4cfef 7 = .ok (.iload 5, 2) := by decide +kernel
theorem dJ1_indexOfChar_4cfef_9 : decode cJ1_indexOfChar_4cfef 9 = .ok (.iload_n 3, 1) := by decide +kernel
theorem dJ1_indexOfChar_4cfef_10 : decode cJ1_indexOfChar_4cfef 10 = .ok (.if_icmp .ge 21, 3) := by decide +kernel
theorem dJ1_indexOfChar_4cfef_13 : decode cJ1_indexOfChar_4cfef 13 = .ok (.aload_n 0, 1) := by decide +kernel
theorem dJ1_indexOfChar_4cfef_14 : decode cJ1_indexOfChar_4cfef 14 = .ok (.iload 5, 2) := by decide +kernel
theorem dJ1_indexOfChar_4cfef_16 : decode cJ1_indexOfChar_4cfef 16 = .ok (.baload, 1) := by decide +kernel
theorem dJ1_indexOfChar_4cfef_17 : decode cJ1_indexOfChar_4cfef 17 = .ok (.iload 4, 2) := by decide +kernel
theorem dJ1_indexOfChar_4cfef_19 : decode cJ1_indexOfChar_4cfef 19 = .ok (.if_icmp .ne 6, 3) := by decide +kernel
theorem dJ1_indexOfChar_4cfef_22 : decode cJ1_indexOfChar_4cfef 22 = .ok (.iload 5, 2) := by decide +kernel
theorem dJ1_indexOfChar_4cfef_24 : decode cJ1_indexOfChar_4cfef 24 = .ok (.ireturn, 1) := by decide +kernel
theorem dJ1_indexOfChar_4cfef_25 : decode cJ1_indexOfChar_4cfef 25 = .ok (.iinc 5 1, 3) := by decide +kernel
theorem dJ1_indexOfChar_4cfef_28 : decode cJ1_indexOfChar_4cfef 28 = .ok (.goto (-21), 3) := by decide +kernel
theorem dJ1_indexOfChar_4cfef_31 : decode cJ1_indexOfChar_4cfef 31 = .ok (.iconst (-1), 1) := by decide +kernel
theorem dJ1_indexOfChar_4cfef_32 : decode cJ1_indexOfChar_4cfef 32 = .ok (.ireturn, 1) := by decide +kernel
theorem dJ2_getChar_3b067_0 : decode cJ2_getChar_3b067 0 = .ok (.getstatic 44, 3) := by decide +kernel
theorem dJ2_getChar_3b067_3 : decode cJ2_getChar_3b067 3 = .ok (.ifCond .ne 25, 3) := by decide +kernel
theorem dJ2_getChar_3b067_6 : decode cJ2_getChar_3b067 6 = .ok (.iload_n 1, 1) := by decide +kernel
theorem dJ2_getChar_3b067_7 : decode cJ2_getChar_3b067 7 = .ok (.ifCond .lt 11, 3) := by decide +kernel
theorem dJ2_getChar_3b067_10 : decode cJ2_getChar_3b067 10 = .ok (.iload_n 1, 1) := by decide +kernel
theorem dJ2_getChar_3b067_11 : decode cJ2_getChar_3b067 11 = .ok (.aload_n 0, 1) := by decide +kernel
theorem dJ2_getChar_3b067_12 : decode cJ2_getChar_3b067 12 = .ok (.invokestatic 48, 3) := by decide +kernel
theorem dJ2_getChar_3b067_15 : decode cJ2_getChar_3b067 15 = .ok (.if_icmp .lt 13, 3) := by decide +kernel
theorem dJ2_getChar_3b067_18 : decode cJ2_getChar_3b067 18 = .ok (.new 52, 3) := by decide +kernel
theorem dJ2_getChar_3b067_21 : decode cJ2_getChar_3b067 21 = .ok (.dup, 1) := by decide +kernel
theorem dJ2_getChar_3b067_22 : decode cJ2_getChar_3b067 22 = .ok (.ldc 54, 2) := by decide +kernel
theorem dJ2_getChar_3b067_24 : decode cJ2_getChar_3b067 24 = .ok (.invokespecial 56, 3) := by decide +kernel
theorem dJ2_getChar_3b067_27 : decode cJ2_getChar_3b067 27 = .ok (.athrow, 1) := by decide +kernel
theorem dJ2_getChar_3b067_28 : decode cJ2_getChar_3b067 28 = .ok (.iload_n 1, 1) := by decide +kernel
theorem dJ2_getChar_3b067_29 : decode cJ2_getChar_3b067 29 = .ok (.iconst 1, 1) := by decide +kernel
theorem dJ2_getChar_3b067_30 : decode cJ2_getChar_3b067 30 = .ok (.ishl, 1) := by decide +kernel
theorem dJ2_getChar_3b067_31 : decode cJ2_getChar_3b067 31 = .ok (.istore_n 1, 1) := by decide +kernel
theorem dJ2_getChar_3b067_32 : decode cJ2_getChar_3b067 32 = .ok (.aload_n 0, 1) := by decide +kernel
theorem dJ2_getChar_3b067_33 : decode cJ2_getChar_3b067 33 = .ok (.iload_n 1, 1) := by decide +kernel
theorem dJ2_getChar_3b067_34 : decode cJ2_getChar_3b067 34 = .ok (.iinc 1 1, 3) := by decide +kernel
theorem dJ2_getChar_3b067_37 : decode cJ2_getChar_3b067 37 = .ok (.baload, 1) := by decide +kernel
theorem dJ2_getChar_3b067_38 : decode cJ2_getChar_3b067 38 = .ok (.sipush 255, 3) := by decide +kernel
theorem dJ2_getChar_3b067_41 : decode cJ2_getChar_3b067 41 = .ok (.iand, 1) := by decide +kernel
theorem dJ2_getChar_3b067_42 : decode cJ2_getChar_3b067 42 = .ok (.getstatic 59, 3) := by decide +kernel
theorem dJ2_getChar_3b067_45 : decode cJ2_getChar_3b067 45 = .ok (.ishl, 1) := by decide +kernel
theorem dJ2_getChar_3b067_46 : decode cJ2_getChar_3b067 46 = .ok (.aload_n 0, 1) := by decide +kernel
theorem dJ2_getChar_3b067_47 : decode cJ2_getChar_3b067 47 = .ok (.iload_n 1, 1) := by decide +kernel
theorem dJ2_getChar_3b067_48 : decode cJ2_getChar_3b067 48 = .ok (.baload, 1) := by decide +kernel
theorem dJ2_getChar_3b067_49 : decode cJ2_getChar_3b067 49 = .ok (.sipush 255, 3) := by decide +kernel
theorem dJ2_getChar_3b067_52 : decode cJ2_getChar_3b067 52 = .ok (.iand, 1) := by decide +kernel
theorem dJ2_getChar_3b067_53 : decode cJ2_getChar_3b067 53 = .ok (.getstatic 63, 3) := by decide +kernel
theorem dJ2_getChar_3b067_56 : decode cJ2_getChar_3b067 56 = .ok (.ishl, 1) := by decide +kernel
theorem dJ2_getChar_3b067_57 : decode cJ2_getChar_3b067 57 = .ok (.ior, 1) := by decide +kernel
theorem dJ2_getChar_3b067_58 : decode cJ2_getChar_3b067 58 = .ok (.i2c, 1) := by decide +kernel
theorem dJ2_getChar_3b067_59 : decode cJ2_getChar_3b067 59 = .ok (.ireturn, 1) := by decide +kernel
theorem dJ2_length_9d52b_0 : decode cJ2_length_9d52b 0 = .ok (.aload_n 0, 1) := by decide +kernel
theorem dJ2_length_9d52b_1 : decode cJ2_length_9d52b 1 = .ok (.arraylength, 1) := by decide +kernel
theorem dJ2_length_9d52b_2 : decode cJ2_length_9d52b 2 = .ok (.iconst 1, 1) := by decide +kernel
theorem dJ2_length_9d52b_3 : decode cJ2_length_9d52b 3 = .ok (.ishr, 1) := by decide +kernel
theorem dJ2_length_9d52b_4 : decode cJ2_length_9d52b 4 = .ok (.ireturn, 1) := by decide +kernel
theorem dJ2_indexOf_4cfef_0 : decode cJ2_indexOf_4cfef 0 = .ok (.iload_n 2, 1) := by decide +kernel
theorem dJ2_indexOf_4cfef_1 : decode cJ2_indexOf_4cfef 1 = .ok (.iconst 0, 1) := by decide +kernel
theorem dJ2_indexOf_4cfef_2 : decode cJ2_indexOf_4cfef 2 = .ok (.invokestatic 224, 3) := by decide +kernel
theorem dJ2_indexOf_4cfef_5 : decode cJ2_indexOf_4cfef 5 = .ok (.istore_n 2, 1) := by decide +kernel
theorem dJ2_indexOf_4cfef_6 : decode cJ2_indexOf_4cfef 6 = .ok (.iload_n 3, 1) := by decide +kernel
theorem dJ2_indexOf_4cfef_7 : decode cJ2_indexOf_4cfef 7 = .ok (.aload_n 0, 1) := by decide +kernel
theorem dJ2_indexOf_4cfef_8 : decode cJ2_indexOf_4cfef 8 = .ok (.arraylength, 1) := by decide +kernel
theorem dJ2_indexOf_4cfef_9 : decode cJ2_indexOf_4cfef 9 = .ok (.iconst 1, 1) := by decide +kernel
theorem dJ2_indexOf_4cfef_10 : decode cJ2_indexOf_4cfef 10 = .ok (.ishr, 1) := by decide +kernel
theorem dJ2_indexOf_4cfef_11 : decode cJ2_indexOf_4cfef 11 = .ok (.invokestatic 183, 3) := by decide +kernel
theorem dJ2_indexOf_4cfef_14 : decode cJ2_indexOf_4cfef 14 = .ok (.istore_n 3, 1) := by decide +kernel
theorem dJ2_indexOf_4cfef_15 : decode cJ2_indexOf_4cfef 15 = .ok (.iload_n 2, 1) := by decide +kernel
theorem dJ2_indexOf_4cfef_16 : decode cJ2_indexOf_4cfef 16 = .ok (.iload_n 3, 1) := by decide +kernel
theorem dJ2_indexOf_4cfef_17 : decode cJ2_indexOf_4cfef 17 = .ok (.if_icmp .lt 5, 3) := by decide +kernel
theorem dJ2_indexOf_4cfef_20 : decode cJ2_indexOf_4cfef 20 = .ok (.iconst (-1), 1) := by decide +kernel
theorem dJ2_indexOf_4cfef_21 : decode cJ2_indexOf_4cfef 21 = .ok (.ireturn, 1) := by decide +kernel
theorem dJ2_indexOf_4cfef_22 : decode cJ2_indexOf_4cfef 22 = .ok (.iload_n 1, 1) := by decide +kernel
theorem dJ2_indexOf_4cfef_23 : decode cJ2_indexOf_4cfef 23 = .ok (.ldc 227, 2) := by decide +kernel
theorem dJ2_indexOf_4cfef_25 : decode cJ2_indexOf_4cfef 25 = .ok (.if_icmp .ge 11, 3) := by decide +kernel
theorem dJ2_indexOf_4cfef_28 : decode cJ2_indexOf_4cfef 28 = .ok (.aload_n 0, 1) := by decide +kernel
theorem dJ2_indexOf_4cfef_29 : decode cJ2_indexOf_4cfef 29 = .ok (.iload_n 1, 1) := by decide +kernel
theorem dJ2_indexOf_4cfef_30 : decode cJ2_indexOf_4cfef 30 = .ok (.iload_n 2, 1) := by decide +kernel
theorem dJ2_indexOf_4cfef_31 : decode cJ2_indexOf_4cfef 31 = .ok (.iload_n 3, 1) := by decide +kernel
theorem dJ2_indexOf_4cfef_32 : decode cJ2_indexOf_4cfef 32 = .ok (.invokestatic 228, 3) := by decide +kernel
theorem dJ2_indexOf_4cfef_35 : decode cJ2_indexOf_4cfef 35 = .ok (.ireturn, 1) := by decide +kernel
theorem dJ2_indexOf_4cfef_36 : decode cJ2_indexOf_4cfef 36 = .ok (.aload_n 0, 1) := by decide +kernel
theorem dJ2_indexOf_4cfef_37 : decode cJ2_indexOf_4cfef 37 = .ok (.iload_n 1, 1) := by decide +kernel
theorem dJ2_indexOf_4cfef_38 : decode cJ2_indexOf_4cfef 38 = .ok (.iload_n 2, 1) := by decide +kernel
theorem dJ2_indexOf_4cfef_39 : decode cJ2_indexOf_4cfef 39 = .ok (.iload_n 3, 1) := by decide +kernel
theorem dJ2_indexOf_4cfef_40 : decode cJ2_indexOf_4cfef 40 = .ok (.invokestatic 232, 3) := by decide +kernel
theorem dJ2_indexOf_4cfef_43 : decode cJ2_indexOf_4cfef 43 = .ok (.ireturn, 1) := by decide +kernel
theorem dJ2_indexOfChar_4cfef_0 : decode cJ2_indexOfChar_4cfef 0 = .ok (.iload_n 2, 1) := by decide +kernel
theorem dJ2_indexOfChar_4cfef_1 : decode cJ2_indexOfChar_4cfef 1 = .ok (.iload_n 3, 1) := by decide +kernel
theorem dJ2_indexOfChar_4cfef_2 : decode cJ2_indexOfChar_4cfef 2 = .ok (.aload_n 0, 1) := by decide +kernel
theorem dJ2_indexOfChar_4cfef_3 : decode cJ2_indexOfChar_4cfef 3 = .ok (.invokestatic 96, 3) := by decide +kernel
theorem dJ2_indexOfChar_4cfef_6 : decode cJ2_indexOfChar_4cfef 6 = .ok (.aload_n 0, 1) := by decide +kernel
theorem dJ2_indexOfChar_4cfef_7 : decode cJ2_indexOfChar_4cfef 7 = .ok (.iload_n 1, 1) := by decide +kernel
theorem dJ2_indexOfChar_4cfef_8 : decode cJ2_indexOfChar_4cfef 8 = .ok (.iload_n 2, 1) := by decide +kernel
theorem dJ2_indexOfChar_4cfef_9 : decode cJ2_indexOfChar_4cfef 9 = .ok (.iload_n 3, 1) := by decide +kernel
theorem dJ2_indexOfChar_4cfef_10 : decode cJ2_indexOfChar_4cfef 10 = .ok (.invokestatic 244, 3) := by decide +kernel
theorem dJ2_indexOfChar_4cfef_13 : decode cJ2_indexOfChar_4cfef 13 = .ok (.ireturn, 1) := by decide +kernel
theorem dJ2_indexOfCharUnsafe_4cfef_0 : decode cJ2_indexOfCharUnsafe_4cfef 0 = .ok (.iload_n 2, 1) := by decide +kernel
theorem dJ2_indexOfCharUnsafe_4cfef_1 : decode cJ2_indexOfCharUnsafe_4cfef 1 = .ok (.istore 4, 2) := by decide +kernel
theorem dJ2_indexOfCharUnsafe_4cfef_3 : decode cJ2_indexOfCharUnsafe_4cfef 3 = .ok (.iload 4, 2) := by decide +kernel
theorem dJ2_indexOfCharUnsafe_4cfef_5 : decode cJ2_indexOfCharUnsafe_4cfef 5 = .ok (.iload_n 3, 1) := by decide +kernel
theorem dJ2_indexOfCharUnsafe_4cfef_6 : decode cJ2_indexOfCharUnsafe_4cfef 6 = .ok (.if_icmp .ge 22, 3) := by decide +kernel
theorem dJ2_indexOfCharUnsafe_4cfef_9 : decode cJ2_indexOfCharUnsafe_4cfef 9 = .ok (.aload_n 0, 1) := by decide +kernel
theorem dJ2_indexOfCharUnsafe_4cfef_10 : decode cJ2_indexOfCharUnsafe_4cfef 10 = .ok (.iload 4, 2) := by decide +kernel
theorem dJ2_indexOfCharUnsafe_4cfef_12 : decode cJ2_indexOfCharUnsafe_4cfef 12 = .ok (.invokestatic 71, 3) := by decide +kernel
theorem dJ2_indexOfCharUnsafe_4cfef_15 : decode cJ2_indexOfCharUnsafe_4cfef 15 = .ok (.iload_n 1, 1) := by decide +kernel
theorem dJ2_indexOfCharUnsafe_4cfef_16 : decode cJ2_indexOfCharUnsafe_4cfef 16 = .ok (.if_icmp .ne 6, 3) := by decide +kernel
theorem dJ2_indexOfCharUnsafe_4cfef_19 : decode cJ2_indexOfCharUnsafe_4cfef 19 = .ok (.iload 4, 2) := by decide +kernel
theorem dJ2_indexOfCharUnsafe_4cfef_21 : decode cJ2_indexOfCharUnsafe_4cfef 21 = .ok (.ireturn, 1) := by decide +kernel
theorem dJ2_indexOfCharUnsafe_4cfef_22 : decode cJ2_indexOfCharUnsafe_4cfef 22 = .ok (.iinc 4 1, 3) := by decide +kernel
theorem dJ2_indexOfCharUnsafe_4cfef_25 : decode cJ2_indexOfCharUnsafe_4cfef 25 = .ok (.goto (-22), 3) := by decide +kernel
theorem dJ2_indexOfCharUnsafe_4cfef_28 : decode cJ2_indexOfCharUnsafe_4cfef 28 = .ok (.iconst (-1), 1) := by decide +kernel
theorem dJ2_indexOfCharUnsafe_4cfef_29 : decode cJ2_indexOfCharUnsafe_4cfef 29 = .ok (.ireturn, 1) := by decide +kernel
theorem dJ2_indexOfSupplementary_4cfef_0 : decode cJ2_indexOfSupplementary_4cfef 0 = .ok (.iload_n 1, 1) := by decide +kernel
theorem dJ2_indexOfSupplementary_4cfef_1 : decode cJ2_indexOfSupplementary_4cfef 1 = .ok (.invokestatic 164, 3) := by decide +kernel
theorem dJ2_indexOfSupplementary_4cfef_4 : decode cJ2_indexOfSupplementary_4cfef 4 = .ok (.ifCond .eq 65, 3) := by decide +kernel
theorem dJ2_indexOfSupplementary_4cfef_7 : decode cJ2_indexOfSupplementary_4cfef 7 = .ok (.iload_n 1, 1) := by decide +kernel
theorem dJ2_indexOfSupplementary_4cfef_8 : decode cJ2_indexOfSupplementary_4cfef 8 = .ok (.invokestatic 157, 3) := by decide +kernel
theorem dJ2_indexOfSupplementary_4cfef_11 : decode cJ2_indexOfSupplementary_4cfef 11 = .ok (.istore 4, 2) := by decide +kernel
theorem dJ2_indexOfSupplementary_4cfef_13 : decode cJ2_indexOfSupplementary_4cfef 13 = .ok (.iload_n 1, 1) := by decide +kernel
theorem dJ2_indexOfSupplementary_4cfef_14 : decode cJ2_indexOfSupplementary_4cfef 14 = .ok (.invokestatic 161, 3) := by decide +kernel
theorem dJ2_indexOfSupplementary_4cfef_17 : decode cJ2_indexOfSupplementary_4cfef 17 = .ok (.istore 5, 2) := by decide +kernel
theorem dJ2_indexOfSupplementary_4cfef_19 : decode cJ2_indexOfSupplementary_4cfef 19 = .ok (.iload_n 2, 1) := by decide +kernel
theorem dJ2_indexOfSupplementary_4cfef_20 : decode cJ2_indexOfSupplementary_4cfef 20 = .ok (.iload_n 3, 1) := by decide +kernel
theorem dJ2_indexOfSupplementary_4cfef_21 : decode cJ2_indexOfSupplementary_4cfef 21 = .ok (.aload_n 0, 1) := by decide +kernel
theorem dJ2_indexOfSupplementary_4cfef_22 : decode cJ2_indexOfSupplementary_4cfef 22 = .ok (.invokestatic 96, 3) := by decide +kernel
theorem dJ2_indexOfSupplementary_4cfef_25 : decode cJ2_indexOfSupplementary_4cfef 25 = .ok (.iload_n 2, 1) := by decide +kernel
theorem dJ2_indexOfSupplementary_4cfef_26 : decode cJ2_indexOfSupplementary_4cfef 26 = .ok (.istore 6, 2) := by decide +kernel
theorem dJ2_indexOfSupplementary_4cfef_28 : decode cJ2_indexOfSupplementary_4cfef 28 = .ok (.iload 6, 2) := by decide +kernel
theorem dJ2_indexOfSupplementary_4cfef_30 : decode cJ2_indexOfSupplementary_4cfef 30 = .ok (.iload_n 3, 1) := by decide +kernel
theorem dJ2_indexOfSupplementary_4cfef_31 : decode cJ2_indexOfSupplementary_4cfef 31 = .ok (.iconst 1, 1) := by decide +kernel
theorem dJ2_indexOfSupplementary_4cfef_32 : decode cJ2_indexOfSupplementary_4cfef 32 = .ok (.isub, 1) := by decide +kernel
theorem dJ2_indexOfSupplementary_4cfef_33 : decode cJ2_indexOfSupplementary_4cfef 33 = .ok (.if_icmp .ge 36, 3) := by decide +kernel
theorem dJ2_indexOfSupplementary_4cfef_36 : decode cJ2_indexOfSupplementary_4cfef 36 = .ok (.aload_n 0, 1) := by decide +kernel
theorem dJ2_indexOfSupplementary_4cfef_37 : decode cJ2_indexOfSupplementary_4cfef 37 = .ok (.iload 6, 2) := by decide +kernel
theorem dJ2_indexOfSupplementary_4cfef_39 : decode cJ2_indexOfSupplementary_4cfef 39 = .ok (.invokestatic 71, 3) := by decide +kernel
theorem dJ2_indexOfSupplementary_4cfef_42 : decode cJ2_indexOfSupplementary_4cfef 42 = .ok (.iload 4, 2) := by decide +kernel
theorem dJ2_indexOfSupplementary_4cfef_44 : decode cJ2_indexOfSupplementary_4cfef 44 = .ok (.if_icmp .ne 19, 3) := by decide +kernel
theorem dJ2_indexOfSupplementary_4cfef_47 : decode cJ2_indexOfSupplementary_4cfef 47 = .ok (.aload_n 0, 1) := by decide +kernel
theorem dJ2_indexOfSupplementary_4cfef_48 : decode cJ2_indexOfSupplementary_4cfef 48 = .ok (.iload 6, 2) := by decide +kernel
theorem dJ2_indexOfSupplementary_4cfef_50 : decode cJ2_indexOfSupplementary_4cfef 50 = .ok (.iconst 1, 1) := by decide +kernel
theorem dJ2_indexOfSupplementary_4cfef_51 : decode cJ2_indexOfSupplementary_4cfef 51 = .ok (.iadd, 1) := by decide +kernel
theorem dJ2_indexOfSupplementary_4cfef_52 : decode cJ2_indexOfSupplementary_4cfef 52 = .ok (.invokestatic 71, 3) := by decide +kernel
theorem dJ2_indexOfSupplementary_4cfef_55 : decode cJ2_indexOfSupplementary_4cfef 55 = .ok (.iload 5, 2) := by decide +kernel
theorem dJ2_indexOfSupplementary_4cfef_57 : decode cJ2_indexOfSupplementary_4cfef 57 = .ok (.if_icmp .ne 6, 3) := by decide +kernel
theorem dJ2_indexOfSupplementary_4cfef_60 : decode cJ2_indexOfSupplementary_4cfef 60 = .ok (.iload 6, 2) := by decide +kernel
theorem dJ2_indexOfSupplementary_4cfef_62 : decode cJ2_indexOfSupplementary_4cfef 62 = .ok (.ireturn, 1) := by decide +kernel
theorem dJ2_indexOfSupplementary_4cfef_63 : decode cJ2_indexOfSupplementary_4cfef 63 = .ok (.iinc 6 1, 3) := by decide +kernel
theorem dJ2_indexOfSupplementary_4cfef_66 : decode cJ2_indexOfSupplementary_4cfef 66 = .ok (.goto (-38), 3) := by decide +kernel
theorem dJ2_indexOfSupplementary_4cfef_69 : decode cJ2_indexOfSupplementary_4cfef 69 = .ok (.iconst (-1), 1) := by decide +kernel
theorem dJ2_indexOfSupplementary_4cfef_70 : decode cJ2_indexOfSupplementary_4cfef 70 = .ok (.ireturn, 1) := by decide +kernel
theorem dJ2_checkBoundsBeginEnd_d044e_0 : decode cJ2_checkBoundsBeginEnd_d044e 0 = .ok (.iload_n 0, 1) := by decide +kernel
theorem dJ2_checkBoundsBeginEnd_d044e_1 : decode cJ2_checkBoundsBeginEnd_d044e 1 = .ok (.iload_n 1, 1) := by decide +kernel
theorem dJ2_checkBoundsBeginEnd_d044e_2 : decode cJ2_checkBoundsBeginEnd_d044e 2 = .ok (.aload_n 2, 1) := by decide +kernel
theorem dJ2_checkBoundsBeginEnd_d044e_3 : decode cJ2_checkBoundsBeginEnd_d044e 3 = .ok (.invokestatic 48, 3) := by decide +kernel
theorem dJ2_checkBoundsBeginEnd_d044e_6 : decode cJ2_checkBoundsBeginEnd_d044e 6 = .ok (.invokestatic 241, 3) := by decide +kernel
theorem dJ2_checkBoundsBeginEnd_d044e_9 : decode cJ2_checkBoundsBeginEnd_d044e 9 = .ok (.return_, 1) := by decide +kernel
theorem dJ7_fill_53178_0 : decode cJ7_fill_53178 0 = .ok (.iconst 0, 1) := by decide +kernel
theorem dJ7_fill_53178_1 : decode cJ7_fill_53178 1 = .ok (.istore_n 2, 1) := by decide +kernel
theorem dJ7_fill_53178_2 : decode cJ7_fill_53178 2 = .ok (.aload_n 0, 1) := by decide +kernel
theorem dJ7_fill_53178_3 : decode cJ7_fill_53178 3 = .ok (.arraylength, 1) := by decide +kernel
theorem dJ7_fill_53178_4 : decode cJ7_fill_53178 4 = .ok (.istore_n 3, 1) := by decide +kernel
theorem dJ7_fill_53178_5 : decode cJ7_fill_53178 5 = .ok (.iload_n 2, 1) := by decide +kernel
theorem dJ7_fill_53178_6 : decode cJ7_fill_53178 6 = .ok (.iload_n 3, 1) := by decide +kernel
theorem dJ7_fill_53178_7 : decode cJ7_fill_53178 7 = .ok (.if_icmp .ge 13, 3) := by decide +kernel
theorem dJ7_fill_53178_10 : decode cJ7_fill_53178 10 = .ok (.aload_n 0, 1) := by decide +kernel
theorem dJ7_fill_53178_11 : decode cJ7_fill_53178 11 = .ok (.iload_n 2, 1) := by decide +kernel
theorem dJ7_fill_53178_12 : decode cJ7_fill_53178 12 = .ok (.iload_n 1, 1) := by decide +kernel
theorem dJ7_fill_53178_13 : decode cJ7_fill_53178 13 = .ok (.iastore, 1) := by decide +kernel
theorem dJ7_fill_53178_14 : decode cJ7_fill_53178 14 = .ok (.iinc 2 1, 3) := by decide +kernel
theorem dJ7_fill_53178_17 : decode cJ7_fill_53178 17 = .ok (.goto (-12), 3) := by decide +kernel
theorem dJ7_fill_53178_20 : decode cJ7_fill_53178 20 = .ok (.return_, 1) := by decide +kernel
theorem dJ3_checkFromToIndex_8c36e_0 : decode cJ3_checkFromToIndex_8c36e 0 = .ok (.iload_n 0, 1) := by decide +kernel
theorem dJ3_checkFromToIndex_8c36e_1 : decode cJ3_checkFromToIndex_8c36e 1 = .ok (.ifCond .lt 13, 3) := by decide +kernel
theorem dJ3_checkFromToIndex_8c36e_4 : decode cJ3_checkFromToIndex_8c36e 4 = .ok (.iload_n 0, 1) := by decide +kernel
theorem dJ3_checkFromToIndex_8c36e_5 : decode cJ3_checkFromToIndex_8c36e 5 = .ok (.iload_n 1, 1) := by decide +kernel
theorem dJ3_checkFromToIndex_8c36e_6 : decode cJ3_checkFromToIndex_8c36e 6 = .ok (.if_icmp .gt 8, 3) := by decide +kernel
theorem dJ3_checkFromToIndex_8c36e_9 : decode cJ3_checkFromToIndex_8c36e 9 = .ok (.iload_n 1, 1) := by decide +kernel
theorem dJ3_checkFromToIndex_8c36e_10 : decode cJ3_checkFromToIndex_8c36e 10 = .ok (.iload_n 2, 1) := by decide +kernel
theorem dJ3_checkFromToIndex_8c36e_11 : decode cJ3_checkFromToIndex_8c36e 11 = .ok (.if_icmp .le 11, 3) := by decide +kernel
theorem dJ3_checkFromToIndex_8c36e_14 : decode cJ3_checkFromToIndex_8c36e 14 = .ok (.aload_n 3, 1) := by decide +kernel
theorem dJ3_checkFromToIndex_8c36e_15 : decode cJ3_checkFromToIndex_8c36e 15 = .ok (.iload_n 0, 1) := by decide +kernel
theorem dJ3_checkFromToIndex_8c36e_16 : decode cJ3_checkFromToIndex_8c36e 16 = .ok (.iload_n 1, 1) := by decide +kernel
theorem dJ3_checkFromToIndex_8c36e_17 : decode cJ3_checkFromToIndex_8c36e 17 = .ok (.iload_n 2, 1) := by decide +kernel
theorem dJ3_checkFromToIndex_8c36e_18 : decode cJ3_checkFromToIndex_8c36e 18 = .ok (.invokestatic 99, 3) := by decide +kernel
theorem dJ3_checkFromToIndex_8c36e_21 : decode cJ3_checkFromToIndex_8c36e 21 = .ok (.athrow, 1) := by decide +kernel
theorem dJ3_checkFromToIndex_8c36e_22 : decode cJ3_checkFromToIndex_8c36e 22 = .ok (.iload_n 0, 1) := by decide +kernel
theorem dJ3_checkFromToIndex_8c36e_23 : decode cJ3_checkFromToIndex_8c36e 23 = .ok (.ireturn, 1) := by decide +kernel
theorem dL_rests_0 : decode cL_rests 0 = .ok (.aload 7, 2) := by decide +kernel
theorem dL_rests_2 : decode cL_rests 2 = .ok (.iconst 0, 1) := by decide +kernel
theorem dL_rests_3 : decode cL_rests 3 = .ok (.aload_n 0, 1) := by decide +kernel
theorem dL_rests_4 : decode cL_rests 4 = .ok (.iload_n 1, 1) := by decide +kernel
theorem dL_rests_5 : decode cL_rests 5 = .ok (.iload_n 2, 1) := by decide +kernel
theorem dL_rests_6 : decode cL_rests 6 = .ok (.iload_n 3, 1) := by decide +kernel
theorem dL_rests_7 : decode cL_rests 7 = .ok (.iload 4, 2) := by decide +kernel
theorem dL_rests_9 : decode cL_rests 9 = .ok (.iload 5, 2) := by decide +kernel
theorem dL_rests_11 : decode cL_rests 11 = .ok (.iload 6, 2) := by decide +kernel
theorem dL_rests_13 : decode cL_rests 13 = .ok (.invokevirtual 7, 3) := by decide +kernel
theorem dL_rests_16 : decode cL_rests 16 = .ok (.i2l, 1) := by decide +kernel
theorem dL_rests_17 : decode cL_rests 17 = .ok (.lastore, 1) := by decide +kernel
theorem dL_rests_18 : decode cL_rests 18 = .ok (.goto 7, 3) := by decide +kernel
theorem dL_rests_21 : decode cL_rests 21 = .ok (.astore 8, 2) := by decide +kernel
theorem dL_rests_23 : decode cL_rests 23 = .ok (.iconst 1, 1) := by decide +kernel
theorem dL_rests_24 : decode cL_rests 24 = .ok (.ireturn, 1) := by decide +kernel
theorem dL_rests_25 : decode cL_rests 25 = .ok (.iconst 0, 1) := by decide +kernel
theorem dL_rests_26 : decode cL_rests 26 = .ok (.ireturn, 1) := by decide +kernel
theorem dL_law_0 : decode cL_law 0 = .ok (.new 8, 3) := by decide +kernel
theorem dL_law_3 : decode cL_law 3 = .ok (.dup, 1) := by decide +kernel
theorem dL_law_4 : decode cL_law 4 = .ok (.invokespecial 15, 3) := by decide +kernel
theorem dL_law_7 : decode cL_law 7 = .ok (.astore_n 1, 1) := by decide +kernel
theorem dL_law_8 : decode cL_law 8 = .ok (.new 16, 3) := by decide +kernel
theorem dL_law_11 : decode cL_law 11 = .ok (.dup, 1) := by decide +kernel
theorem dL_law_12 : decode cL_law 12 = .ok (.invokespecial 18, 3) := by decide +kernel
theorem dL_law_15 : decode cL_law 15 = .ok (.astore_n 2, 1) := by decide +kernel
theorem dL_law_16 : decode cL_law 16 = .ok (.iconst 1, 1) := by decide +kernel
theorem dL_law_17 : decode cL_law 17 = .ok (.newarray .long, 2) := by decide +kernel
theorem dL_law_19 : decode cL_law 19 = .ok (.astore_n 3, 1) := by decide +kernel
theorem dL_law_20 : decode cL_law 20 = .ok (.iconst 0, 1) := by decide +kernel
theorem dL_law_21 : decode cL_law 21 = .ok (.istore 4, 2) := by decide +kernel
theorem dL_law_23 : decode cL_law 23 = .ok (.iload 4, 2) := by decide +kernel
theorem dL_law_25 : decode cL_law 25 = .ok (.aload_n 0, 1) := by decide +kernel
theorem dL_law_26 : decode cL_law 26 = .ok (.arraylength, 1) := by decide +kernel
theorem dL_law_27 : decode cL_law 27 = .ok (.bipush 7, 2) := by decide +kernel
theorem dL_law_29 : decode cL_law 29 = .ok (.isub, 1) := by decide +kernel
theorem dL_law_30 : decode cL_law 30 = .ok (.if_icmp .gt 1098, 3) := by decide +kernel
theorem dL_law_33 : decode cL_law 33 = .ok (.aload_n 0, 1) := by decide +kernel
theorem dL_law_34 : decode cL_law 34 = .ok (.iload 4, 2) := by decide +kernel
theorem dL_law_36 : decode cL_law 36 = .ok (.iaload, 1) := by decide +kernel
theorem dL_law_37 : decode cL_law 37 = .ok (.bipush 31, 2) := by decide +kernel
theorem dL_law_39 : decode cL_law 39 = .ok (.iand, 1) := by decide +kernel
theorem dL_law_40 : decode cL_law 40 = .ok (.tableswitch 1082 0 22 #[108, 255, 268, 281, 318, 355, 392, 453, 466, 479, 504, 565, 602, 651, 700, 725, 738, 775, 800, 837, 955, 1004, 1057], 108) := by decide +kernel
theorem dL_law_148 : decode cL_law 148 = .ok (.aload_n 1, 1) := by decide +kernel
theorem dL_law_149 : decode cL_law 149 = .ok (.aload_n 0, 1) := by decide +kernel
theorem dL_law_150 : decode cL_law 150 = .ok (.iload 4, 2) := by decide +kernel
theorem dL_law_152 : decode cL_law 152 = .ok (.iconst 1, 1) := by decide +kernel
theorem dL_law_153 : decode cL_law 153 = .ok (.iadd, 1) := by decide +kernel
theorem dL_law_154 : decode cL_law 154 = .ok (.iaload, 1) := by decide +kernel
theorem dL_law_155 : decode cL_law 155 = .ok (.i2l, 1) := by decide +kernel
theorem dL_law_156 : decode cL_law 156 = .ok (.bipush 32, 2) := by decide +kernel
theorem dL_law_158 : decode cL_law 158 = .ok (.lshl, 1) := by decide +kernel
theorem dL_law_159 : decode cL_law 159 = .ok (.aload_n 0, 1) := by decide +kernel
theorem dL_law_160 : decode cL_law 160 = .ok (.iload 4, 2) := by decide +kernel
theorem dL_law_162 : decode cL_law 162 = .ok (.iconst 2, 1) := by decide +kernel
theorem dL_law_163 : decode cL_law 163 = .ok (.iadd, 1) := by decide +kernel
theorem dL_law_164 : decode cL_law 164 = .ok (.iaload, 1) := by decide +kernel
theorem dL_law_165 : decode cL_law 165 = .ok (.i2l, 1) := by decide +kernel
theorem dL_law_166 : decode cL_law 166 = .ok (.ldc2_w 19, 3) := by decide +kernel
theorem dL_law_169 : decode cL_law 169 = .ok (.land, 1) := by decide +kernel
theorem dL_law_170 : decode cL_law 170 = .ok (.lor, 1) := by decide +kernel
theorem dL_law_171 : decode cL_law 171 = .ok (.aload_n 0, 1) := by decide +kernel
theorem dL_law_172 : decode cL_law 172 = .ok (.iload 4, 2) := by decide +kernel
theorem dL_law_174 : decode cL_law 174 = .ok (.iconst 3, 1) := by decide +kernel
theorem dL_law_175 : decode cL_law 175 = .ok (.iadd, 1) := by decide +kernel
theorem dL_law_176 : decode cL_law 176 = .ok (.iaload, 1) := by decide +kernel
theorem dL_law_177 : decode cL_law 177 = .ok (.i2l, 1) := by decide +kernel
theorem dL_law_178 : decode cL_law 178 = .ok (.bipush 32, 2) := by decide +kernel
theorem dL_law_180 : decode cL_law 180 = .ok (.lshl, 1) := by decide +kernel
theorem dL_law_181 : decode cL_law 181 = .ok (.aload_n 0, 1) := by decide +kernel
theorem dL_law_182 : decode cL_law 182 = .ok (.iload 4, 2) := by decide +kernel
theorem dL_law_184 : decode cL_law 184 = .ok (.iconst 4, 1) := by decide +kernel
theorem dL_law_185 : decode cL_law 185 = .ok (.iadd, 1) := by decide +kernel
theorem dL_law_186 : decode cL_law 186 = .ok (.iaload, 1) := by decide +kernel
theorem dL_law_187 : decode cL_law 187 = .ok (.i2l, 1) := by decide +kernel
theorem dL_law_188 : decode cL_law 188 = .ok (.ldc2_w 19, 3) := by decide +kernel
theorem dL_law_191 : decode cL_law 191 = .ok (.land, 1) := by decide +kernel
theorem dL_law_192 : decode cL_law 192 = .ok (.lor, 1) := by decide +kernel
theorem dL_law_193 : decode cL_law 193 = .ok (.aload_n 0, 1) := by decide +kernel
theorem dL_law_194 : decode cL_law 194 = .ok (.iload 4, 2) := by decide +kernel
theorem dL_law_196 : decode cL_law 196 = .ok (.iconst 5, 1) := by decide +kernel
theorem dL_law_197 : decode cL_law 197 = .ok (.iadd, 1) := by decide +kernel
theorem dL_law_198 : decode cL_law 198 = .ok (.iaload, 1) := by decide +kernel
theorem dL_law_199 : decode cL_law 199 = .ok (.i2l, 1) := by decide +kernel
theorem dL_law_200 : decode cL_law 200 = .ok (.bipush 32, 2) := by decide +kernel
theorem dL_law_202 : decode cL_law 202 = .ok (.lshl, 1) := by decide +kernel
theorem dL_law_203 : decode cL_law 203 = .ok (.aload_n 0, 1) := by decide +kernel
theorem dL_law_204 : decode cL_law 204 = .ok (.iload 4, 2) := by decide +kernel
theorem dL_law_206 : decode cL_law 206 = .ok (.bipush 6, 2) := by decide +kernel
theorem dL_law_208 : decode cL_law 208 = .ok (.iadd, 1) := by decide +kernel
theorem dL_law_209 : decode cL_law 209 = .ok (.iaload, 1) := by decide +kernel
theorem dL_law_210 : decode cL_law 210 = .ok (.i2l, 1) := by decide +kernel
theorem dL_law_211 : decode cL_law 211 = .ok (.ldc2_w 19, 3) := by decide +kernel
theorem dL_law_214 : decode cL_law 214 = .ok (.land, 1) := by decide +kernel
theorem dL_law_215 : decode cL_law 215 = .ok (.lor, 1) := by decide +kernel
theorem dL_law_216 : decode cL_law 216 = .ok (.invokevirtual 21, 3) := by decide +kernel
theorem dL_law_219 : decode cL_law 219 = .ok (.aload_n 2, 1) := by decide +kernel
theorem dL_law_220 : decode cL_law 220 = .ok (.aload_n 0, 1) := by decide +kernel
theorem dL_law_221 : decode cL_law 221 = .ok (.iload 4, 2) := by decide +kernel
theorem dL_law_223 : decode cL_law 223 = .ok (.iconst 1, 1) := by decide +kernel
theorem dL_law_224 : decode cL_law 224 = .ok (.iadd, 1) := by decide +kernel
theorem dL_law_225 : decode cL_law 225 = .ok (.iaload, 1) := by decide +kernel
theorem dL_law_226 : decode cL_law 226 = .ok (.i2l, 1) := by decide +kernel
theorem dL_law_227 : decode cL_law 227 = .ok (.bipush 32, 2) := by decide +kernel
theorem dL_law_229 : decode cL_law 229 = .ok (.lshl, 1) := by decide +kernel
theorem dL_law_230 : decode cL_law 230 = .ok (.aload_n 0, 1) := by decide +kernel
theorem dL_law_231 : decode cL_law 231 = .ok (.iload 4, 2) := by decide +kernel
theorem dL_law_233 : decode cL_law 233 = .ok (.iconst 2, 1) := by decide +kernel
theorem dL_law_234 : decode cL_law 234 = .ok (.iadd, 1) := by decide +kernel
theorem dL_law_235 : decode cL_law 235 = .ok (.iaload, 1) := by decide +kernel
theorem dL_law_236 : decode cL_law 236 = .ok (.i2l, 1) := by decide +kernel
theorem dL_law_237 : decode cL_law 237 = .ok (.ldc2_w 19, 3) := by decide +kernel
theorem dL_law_240 : decode cL_law 240 = .ok (.land, 1) := by decide +kernel
theorem dL_law_241 : decode cL_law 241 = .ok (.lor, 1) := by decide +kernel
theorem dL_law_242 : decode cL_law 242 = .ok (.aload_n 0, 1) := by decide +kernel
theorem dL_law_243 : decode cL_law 243 = .ok (.iload 4, 2) := by decide +kernel
theorem dL_law_245 : decode cL_law 245 = .ok (.iconst 3, 1) := by decide +kernel
theorem dL_law_246 : decode cL_law 246 = .ok (.iadd, 1) := by decide +kernel
theorem dL_law_247 : decode cL_law 247 = .ok (.iaload, 1) := by decide +kernel
theorem dL_law_248 : decode cL_law 248 = .ok (.i2l, 1) := by decide +kernel
theorem dL_law_249 : decode cL_law 249 = .ok (.bipush 32, 2) := by decide +kernel
theorem dL_law_251 : decode cL_law 251 = .ok (.lshl, 1) := by decide +kernel
theorem dL_law_252 : decode cL_law 252 = .ok (.aload_n 0, 1) := by decide +kernel
theorem dL_law_253 : decode cL_law 253 = .ok (.iload 4, 2) := by decide +kernel
theorem dL_law_255 : decode cL_law 255 = .ok (.iconst 4, 1) := by decide +kernel
theorem dL_law_256 : decode cL_law 256 = .ok (.iadd, 1) := by decide +kernel
theorem dL_law_257 : decode cL_law 257 = .ok (.iaload, 1) := by decide +kernel
theorem dL_law_258 : decode cL_law 258 = .ok (.i2l, 1) := by decide +kernel
theorem dL_law_259 : decode cL_law 259 = .ok (.ldc2_w 19, 3) := by decide +kernel
theorem dL_law_262 : decode cL_law 262 = .ok (.land, 1) := by decide +kernel
theorem dL_law_263 : decode cL_law 263 = .ok (.lor, 1) := by decide +kernel
theorem dL_law_264 : decode cL_law 264 = .ok (.aload_n 0, 1) := by decide +kernel
theorem dL_law_265 : decode cL_law 265 = .ok (.iload 4, 2) := by decide +kernel
theorem dL_law_267 : decode cL_law 267 = .ok (.iconst 5, 1) := by decide +kernel
theorem dL_law_268 : decode cL_law 268 = .ok (.iadd, 1) := by decide +kernel
theorem dL_law_269 : decode cL_law 269 = .ok (.iaload, 1) := by decide +kernel
theorem dL_law_270 : decode cL_law 270 = .ok (.i2l, 1) := by decide +kernel
theorem dL_law_271 : decode cL_law 271 = .ok (.bipush 32, 2) := by decide +kernel
theorem dL_law_273 : decode cL_law 273 = .ok (.lshl, 1) := by decide +kernel
theorem dL_law_274 : decode cL_law 274 = .ok (.aload_n 0, 1) := by decide +kernel
theorem dL_law_275 : decode cL_law 275 = .ok (.iload 4, 2) := by decide +kernel
theorem dL_law_277 : decode cL_law 277 = .ok (.bipush 6, 2) := by decide +kernel
theorem dL_law_279 : decode cL_law 279 = .ok (.iadd, 1) := by decide +kernel
theorem dL_law_280 : decode cL_law 280 = .ok (.iaload, 1) := by decide +kernel
theorem dL_law_281 : decode cL_law 281 = .ok (.i2l, 1) := by decide +kernel
theorem dL_law_282 : decode cL_law 282 = .ok (.ldc2_w 19, 3) := by decide +kernel
theorem dL_law_285 : decode cL_law 285 = .ok (.land, 1) := by decide +kernel
theorem dL_law_286 : decode cL_law 286 = .ok (.lor, 1) := by decide +kernel
theorem dL_law_287 : decode cL_law 287 = .ok (.invokevirtual 25, 3) := by decide +kernel
theorem dL_law_290 : decode cL_law 290 = .ok (.if_icmp .eq 832, 3) := by decide +kernel
theorem dL_law_293 : decode cL_law 293 = .ok (.iconst 0, 1) := by decide +kernel
theorem dL_law_294 : decode cL_law 294 = .ok (.ireturn, 1) := by decide +kernel
theorem dL_law_295 : decode cL_law 295 = .ok (.aload_n 1, 1) := by decide +kernel
theorem dL_law_296 : decode cL_law 296 = .ok (.invokevirtual 26, 3) := by decide +kernel
theorem dL_law_299 : decode cL_law 299 = .ok (.aload_n 2, 1) := by decide +kernel
theorem dL_law_300 : decode cL_law 300 = .ok (.invokevirtual 30, 3) := by decide +kernel
theorem dL_law_303 : decode cL_law 303 = .ok (.if_icmp .eq 819, 3) := by decide +kernel
theorem dL_law_306 : decode cL_law 306 = .ok (.iconst 0, 1) := by decide +kernel
theorem dL_law_307 : decode cL_law 307 = .ok (.ireturn, 1) := by decide +kernel
theorem dL_law_308 : decode cL_law 308 = .ok (.aload_n 1, 1) := by decide +kernel
theorem dL_law_309 : decode cL_law 309 = .ok (.invokevirtual 31, 3) := by decide +kernel
theorem dL_law_312 : decode cL_law 312 = .ok (.aload_n 2, 1) := by decide +kernel
theorem dL_law_313 : decode cL_law 313 = .ok (.invokevirtual 34, 3) := by decide +kernel
theorem dL_law_316 : decode cL_law 316 = .ok (.if_icmp .eq 806, 3) := by decide +kernel
theorem dL_law_319 : decode cL_law 319 = .ok (.iconst 0, 1) := by decide +kernel
theorem dL_law_320 : decode cL_law 320 = .ok (.ireturn, 1) := by decide +kernel
theorem dL_law_321 : decode cL_law 321 = .ok (.aload_n 1, 1) := by decide +kernel
theorem dL_law_322 : decode cL_law 322 = .ok (.aload_n 0, 1) := by decide +kernel
theorem dL_law_323 : decode cL_law 323 = .ok (.iload 4, 2) := by decide +kernel
theorem dL_law_325 : decode cL_law 325 = .ok (.iconst 1, 1) := by decide +kernel
theorem dL_law_326 : decode cL_law 326 = .ok (.iadd, 1) := by decide +kernel
theorem dL_law_327 : decode cL_law 327 = .ok (.iaload, 1) := by decide +kernel
theorem dL_law_328 : decode cL_law 328 = .ok (.aload_n 0, 1) := by decide +kernel
theorem dL_law_329 : decode cL_law 329 = .ok (.iload 4, 2) := by decide +kernel
theorem dL_law_331 : decode cL_law 331 = .ok (.iconst 2, 1) := by decide +kernel
theorem dL_law_332 : decode cL_law 332 = .ok (.iadd, 1) := by decide +kernel
theorem dL_law_333 : decode cL_law 333 = .ok (.iaload, 1) := by decide +kernel
theorem dL_law_334 : decode cL_law 334 = .ok (.invokevirtual 35, 3) := by decide +kernel
theorem dL_law_337 : decode cL_law 337 = .ok (.aload_n 2, 1) := by decide +kernel
theorem dL_law_338 : decode cL_law 338 = .ok (.aload_n 0, 1) := by decide +kernel
theorem dL_law_339 : decode cL_law 339 = .ok (.iload 4, 2) := by decide +kernel
theorem dL_law_341 : decode cL_law 341 = .ok (.iconst 1, 1) := by decide +kernel
theorem dL_law_342 : decode cL_law 342 = .ok (.iadd, 1) := by decide +kernel
theorem dL_law_343 : decode cL_law 343 = .ok (.iaload, 1) := by decide +kernel
theorem dL_law_344 : decode cL_law 344 = .ok (.aload_n 0, 1) := by decide +kernel
theorem dL_law_345 : decode cL_law 345 = .ok (.iload 4, 2) := by decide +kernel
theorem dL_law_347 : decode cL_law 347 = .ok (.iconst 2, 1) := by decide +kernel
theorem dL_law_348 : decode cL_law 348 = .ok (.iadd, 1) := by decide +kernel
theorem dL_law_349 : decode cL_law 349 = .ok (.iaload, 1) := by decide +kernel
theorem dL_law_350 : decode cL_law 350 = .ok (.invokevirtual 39, 3) := by decide +kernel
theorem dL_law_353 : decode cL_law 353 = .ok (.if_icmp .eq 769, 3) := by decide +kernel
theorem dL_law_356 : decode cL_law 356 = .ok (.iconst 0, 1) := by decide +kernel
theorem dL_law_357 : decode cL_law 357 = .ok (.ireturn, 1) := by decide +kernel
theorem dL_law_358 : decode cL_law 358 = .ok (.aload_n 1, 1) := by decide +kernel
theorem dL_law_359 : decode cL_law 359 = .ok (.aload_n 0, 1) := by decide +kernel
theorem dL_law_360 : decode cL_law 360 = .ok (.iload 4, 2) := by decide +kernel
theorem dL_law_362 : decode cL_law 362 = .ok (.iconst 1, 1) := by decide +kernel
theorem dL_law_363 : decode cL_law 363 = .ok (.iadd, 1) := by decide +kernel
theorem dL_law_364 : decode cL_law 364 = .ok (.iaload, 1) := by decide +kernel
theorem dL_law_365 : decode cL_law 365 = .ok (.aload_n 0, 1) := by decide +kernel
theorem dL_law_366 : decode cL_law 366 = .ok (.iload 4, 2) := by decide +kernel
theorem dL_law_368 : decode cL_law 368 = .ok (.iconst 2, 1) := by decide +kernel
theorem dL_law_369 : decode cL_law 369 = .ok (.iadd, 1) := by decide +kernel
theorem dL_law_370 : decode cL_law 370 = .ok (.iaload, 1) := by decide +kernel
theorem dL_law_371 : decode cL_law 371 = .ok (.invokevirtual 40, 3) := by decide +kernel
theorem dL_law_374 : decode cL_law 374 = .ok (.aload_n 2, 1) := by decide +kernel
theorem dL_law_375 : decode cL_law 375 = .ok (.aload_n 0, 1) := by decide +kernel
theorem dL_law_376 : decode cL_law 376 = .ok (.iload 4, 2) := by decide +kernel
theorem dL_law_378 : decode cL_law 378 = .ok (.iconst 1, 1) := by decide +kernel
theorem dL_law_379 : decode cL_law 379 = .ok (.iadd, 1) := by decide +kernel
theorem dL_law_380 : decode cL_law 380 = .ok (.iaload, 1) := by decide +kernel
theorem dL_law_381 : decode cL_law 381 = .ok (.aload_n 0, 1) := by decide +kernel
theorem dL_law_382 : decode cL_law 382 = .ok (.iload 4, 2) := by decide +kernel
theorem dL_law_384 : decode cL_law 384 = .ok (.iconst 2, 1) := by decide +kernel
theorem dL_law_385 : decode cL_law 385 = .ok (.iadd, 1) := by decide +kernel
theorem dL_law_386 : decode cL_law 386 = .ok (.iaload, 1) := by decide +kernel
theorem dL_law_387 : decode cL_law 387 = .ok (.invokevirtual 43, 3) := by decide +kernel
theorem dL_law_390 : decode cL_law 390 = .ok (.if_icmp .eq 732, 3) := by decide +kernel
theorem dL_law_393 : decode cL_law 393 = .ok (.iconst 0, 1) := by decide +kernel
theorem dL_law_394 : decode cL_law 394 = .ok (.ireturn, 1) := by decide +kernel
theorem dL_law_395 : decode cL_law 395 = .ok (.aload_n 1, 1) := by decide +kernel
theorem dL_law_396 : decode cL_law 396 = .ok (.aload_n 0, 1) := by decide +kernel
theorem dL_law_397 : decode cL_law 397 = .ok (.iload 4, 2) := by decide +kernel
theorem dL_law_399 : decode cL_law 399 = .ok (.iconst 1, 1) := by decide +kernel
theorem dL_law_400 : decode cL_law 400 = .ok (.iadd, 1) := by decide +kernel
theorem dL_law_401 : decode cL_law 401 = .ok (.iaload, 1) := by decide +kernel
theorem dL_law_402 : decode cL_law 402 = .ok (.aload_n 0, 1) := by decide +kernel
theorem dL_law_403 : decode cL_law 403 = .ok (.iload 4, 2) := by decide +kernel
theorem dL_law_405 : decode cL_law 405 = .ok (.iconst 2, 1) := by decide +kernel
theorem dL_law_406 : decode cL_law 406 = .ok (.iadd, 1) := by decide +kernel
theorem dL_law_407 : decode cL_law 407 = .ok (.iaload, 1) := by decide +kernel
theorem dL_law_408 : decode cL_law 408 = .ok (.invokevirtual 44, 3) := by decide +kernel
theorem dL_law_411 : decode cL_law 411 = .ok (.aload_n 2, 1) := by decide +kernel
theorem dL_law_412 : decode cL_law 412 = .ok (.aload_n 0, 1) := by decide +kernel
theorem dL_law_413 : decode cL_law 413 = .ok (.iload 4, 2) := by decide +kernel
theorem dL_law_415 : decode cL_law 415 = .ok (.iconst 1, 1) := by decide +kernel
theorem dL_law_416 : decode cL_law 416 = .ok (.iadd, 1) := by decide +kernel
theorem dL_law_417 : decode cL_law 417 = .ok (.iaload, 1) := by decide +kernel
theorem dL_law_418 : decode cL_law 418 = .ok (.aload_n 0, 1) := by decide +kernel
theorem dL_law_419 : decode cL_law 419 = .ok (.iload 4, 2) := by decide +kernel
theorem dL_law_421 : decode cL_law 421 = .ok (.iconst 2, 1) := by decide +kernel
theorem dL_law_422 : decode cL_law 422 = .ok (.iadd, 1) := by decide +kernel
theorem dL_law_423 : decode cL_law 423 = .ok (.iaload, 1) := by decide +kernel
theorem dL_law_424 : decode cL_law 424 = .ok (.invokevirtual 48, 3) := by decide +kernel
theorem dL_law_427 : decode cL_law 427 = .ok (.if_icmp .eq 695, 3) := by decide +kernel
theorem dL_law_430 : decode cL_law 430 = .ok (.iconst 0, 1) := by decide +kernel
theorem dL_law_431 : decode cL_law 431 = .ok (.ireturn, 1) := by decide +kernel
theorem dL_law_432 : decode cL_law 432 = .ok (.aload_n 1, 1) := by decide +kernel
theorem dL_law_433 : decode cL_law 433 = .ok (.aload_n 0, 1) := by decide +kernel
theorem dL_law_434 : decode cL_law 434 = .ok (.iload 4, 2) := by decide +kernel
theorem dL_law_436 : decode cL_law 436 = .ok (.iconst 1, 1) := by decide +kernel
theorem dL_law_437 : decode cL_law 437 = .ok (.iadd, 1) := by decide +kernel
theorem dL_law_438 : decode cL_law 438 = .ok (.iaload, 1) := by decide +kernel
theorem dL_law_439 : decode cL_law 439 = .ok (.aload_n 0, 1) := by decide +kernel
theorem dL_law_440 : decode cL_law 440 = .ok (.iload 4, 2) := by decide +kernel
theorem dL_law_442 : decode cL_law 442 = .ok (.iconst 2, 1) := by decide +kernel
theorem dL_law_443 : decode cL_law 443 = .ok (.iadd, 1) := by decide +kernel
theorem dL_law_444 : decode cL_law 444 = .ok (.iaload, 1) := by decide +kernel
theorem dL_law_445 : decode cL_law 445 = .ok (.aload_n 0, 1) := by decide +kernel
theorem dL_law_446 : decode cL_law 446 = .ok (.iload 4, 2) := by decide +kernel
theorem dL_law_448 : decode cL_law 448 = .ok (.iconst 3, 1) := by decide +kernel
theorem dL_law_449 : decode cL_law 449 = .ok (.iadd, 1) := by decide +kernel
theorem dL_law_450 : decode cL_law 450 = .ok (.iaload, 1) := by decide +kernel
theorem dL_law_451 : decode cL_law 451 = .ok (.aload_n 0, 1) := by decide +kernel
theorem dL_law_452 : decode cL_law 452 = .ok (.iload 4, 2) := by decide +kernel
theorem dL_law_454 : decode cL_law 454 = .ok (.iconst 4, 1) := by decide +kernel
theorem dL_law_455 : decode cL_law 455 = .ok (.iadd, 1) := by decide +kernel
theorem dL_law_456 : decode cL_law 456 = .ok (.iaload, 1) := by decide +kernel
theorem dL_law_457 : decode cL_law 457 = .ok (.invokevirtual 49, 3) := by decide +kernel
theorem dL_law_460 : decode cL_law 460 = .ok (.aload_n 2, 1) := by decide +kernel
theorem dL_law_461 : decode cL_law 461 = .ok (.aload_n 0, 1) := by decide +kernel
theorem dL_law_462 : decode cL_law 462 = .ok (.iload 4, 2) := by decide +kernel
theorem dL_law_464 : decode cL_law 464 = .ok (.iconst 1, 1) := by decide +kernel
theorem dL_law_465 : decode cL_law 465 = .ok (.iadd, 1) := by decide +kernel
theorem dL_law_466 : decode cL_law 466 = .ok (.iaload, 1) := by decide +kernel
theorem dL_law_467 : decode cL_law 467 = .ok (.aload_n 0, 1) := by decide +kernel
theorem dL_law_468 : decode cL_law 468 = .ok (.iload 4, 2) := by decide +kernel
theorem dL_law_470 : decode cL_law 470 = .ok (.iconst 2, 1) := by decide +kernel
theorem dL_law_471 : decode cL_law 471 = .ok (.iadd, 1) := by decide +kernel
theorem dL_law_472 : decode cL_law 472 = .ok (.iaload, 1) := by decide +kernel
theorem dL_law_473 : decode cL_law 473 = .ok (.aload_n 0, 1) := by decide +kernel
theorem dL_law_474 : decode cL_law 474 = .ok (.iload 4, 2) := by decide +kernel
theorem dL_law_476 : decode cL_law 476 = .ok (.iconst 3, 1) := by decide +kernel
theorem dL_law_477 : decode cL_law 477 = .ok (.iadd, 1) := by decide +kernel
theorem dL_law_478 : decode cL_law 478 = .ok (.iaload, 1) := by decide +kernel
theorem dL_law_479 : decode cL_law 479 = .ok (.aload_n 0, 1) := by decide +kernel
theorem dL_law_480 : decode cL_law 480 = .ok (.iload 4, 2) := by decide +kernel
theorem dL_law_482 : decode cL_law 482 = .ok (.iconst 4, 1) := by decide +kernel
theorem dL_law_483 : decode cL_law 483 = .ok (.iadd, 1) := by decide +kernel
theorem dL_law_484 : decode cL_law 484 = .ok (.iaload, 1) := by decide +kernel
theorem dL_law_485 : decode cL_law 485 = .ok (.invokevirtual 53, 3) := by decide +kernel
theorem dL_law_488 : decode cL_law 488 = .ok (.if_icmp .eq 634, 3) := by decide +kernel
theorem dL_law_491 : decode cL_law 491 = .ok (.iconst 0, 1) := by decide +kernel
theorem dL_law_492 : decode cL_law 492 = .ok (.ireturn, 1) := by decide +kernel
theorem dL_law_493 : decode cL_law 493 = .ok (.aload_n 1, 1) := by decide +kernel
theorem dL_law_494 : decode cL_law 494 = .ok (.invokevirtual 54, 3) := by decide +kernel
theorem dL_law_497 : decode cL_law 497 = .ok (.aload_n 2, 1) := by decide +kernel
theorem dL_law_498 : decode cL_law 498 = .ok (.invokevirtual 57, 3) := by decide +kernel
theorem dL_law_501 : decode cL_law 501 = .ok (.if_icmp .eq 621, 3) := by decide +kernel
theorem dL_law_504 : decode cL_law 504 = .ok (.iconst 0, 1) := by decide +kernel
theorem dL_law_505 : decode cL_law 505 = .ok (.ireturn, 1) := by decide +kernel
theorem dL_law_506 : decode cL_law 506 = .ok (.aload_n 1, 1) := by decide +kernel
theorem dL_law_507 : decode cL_law 507 = .ok (.invokevirtual 58, 3) := by decide +kernel
theorem dL_law_510 : decode cL_law 510 = .ok (.aload_n 2, 1) := by decide +kernel
theorem dL_law_511 : decode cL_law 511 = .ok (.invokevirtual 62, 3) := by decide +kernel
theorem dL_law_514 : decode cL_law 514 = .ok (.if_icmp .eq 608, 3) := by decide +kernel
theorem dL_law_517 : decode cL_law 517 = .ok (.iconst 0, 1) := by decide +kernel
theorem dL_law_518 : decode cL_law 518 = .ok (.ireturn, 1) := by decide +kernel
theorem dL_law_519 : decode cL_law 519 = .ok (.aload_n 1, 1) := by decide +kernel
theorem dL_law_520 : decode cL_law 520 = .ok (.aload_n 0, 1) := by decide +kernel
theorem dL_law_521 : decode cL_law 521 = .ok (.iload 4, 2) := by decide +kernel
theorem dL_law_523 : decode cL_law 523 = .ok (.iconst 1, 1) := by decide +kernel
theorem dL_law_524 : decode cL_law 524 = .ok (.iadd, 1) := by decide +kernel
theorem dL_law_525 : decode cL_law 525 = .ok (.iaload, 1) := by decide +kernel
theorem dL_law_526 : decode cL_law 526 = .ok (.invokevirtual 63, 3) := by decide +kernel
theorem dL_law_529 : decode cL_law 529 = .ok (.aload_n 2, 1) := by decide +kernel
theorem dL_law_530 : decode cL_law 530 = .ok (.aload_n 0, 1) := by decide +kernel
theorem dL_law_531 : decode cL_law 531 = .ok (.iload 4, 2) := by decide +kernel
theorem dL_law_533 : decode cL_law 533 = .ok (.iconst 1, 1) := by decide +kernel
theorem dL_law_534 : decode cL_law 534 = .ok (.iadd, 1) := by decide +kernel
theorem dL_law_535 : decode cL_law 535 = .ok (.iaload, 1) := by decide +kernel
theorem dL_law_536 : decode cL_law 536 = .ok (.invokevirtual 67, 3) := by decide +kernel
theorem dL_law_539 : decode cL_law 539 = .ok (.if_icmp .eq 583, 3) := by decide +kernel
theorem dL_law_542 : decode cL_law 542 = .ok (.iconst 0, 1) := by decide +kernel
theorem dL_law_543 : decode cL_law 543 = .ok (.ireturn, 1) := by decide +kernel
theorem dL_law_544 : decode cL_law 544 = .ok (.aload_n 1, 1) := by decide +kernel
theorem dL_law_545 : decode cL_law 545 = .ok (.aload_n 0, 1) := by decide +kernel
theorem dL_law_546 : decode cL_law 546 = .ok (.iload 4, 2) := by decide +kernel
theorem dL_law_548 : decode cL_law 548 = .ok (.iconst 1, 1) := by decide +kernel
theorem dL_law_549 : decode cL_law 549 = .ok (.iadd, 1) := by decide +kernel
theorem dL_law_550 : decode cL_law 550 = .ok (.iaload, 1) := by decide +kernel
theorem dL_law_551 : decode cL_law 551 = .ok (.aload_n 0, 1) := by decide +kernel
theorem dL_law_552 : decode cL_law 552 = .ok (.iload 4, 2) := by decide +kernel
theorem dL_law_554 : decode cL_law 554 = .ok (.iconst 2, 1) := by decide +kernel
theorem dL_law_555 : decode cL_law 555 = .ok (.iadd, 1) := by decide +kernel
theorem dL_law_556 : decode cL_law 556 = .ok (.iaload, 1) := by decide +kernel
theorem dL_law_557 : decode cL_law 557 = .ok (.aload_n 0, 1) := by decide +kernel
theorem dL_law_558 : decode cL_law 558 = .ok (.iload 4, 2) := by decide +kernel
theorem dL_law_560 : decode cL_law 560 = .ok (.iconst 3, 1) := by decide +kernel
theorem dL_law_561 : decode cL_law 561 = .ok (.iadd, 1) := by decide +kernel
theorem dL_law_562 : decode cL_law 562 = .ok (.iaload, 1) := by decide +kernel
theorem dL_law_563 : decode cL_law 563 = .ok (.aload_n 0, 1) := by decide +kernel
theorem dL_law_564 : decode cL_law 564 = .ok (.iload 4, 2) := by decide +kernel
theorem dL_law_566 : decode cL_law 566 = .ok (.iconst 4, 1) := by decide +kernel
theorem dL_law_567 : decode cL_law 567 = .ok (.iadd, 1) := by decide +kernel
theorem dL_law_568 : decode cL_law 568 = .ok (.iaload, 1) := by decide +kernel
theorem dL_law_569 : decode cL_law 569 = .ok (.invokevirtual 68, 3) := by decide +kernel
theorem dL_law_572 : decode cL_law 572 = .ok (.aload_n 2, 1) := by decide +kernel
theorem dL_law_573 : decode cL_law 573 = .ok (.aload_n 0, 1) := by decide +kernel
theorem dL_law_574 : decode cL_law 574 = .ok (.iload 4, 2) := by decide +kernel
theorem dL_law_576 : decode cL_law 576 = .ok (.iconst 1, 1) := by decide +kernel
theorem dL_law_577 : decode cL_law 577 = .ok (.iadd, 1) := by decide +kernel
theorem dL_law_578 : decode cL_law 578 = .ok (.iaload, 1) := by decide +kernel
theorem dL_law_579 : decode cL_law 579 = .ok (.aload_n 0, 1) := by decide +kernel
theorem dL_law_580 : decode cL_law 580 = .ok (.iload 4, 2) := by decide +kernel
theorem dL_law_582 : decode cL_law 582 = .ok (.iconst 2, 1) := by decide +kernel
theorem dL_law_583 : decode cL_law 583 = .ok (.iadd, 1) := by decide +kernel
theorem dL_law_584 : decode cL_law 584 = .ok (.iaload, 1) := by decide +kernel
theorem dL_law_585 : decode cL_law 585 = .ok (.aload_n 0, 1) := by decide +kernel
theorem dL_law_586 : decode cL_law 586 = .ok (.iload 4, 2) := by decide +kernel
theorem dL_law_588 : decode cL_law 588 = .ok (.iconst 3, 1) := by decide +kernel
theorem dL_law_589 : decode cL_law 589 = .ok (.iadd, 1) := by decide +kernel
theorem dL_law_590 : decode cL_law 590 = .ok (.iaload, 1) := by decide +kernel
theorem dL_law_591 : decode cL_law 591 = .ok (.aload_n 0, 1) := by decide +kernel
theorem dL_law_592 : decode cL_law 592 = .ok (.iload 4, 2) := by decide +kernel
theorem dL_law_594 : decode cL_law 594 = .ok (.iconst 4, 1) := by decide +kernel
theorem dL_law_595 : decode cL_law 595 = .ok (.iadd, 1) := by decide +kernel
theorem dL_law_596 : decode cL_law 596 = .ok (.iaload, 1) := by decide +kernel
theorem dL_law_597 : decode cL_law 597 = .ok (.invokevirtual 71, 3) := by decide +kernel
theorem dL_law_600 : decode cL_law 600 = .ok (.if_icmp .eq 522, 3) := by decide +kernel
theorem dL_law_603 : decode cL_law 603 = .ok (.iconst 0, 1) := by decide +kernel
theorem dL_law_604 : decode cL_law 604 = .ok (.ireturn, 1) := by decide +kernel
theorem dL_law_605 : decode cL_law 605 = .ok (.aload_n 1, 1) := by decide +kernel
theorem dL_law_606 : decode cL_law 606 = .ok (.aload_n 0, 1) := by decide +kernel
theorem dL_law_607 : decode cL_law 607 = .ok (.iload 4, 2) := by decide +kernel
theorem dL_law_609 : decode cL_law 609 = .ok (.iconst 1, 1) := by decide +kernel
theorem dL_law_610 : decode cL_law 610 = .ok (.iadd, 1) := by decide +kernel
theorem dL_law_611 : decode cL_law 611 = .ok (.iaload, 1) := by decide +kernel
theorem dL_law_612 : decode cL_law 612 = .ok (.aload_n 0, 1) := by decide +kernel
theorem dL_law_613 : decode cL_law 613 = .ok (.iload 4, 2) := by decide +kernel
theorem dL_law_615 : decode cL_law 615 = .ok (.iconst 2, 1) := by decide +kernel
theorem dL_law_616 : decode cL_law 616 = .ok (.iadd, 1) := by decide +kernel
theorem dL_law_617 : decode cL_law 617 = .ok (.iaload, 1) := by decide +kernel
theorem dL_law_618 : decode cL_law 618 = .ok (.invokevirtual 72, 3) := by decide +kernel
theorem dL_law_621 : decode cL_law 621 = .ok (.aload_n 2, 1) := by decide +kernel
theorem dL_law_622 : decode cL_law 622 = .ok (.aload_n 0, 1) := by decide +kernel
theorem dL_law_623 : decode cL_law 623 = .ok (.iload 4, 2) := by decide +kernel
theorem dL_law_625 : decode cL_law 625 = .ok (.iconst 1, 1) := by decide +kernel
theorem dL_law_626 : decode cL_law 626 = .ok (.iadd, 1) := by decide +kernel
theorem dL_law_627 : decode cL_law 627 = .ok (.iaload, 1) := by decide +kernel
theorem dL_law_628 : decode cL_law 628 = .ok (.aload_n 0, 1) := by decide +kernel
theorem dL_law_629 : decode cL_law 629 = .ok (.iload 4, 2) := by decide +kernel
theorem dL_law_631 : decode cL_law 631 = .ok (.iconst 2, 1) := by decide +kernel
theorem dL_law_632 : decode cL_law 632 = .ok (.iadd, 1) := by decide +kernel
theorem dL_law_633 : decode cL_law 633 = .ok (.iaload, 1) := by decide +kernel
theorem dL_law_634 : decode cL_law 634 = .ok (.invokevirtual 75, 3) := by decide +kernel
theorem dL_law_637 : decode cL_law 637 = .ok (.if_icmp .eq 485, 3) := by decide +kernel
theorem dL_law_640 : decode cL_law 640 = .ok (.iconst 0, 1) := by decide +kernel
theorem dL_law_641 : decode cL_law 641 = .ok (.ireturn, 1) := by decide +kernel
theorem dL_law_642 : decode cL_law 642 = .ok (.aload_n 1, 1) := by decide +kernel
theorem dL_law_643 : decode cL_law 643 = .ok (.aload_n 0, 1) := by decide +kernel
theorem dL_law_644 : decode cL_law 644 = .ok (.iload 4, 2) := by decide +kernel
theorem dL_law_646 : decode cL_law 646 = .ok (.iconst 1, 1) := by decide +kernel
theorem dL_law_647 : decode cL_law 647 = .ok (.iadd, 1) := by decide +kernel
theorem dL_law_648 : decode cL_law 648 = .ok (.iaload, 1) := by decide +kernel
theorem dL_law_649 : decode cL_law 649 = .ok (.aload_n 0, 1) := by decide +kernel
theorem dL_law_650 : decode cL_law 650 = .ok (.iload 4, 2) := by decide +kernel
theorem dL_law_652 : decode cL_law 652 = .ok (.iconst 2, 1) := by decide +kernel
theorem dL_law_653 : decode cL_law 653 = .ok (.iadd, 1) := by decide +kernel
theorem dL_law_654 : decode cL_law 654 = .ok (.iaload, 1) := by decide +kernel
theorem dL_law_655 : decode cL_law 655 = .ok (.aload_n 0, 1) := by decide +kernel
theorem dL_law_656 : decode cL_law 656 = .ok (.iload 4, 2) := by decide +kernel
theorem dL_law_658 : decode cL_law 658 = .ok (.iconst 3, 1) := by decide +kernel
theorem dL_law_659 : decode cL_law 659 = .ok (.iadd, 1) := by decide +kernel
theorem dL_law_660 : decode cL_law 660 = .ok (.iaload, 1) := by decide +kernel
theorem dL_law_661 : decode cL_law 661 = .ok (.invokevirtual 76, 3) := by decide +kernel
theorem dL_law_664 : decode cL_law 664 = .ok (.aload_n 2, 1) := by decide +kernel
theorem dL_law_665 : decode cL_law 665 = .ok (.aload_n 0, 1) := by decide +kernel
theorem dL_law_666 : decode cL_law 666 = .ok (.iload 4, 2) := by decide +kernel
theorem dL_law_668 : decode cL_law 668 = .ok (.iconst 1, 1) := by decide +kernel
theorem dL_law_669 : decode cL_law 669 = .ok (.iadd, 1) := by decide +kernel
theorem dL_law_670 : decode cL_law 670 = .ok (.iaload, 1) := by decide +kernel
theorem dL_law_671 : decode cL_law 671 = .ok (.aload_n 0, 1) := by decide +kernel
theorem dL_law_672 : decode cL_law 672 = .ok (.iload 4, 2) := by decide +kernel
theorem dL_law_674 : decode cL_law 674 = .ok (.iconst 2, 1) := by decide +kernel
theorem dL_law_675 : decode cL_law 675 = .ok (.iadd, 1) := by decide +kernel
theorem dL_law_676 : decode cL_law 676 = .ok (.iaload, 1) := by decide +kernel
theorem dL_law_677 : decode cL_law 677 = .ok (.aload_n 0, 1) := by decide +kernel
theorem dL_law_678 : decode cL_law 678 = .ok (.iload 4, 2) := by decide +kernel
theorem dL_law_680 : decode cL_law 680 = .ok (.iconst 3, 1) := by decide +kernel
theorem dL_law_681 : decode cL_law 681 = .ok (.iadd, 1) := by decide +kernel
theorem dL_law_682 : decode cL_law 682 = .ok (.iaload, 1) := by decide +kernel
theorem dL_law_683 : decode cL_law 683 = .ok (.invokevirtual 80, 3) := by decide +kernel
theorem dL_law_686 : decode cL_law 686 = .ok (.if_icmp .eq 436, 3) := by decide +kernel
theorem dL_law_689 : decode cL_law 689 = .ok (.iconst 0, 1) := by decide +kernel
theorem dL_law_690 : decode cL_law 690 = .ok (.ireturn, 1) := by decide +kernel
theorem dL_law_691 : decode cL_law 691 = .ok (.aload_n 1, 1) := by decide +kernel
theorem dL_law_692 : decode cL_law 692 = .ok (.aload_n 0, 1) := by decide +kernel
theorem dL_law_693 : decode cL_law 693 = .ok (.iload 4, 2) := by decide +kernel
theorem dL_law_695 : decode cL_law 695 = .ok (.iconst 1, 1) := by decide +kernel
theorem dL_law_696 : decode cL_law 696 = .ok (.iadd, 1) := by decide +kernel
theorem dL_law_697 : decode cL_law 697 = .ok (.iaload, 1) := by decide +kernel
theorem dL_law_698 : decode cL_law 698 = .ok (.aload_n 0, 1) := by decide +kernel
theorem dL_law_699 : decode cL_law 699 = .ok (.iload 4, 2) := by decide +kernel
theorem dL_law_701 : decode cL_law 701 = .ok (.iconst 2, 1) := by decide +kernel
theorem dL_law_702 : decode cL_law 702 = .ok (.iadd, 1) := by decide +kernel
theorem dL_law_703 : decode cL_law 703 = .ok (.iaload, 1) := by decide +kernel
theorem dL_law_704 : decode cL_law 704 = .ok (.aload_n 0, 1) := by decide +kernel
theorem dL_law_705 : decode cL_law 705 = .ok (.iload 4, 2) := by decide +kernel
theorem dL_law_707 : decode cL_law 707 = .ok (.iconst 3, 1) := by decide +kernel
theorem dL_law_708 : decode cL_law 708 = .ok (.iadd, 1) := by decide +kernel
theorem dL_law_709 : decode cL_law 709 = .ok (.iaload, 1) := by decide +kernel
theorem dL_law_710 : decode cL_law 710 = .ok (.invokevirtual 81, 3) := by decide +kernel
theorem dL_law_713 : decode cL_law 713 = .ok (.aload_n 2, 1) := by decide +kernel
theorem dL_law_714 : decode cL_law 714 = .ok (.aload_n 0, 1) := by decide +kernel
theorem dL_law_715 : decode cL_law 715 = .ok (.iload 4, 2) := by decide +kernel
theorem dL_law_717 : decode cL_law 717 = .ok (.iconst 1, 1) := by decide +kernel
theorem dL_law_718 : decode cL_law 718 = .ok (.iadd, 1) := by decide +kernel
theorem dL_law_719 : decode cL_law 719 = .ok (.iaload, 1) := by decide +kernel
theorem dL_law_720 : decode cL_law 720 = .ok (.aload_n 0, 1) := by decide +kernel
theorem dL_law_721 : decode cL_law 721 = .ok (.iload 4, 2) := by decide +kernel
theorem dL_law_723 : decode cL_law 723 = .ok (.iconst 2, 1) := by decide +kernel
theorem dL_law_724 : decode cL_law 724 = .ok (.iadd, 1) := by decide +kernel
theorem dL_law_725 : decode cL_law 725 = .ok (.iaload, 1) := by decide +kernel
theorem dL_law_726 : decode cL_law 726 = .ok (.aload_n 0, 1) := by decide +kernel
theorem dL_law_727 : decode cL_law 727 = .ok (.iload 4, 2) := by decide +kernel
theorem dL_law_729 : decode cL_law 729 = .ok (.iconst 3, 1) := by decide +kernel
theorem dL_law_730 : decode cL_law 730 = .ok (.iadd, 1) := by decide +kernel
theorem dL_law_731 : decode cL_law 731 = .ok (.iaload, 1) := by decide +kernel
theorem dL_law_732 : decode cL_law 732 = .ok (.invokevirtual 85, 3) := by decide +kernel
theorem dL_law_735 : decode cL_law 735 = .ok (.if_icmp .eq 387, 3) := by decide +kernel
theorem dL_law_738 : decode cL_law 738 = .ok (.iconst 0, 1) := by decide +kernel
theorem dL_law_739 : decode cL_law 739 = .ok (.ireturn, 1) := by decide +kernel
theorem dL_law_740 : decode cL_law 740 = .ok (.aload_n 1, 1) := by decide +kernel
theorem dL_law_741 : decode cL_law 741 = .ok (.aload_n 0, 1) := by decide +kernel
theorem dL_law_742 : decode cL_law 742 = .ok (.iload 4, 2) := by decide +kernel
theorem dL_law_744 : decode cL_law 744 = .ok (.iconst 1, 1) := by decide +kernel
theorem dL_law_745 : decode cL_law 745 = .ok (.iadd, 1) := by decide +kernel
theorem dL_law_746 : decode cL_law 746 = .ok (.iaload, 1) := by decide +kernel
theorem dL_law_747 : decode cL_law 747 = .ok (.invokevirtual 86, 3) := by decide +kernel
theorem dL_law_750 : decode cL_law 750 = .ok (.aload_n 2, 1) := by decide +kernel
theorem dL_law_751 : decode cL_law 751 = .ok (.aload_n 0, 1) := by decide +kernel
theorem dL_law_752 : decode cL_law 752 = .ok (.iload 4, 2) := by decide +kernel
theorem dL_law_754 : decode cL_law 754 = .ok (.iconst 1, 1) := by decide +kernel
theorem dL_law_755 : decode cL_law 755 = .ok (.iadd, 1) := by decide +kernel
theorem dL_law_756 : decode cL_law 756 = .ok (.iaload, 1) := by decide +kernel
theorem dL_law_757 : decode cL_law 757 = .ok (.invokevirtual 89, 3) := by decide +kernel
theorem dL_law_760 : decode cL_law 760 = .ok (.if_icmp .eq 362, 3) := by decide +kernel
theorem dL_law_763 : decode cL_law 763 = .ok (.iconst 0, 1) := by decide +kernel
theorem dL_law_764 : decode cL_law 764 = .ok (.ireturn, 1) := by decide +kernel
theorem dL_law_765 : decode cL_law 765 = .ok (.aload_n 1, 1) := by decide +kernel
theorem dL_law_766 : decode cL_law 766 = .ok (.invokevirtual 90, 3) := by decide +kernel
theorem dL_law_769 : decode cL_law 769 = .ok (.aload_n 2, 1) := by decide +kernel
theorem dL_law_770 : decode cL_law 770 = .ok (.invokevirtual 93, 3) := by decide +kernel
theorem dL_law_773 : decode cL_law 773 = .ok (.if_icmp .eq 349, 3) := by decide +kernel
theorem dL_law_776 : decode cL_law 776 = .ok (.iconst 0, 1) := by decide +kernel
theorem dL_law_777 : decode cL_law 777 = .ok (.ireturn, 1) := by decide +kernel
theorem dL_law_778 : decode cL_law 778 = .ok (.aload_n 1, 1) := by decide +kernel
theorem dL_law_779 : decode cL_law 779 = .ok (.aload_n 0, 1) := by decide +kernel
theorem dL_law_780 : decode cL_law 780 = .ok (.iload 4, 2) := by decide +kernel
theorem dL_law_782 : decode cL_law 782 = .ok (.iconst 1, 1) := by decide +kernel
theorem dL_law_783 : decode cL_law 783 = .ok (.iadd, 1) := by decide +kernel
theorem dL_law_784 : decode cL_law 784 = .ok (.iaload, 1) := by decide +kernel
theorem dL_law_785 : decode cL_law 785 = .ok (.aload_n 0, 1) := by decide +kernel
theorem dL_law_786 : decode cL_law 786 = .ok (.iload 4, 2) := by decide +kernel
theorem dL_law_788 : decode cL_law 788 = .ok (.iconst 2, 1) := by decide +kernel
theorem dL_law_789 : decode cL_law 789 = .ok (.iadd, 1) := by decide +kernel
theorem dL_law_790 : decode cL_law 790 = .ok (.iaload, 1) := by decide +kernel
theorem dL_law_791 : decode cL_law 791 = .ok (.invokevirtual 94, 3) := by decide +kernel
theorem dL_law_794 : decode cL_law 794 = .ok (.aload_n 2, 1) := by decide +kernel
theorem dL_law_795 : decode cL_law 795 = .ok (.aload_n 0, 1) := by decide +kernel
theorem dL_law_796 : decode cL_law 796 = .ok (.iload 4, 2) := by decide +kernel
theorem dL_law_798 : decode cL_law 798 = .ok (.iconst 1, 1) := by decide +kernel
theorem dL_law_799 : decode cL_law 799 = .ok (.iadd, 1) := by decide +kernel
theorem dL_law_800 : decode cL_law 800 = .ok (.iaload, 1) := by decide +kernel
theorem dL_law_801 : decode cL_law 801 = .ok (.aload_n 0, 1) := by decide +kernel
theorem dL_law_802 : decode cL_law 802 = .ok (.iload 4, 2) := by decide +kernel
theorem dL_law_804 : decode cL_law 804 = .ok (.iconst 2, 1) := by decide +kernel
theorem dL_law_805 : decode cL_law 805 = .ok (.iadd, 1) := by decide +kernel
theorem dL_law_806 : decode cL_law 806 = .ok (.iaload, 1) := by decide +kernel
theorem dL_law_807 : decode cL_law 807 = .ok (.invokevirtual 97, 3) := by decide +kernel
theorem dL_law_810 : decode cL_law 810 = .ok (.if_icmp .eq 312, 3) := by decide +kernel
theorem dL_law_813 : decode cL_law 813 = .ok (.iconst 0, 1) := by decide +kernel
theorem dL_law_814 : decode cL_law 814 = .ok (.ireturn, 1) := by decide +kernel
theorem dL_law_815 : decode cL_law 815 = .ok (.aload_n 1, 1) := by decide +kernel
theorem dL_law_816 : decode cL_law 816 = .ok (.aload_n 0, 1) := by decide +kernel
theorem dL_law_817 : decode cL_law 817 = .ok (.iload 4, 2) := by decide +kernel
theorem dL_law_819 : decode cL_law 819 = .ok (.iconst 1, 1) := by decide +kernel
theorem dL_law_820 : decode cL_law 820 = .ok (.iadd, 1) := by decide +kernel
theorem dL_law_821 : decode cL_law 821 = .ok (.iaload, 1) := by decide +kernel
theorem dL_law_822 : decode cL_law 822 = .ok (.invokevirtual 98, 3) := by decide +kernel
theorem dL_law_825 : decode cL_law 825 = .ok (.aload_n 2, 1) := by decide +kernel
theorem dL_law_826 : decode cL_law 826 = .ok (.aload_n 0, 1) := by decide +kernel
theorem dL_law_827 : decode cL_law 827 = .ok (.iload 4, 2) := by decide +kernel
theorem dL_law_829 : decode cL_law 829 = .ok (.iconst 1, 1) := by decide +kernel
theorem dL_law_830 : decode cL_law 830 = .ok (.iadd, 1) := by decide +kernel
theorem dL_law_831 : decode cL_law 831 = .ok (.iaload, 1) := by decide +kernel
theorem dL_law_832 : decode cL_law 832 = .ok (.invokevirtual 101, 3) := by decide +kernel
theorem dL_law_835 : decode cL_law 835 = .ok (.if_icmp .eq 287, 3) := by decide +kernel
theorem dL_law_838 : decode cL_law 838 = .ok (.iconst 0, 1) := by decide +kernel
theorem dL_law_839 : decode cL_law 839 = .ok (.ireturn, 1) := by decide +kernel
theorem dL_law_840 : decode cL_law 840 = .ok (.aload_n 1, 1) := by decide +kernel
theorem dL_law_841 : decode cL_law 841 = .ok (.aload_n 0, 1) := by decide +kernel
theorem dL_law_842 : decode cL_law 842 = .ok (.iload 4, 2) := by decide +kernel
theorem dL_law_844 : decode cL_law 844 = .ok (.iconst 1, 1) := by decide +kernel
theorem dL_law_845 : decode cL_law 845 = .ok (.iadd, 1) := by decide +kernel
theorem dL_law_846 : decode cL_law 846 = .ok (.iaload, 1) := by decide +kernel
theorem dL_law_847 : decode cL_law 847 = .ok (.aload_n 0, 1) := by decide +kernel
theorem dL_law_848 : decode cL_law 848 = .ok (.iload 4, 2) := by decide +kernel
theorem dL_law_850 : decode cL_law 850 = .ok (.iconst 2, 1) := by decide +kernel
theorem dL_law_851 : decode cL_law 851 = .ok (.iadd, 1) := by decide +kernel
theorem dL_law_852 : decode cL_law 852 = .ok (.iaload, 1) := by decide +kernel
theorem dL_law_853 : decode cL_law 853 = .ok (.invokevirtual 102, 3) := by decide +kernel
theorem dL_law_856 : decode cL_law 856 = .ok (.aload_n 2, 1) := by decide +kernel
theorem dL_law_857 : decode cL_law 857 = .ok (.aload_n 0, 1) := by decide +kernel
theorem dL_law_858 : decode cL_law 858 = .ok (.iload 4, 2) := by decide +kernel
theorem dL_law_860 : decode cL_law 860 = .ok (.iconst 1, 1) := by decide +kernel
theorem dL_law_861 : decode cL_law 861 = .ok (.iadd, 1) := by decide +kernel
theorem dL_law_862 : decode cL_law 862 = .ok (.iaload, 1) := by decide +kernel
theorem dL_law_863 : decode cL_law 863 = .ok (.aload_n 0, 1) := by decide +kernel
theorem dL_law_864 : decode cL_law 864 = .ok (.iload 4, 2) := by decide +kernel
theorem dL_law_866 : decode cL_law 866 = .ok (.iconst 2, 1) := by decide +kernel
theorem dL_law_867 : decode cL_law 867 = .ok (.iadd, 1) := by decide +kernel
theorem dL_law_868 : decode cL_law 868 = .ok (.iaload, 1) := by decide +kernel
theorem dL_law_869 : decode cL_law 869 = .ok (.invokevirtual 105, 3) := by decide +kernel
theorem dL_law_872 : decode cL_law 872 = .ok (.if_icmp .eq 250, 3) := by decide +kernel
theorem dL_law_875 : decode cL_law 875 = .ok (.iconst 0, 1) := by decide +kernel
theorem dL_law_876 : decode cL_law 876 = .ok (.ireturn, 1) := by decide +kernel
theorem dL_law_877 : decode cL_law 877 = .ok (.aload_n 1, 1) := by decide +kernel
theorem dL_law_878 : decode cL_law 878 = .ok (.aload_n 0, 1) := by decide +kernel
theorem dL_law_879 : decode cL_law 879 = .ok (.iload 4, 2) := by decide +kernel
theorem dL_law_881 : decode cL_law 881 = .ok (.iconst 1, 1) := by decide +kernel
theorem dL_law_882 : decode cL_law 882 = .ok (.iadd, 1) := by decide +kernel
theorem dL_law_883 : decode cL_law 883 = .ok (.iaload, 1) := by decide +kernel
theorem dL_law_884 : decode cL_law 884 = .ok (.aload_n 0, 1) := by decide +kernel
theorem dL_law_885 : decode cL_law 885 = .ok (.iload 4, 2) := by decide +kernel
theorem dL_law_887 : decode cL_law 887 = .ok (.iconst 2, 1) := by decide +kernel
theorem dL_law_888 : decode cL_law 888 = .ok (.iadd, 1) := by decide +kernel
theorem dL_law_889 : decode cL_law 889 = .ok (.iaload, 1) := by decide +kernel
theorem dL_law_890 : decode cL_law 890 = .ok (.aload_n 0, 1) := by decide +kernel
theorem dL_law_891 : decode cL_law 891 = .ok (.iload 4, 2) := by decide +kernel
theorem dL_law_893 : decode cL_law 893 = .ok (.iconst 3, 1) := by decide +kernel
theorem dL_law_894 : decode cL_law 894 = .ok (.iadd, 1) := by decide +kernel
theorem dL_law_895 : decode cL_law 895 = .ok (.iaload, 1) := by decide +kernel
theorem dL_law_896 : decode cL_law 896 = .ok (.aload_n 0, 1) := by decide +kernel
theorem dL_law_897 : decode cL_law 897 = .ok (.iload 4, 2) := by decide +kernel
theorem dL_law_899 : decode cL_law 899 = .ok (.iconst 4, 1) := by decide +kernel
theorem dL_law_900 : decode cL_law 900 = .ok (.iadd, 1) := by decide +kernel
theorem dL_law_901 : decode cL_law 901 = .ok (.iaload, 1) := by decide +kernel
theorem dL_law_902 : decode cL_law 902 = .ok (.aload_n 0, 1) := by decide +kernel
theorem dL_law_903 : decode cL_law 903 = .ok (.iload 4, 2) := by decide +kernel
theorem dL_law_905 : decode cL_law 905 = .ok (.iconst 5, 1) := by decide +kernel
theorem dL_law_906 : decode cL_law 906 = .ok (.iadd, 1) := by decide +kernel
theorem dL_law_907 : decode cL_law 907 = .ok (.iaload, 1) := by decide +kernel
theorem dL_law_908 : decode cL_law 908 = .ok (.aload_n 0, 1) := by decide +kernel
theorem dL_law_909 : decode cL_law 909 = .ok (.iload 4, 2) := by decide +kernel
theorem dL_law_911 : decode cL_law 911 = .ok (.bipush 6, 2) := by decide +kernel
theorem dL_law_913 : decode cL_law 913 = .ok (.iadd, 1) := by decide +kernel
theorem dL_law_914 : decode cL_law 914 = .ok (.iaload, 1) := by decide +kernel
theorem dL_law_915 : decode cL_law 915 = .ok (.aload_n 3, 1) := by decide +kernel
theorem dL_law_916 : decode cL_law 916 = .ok (.invokestatic 106, 3) := by decide +kernel
theorem dL_law_919 : decode cL_law 919 = .ok (.istore 5, 2) := by decide +kernel
theorem dL_law_921 : decode cL_law 921 = .ok (.aload_n 2, 1) := by decide +kernel
theorem dL_law_922 : decode cL_law 922 = .ok (.aload_n 0, 1) := by decide +kernel
theorem dL_law_923 : decode cL_law 923 = .ok (.iload 4, 2) := by decide +kernel
theorem dL_law_925 : decode cL_law 925 = .ok (.iconst 1, 1) := by decide +kernel
theorem dL_law_926 : decode cL_law 926 = .ok (.iadd, 1) := by decide +kernel
theorem dL_law_927 : decode cL_law 927 = .ok (.iaload, 1) := by decide +kernel
theorem dL_law_928 : decode cL_law 928 = .ok (.aload_n 0, 1) := by decide +kernel
theorem dL_law_929 : decode cL_law 929 = .ok (.iload 4, 2) := by decide +kernel
theorem dL_law_931 : decode cL_law 931 = .ok (.iconst 2, 1) := by decide +kernel
theorem dL_law_932 : decode cL_law 932 = .ok (.iadd, 1) := by decide +kernel
theorem dL_law_933 : decode cL_law 933 = .ok (.iaload, 1) := by decide +kernel
theorem dL_law_934 : decode cL_law 934 = .ok (.aload_n 0, 1) := by decide +kernel
theorem dL_law_935 : decode cL_law 935 = .ok (.iload 4, 2) := by decide +kernel
theorem dL_law_937 : decode cL_law 937 = .ok (.iconst 3, 1) := by decide +kernel
theorem dL_law_938 : decode cL_law 938 = .ok (.iadd, 1) := by decide +kernel
theorem dL_law_939 : decode cL_law 939 = .ok (.iaload, 1) := by decide +kernel
theorem dL_law_940 : decode cL_law 940 = .ok (.aload_n 0, 1) := by decide +kernel
theorem dL_law_941 : decode cL_law 941 = .ok (.iload 4, 2) := by decide +kernel
theorem dL_law_943 : decode cL_law 943 = .ok (.iconst 4, 1) := by decide +kernel
theorem dL_law_944 : decode cL_law 944 = .ok (.iadd, 1) := by decide +kernel
theorem dL_law_945 : decode cL_law 945 = .ok (.iaload, 1) := by decide +kernel
theorem dL_law_946 : decode cL_law 946 = .ok (.aload_n 0, 1) := by decide +kernel
theorem dL_law_947 : decode cL_law 947 = .ok (.iload 4, 2) := by decide +kernel
theorem dL_law_949 : decode cL_law 949 = .ok (.iconst 5, 1) := by decide +kernel
theorem dL_law_950 : decode cL_law 950 = .ok (.iadd, 1) := by decide +kernel
theorem dL_law_951 : decode cL_law 951 = .ok (.iaload, 1) := by decide +kernel
theorem dL_law_952 : decode cL_law 952 = .ok (.aload_n 0, 1) := by decide +kernel
theorem dL_law_953 : decode cL_law 953 = .ok (.iload 4, 2) := by decide +kernel
theorem dL_law_955 : decode cL_law 955 = .ok (.bipush 6, 2) := by decide +kernel
theorem dL_law_957 : decode cL_law 957 = .ok (.iadd, 1) := by decide +kernel
theorem dL_law_958 : decode cL_law 958 = .ok (.iaload, 1) := by decide +kernel
theorem dL_law_959 : decode cL_law 959 = .ok (.invokevirtual 111, 3) := by decide +kernel
theorem dL_law_962 : decode cL_law 962 = .ok (.istore 6, 2) := by decide +kernel
theorem dL_law_964 : decode cL_law 964 = .ok (.aload_n 2, 1) := by decide +kernel
theorem dL_law_965 : decode cL_law 965 = .ok (.invokevirtual 112, 3) := by decide +kernel
theorem dL_law_968 : decode cL_law 968 = .ok (.iload 5, 2) := by decide +kernel
theorem dL_law_970 : decode cL_law 970 = .ok (.if_icmp .eq 5, 3) := by decide +kernel
theorem dL_law_973 : decode cL_law 973 = .ok (.iconst 0, 1) := by decide +kernel
theorem dL_law_974 : decode cL_law 974 = .ok (.ireturn, 1) := by decide +kernel
theorem dL_law_975 : decode cL_law 975 = .ok (.iload 5, 2) := by decide +kernel
theorem dL_law_977 : decode cL_law 977 = .ok (.ifCond .ne 15, 3) := by decide +kernel
theorem dL_law_980 : decode cL_law 980 = .ok (.aload_n 3, 1) := by decide +kernel
theorem dL_law_981 : decode cL_law 981 = .ok (.iconst 0, 1) := by decide +kernel
theorem dL_law_982 : decode cL_law 982 = .ok (.laload, 1) := by decide +kernel
theorem dL_law_983 : decode cL_law 983 = .ok (.iload 6, 2) := by decide +kernel
theorem dL_law_985 : decode cL_law 985 = .ok (.i2l, 1) := by decide +kernel
theorem dL_law_986 : decode cL_law 986 = .ok (.lcmp, 1) := by decide +kernel
theorem dL_law_987 : decode cL_law 987 = .ok (.ifCond .eq 5, 3) := by decide +kernel
theorem dL_law_990 : decode cL_law 990 = .ok (.iconst 0, 1) := by decide +kernel
theorem dL_law_991 : decode cL_law 991 = .ok (.ireturn, 1) := by decide +kernel
theorem dL_law_992 : decode cL_law 992 = .ok (.goto 130, 3) := by decide +kernel
theorem dL_law_995 : decode cL_law 995 = .ok (.aload_n 1, 1) := by decide +kernel
theorem dL_law_996 : decode cL_law 996 = .ok (.aload_n 0, 1) := by decide +kernel
theorem dL_law_997 : decode cL_law 997 = .ok (.iload 4, 2) := by decide +kernel
theorem dL_law_999 : decode cL_law 999 = .ok (.iconst 1, 1) := by decide +kernel
theorem dL_law_1000 : decode cL_law 1000 = .ok (.iadd, 1) := by decide +kernel
theorem dL_law_1001 : decode cL_law 1001 = .ok (.iaload, 1) := by decide +kernel
theorem dL_law_1002 : decode cL_law 1002 = .ok (.aload_n 0, 1) := by decide +kernel
theorem dL_law_1003 : decode cL_law 1003 = .ok (.iload 4, 2) := by decide +kernel
theorem dL_law_1005 : decode cL_law 1005 = .ok (.iconst 2, 1) := by decide +kernel
theorem dL_law_1006 : decode cL_law 1006 = .ok (.iadd, 1) := by decide +kernel
theorem dL_law_1007 : decode cL_law 1007 = .ok (.iaload, 1) := by decide +kernel
theorem dL_law_1008 : decode cL_law 1008 = .ok (.aload_n 0, 1) := by decide +kernel
theorem dL_law_1009 : decode cL_law 1009 = .ok (.iload 4, 2) := by decide +kernel
theorem dL_law_1011 : decode cL_law 1011 = .ok (.iconst 3, 1) := by decide +kernel
theorem dL_law_1012 : decode cL_law 1012 = .ok (.iadd, 1) := by decide +kernel
theorem dL_law_1013 : decode cL_law 1013 = .ok (.iaload, 1) := by decide +kernel
theorem dL_law_1014 : decode cL_law 1014 = .ok (.invokevirtual 115, 3) := by decide +kernel
theorem dL_law_1017 : decode cL_law 1017 = .ok (.aload_n 2, 1) := by decide +kernel
theorem dL_law_1018 : decode cL_law 1018 = .ok (.aload_n 0, 1) := by decide +kernel
theorem dL_law_1019 : decode cL_law 1019 = .ok (.iload 4, 2) := by decide +kernel
theorem dL_law_1021 : decode cL_law 1021 = .ok (.iconst 1, 1) := by decide +kernel
theorem dL_law_1022 : decode cL_law 1022 = .ok (.iadd, 1) := by decide +kernel
theorem dL_law_1023 : decode cL_law 1023 = .ok (.iaload, 1) := by decide +kernel
theorem dL_law_1024 : decode cL_law 1024 = .ok (.aload_n 0, 1) := by decide +kernel
theorem dL_law_1025 : decode cL_law 1025 = .ok (.iload 4, 2) := by decide +kernel
theorem dL_law_1027 : decode cL_law 1027 = .ok (.iconst 2, 1) := by decide +kernel
theorem dL_law_1028 : decode cL_law 1028 = .ok (.iadd, 1) := by decide +kernel
theorem dL_law_1029 : decode cL_law 1029 = .ok (.iaload, 1) := by decide +kernel
theorem dL_law_1030 : decode cL_law 1030 = .ok (.aload_n 0, 1) := by decide +kernel
theorem dL_law_1031 : decode cL_law 1031 = .ok (.iload 4, 2) := by decide +kernel
theorem dL_law_1033 : decode cL_law 1033 = .ok (.iconst 3, 1) := by decide +kernel
theorem dL_law_1034 : decode cL_law 1034 = .ok (.iadd, 1) := by decide +kernel
theorem dL_law_1035 : decode cL_law 1035 = .ok (.iaload, 1) := by decide +kernel
theorem dL_law_1036 : decode cL_law 1036 = .ok (.invokevirtual 118, 3) := by decide +kernel
theorem dL_law_1039 : decode cL_law 1039 = .ok (.if_icmp .eq 83, 3) := by decide +kernel
theorem dL_law_1042 : decode cL_law 1042 = .ok (.iconst 0, 1) := by decide +kernel
theorem dL_law_1043 : decode cL_law 1043 = .ok (.ireturn, 1) := by decide +kernel
theorem dL_law_1044 : decode cL_law 1044 = .ok (.aload_n 1, 1) := by decide +kernel
theorem dL_law_1045 : decode cL_law 1045 = .ok (.aload_n 0, 1) := by decide +kernel
theorem dL_law_1046 : decode cL_law 1046 = .ok (.iload 4, 2) := by decide +kernel
theorem dL_law_1048 : decode cL_law 1048 = .ok (.iconst 1, 1) := by decide +kernel
theorem dL_law_1049 : decode cL_law 1049 = .ok (.iadd, 1) := by decide +kernel
theorem dL_law_1050 : decode cL_law 1050 = .ok (.iaload, 1) := by decide +kernel
theorem dL_law_1051 : decode cL_law 1051 = .ok (.aload_n 0, 1) := by decide +kernel
theorem dL_law_1052 : decode cL_law 1052 = .ok (.iload 4, 2) := by decide +kernel
theorem dL_law_1054 : decode cL_law 1054 = .ok (.iconst 2, 1) := by decide +kernel
theorem dL_law_1055 : decode cL_law 1055 = .ok (.iadd, 1) := by decide +kernel
theorem dL_law_1056 : decode cL_law 1056 = .ok (.iaload, 1) := by decide +kernel
theorem dL_law_1057 : decode cL_law 1057 = .ok (.ifCond .eq 7, 3) := by decide +kernel
theorem dL_law_1060 : decode cL_law 1060 = .ok (.iconst 1, 1) := by decide +kernel
theorem dL_law_1061 : decode cL_law 1061 = .ok (.goto 4, 3) := by decide +kernel
theorem dL_law_1064 : decode cL_law 1064 = .ok (.iconst 0, 1) := by decide +kernel
theorem dL_law_1065 : decode cL_law 1065 = .ok (.invokevirtual 119, 3) := by decide +kernel
theorem dL_law_1068 : decode cL_law 1068 = .ok (.aload_n 2, 1) := by decide +kernel
theorem dL_law_1069 : decode cL_law 1069 = .ok (.aload_n 0, 1) := by decide +kernel
theorem dL_law_1070 : decode cL_law 1070 = .ok (.iload 4, 2) := by decide +kernel
theorem dL_law_1072 : decode cL_law 1072 = .ok (.iconst 1, 1) := by decide +kernel
theorem dL_law_1073 : decode cL_law 1073 = .ok (.iadd, 1) := by decide +kernel
theorem dL_law_1074 : decode cL_law 1074 = .ok (.iaload, 1) := by decide +kernel
theorem dL_law_1075 : decode cL_law 1075 = .ok (.aload_n 0, 1) := by decide +kernel
theorem dL_law_1076 : decode cL_law 1076 = .ok (.iload 4, 2) := by decide +kernel
theorem dL_law_1078 : decode cL_law 1078 = .ok (.iconst 2, 1) := by decide +kernel
theorem dL_law_1079 : decode cL_law 1079 = .ok (.iadd, 1) := by decide +kernel
theorem dL_law_1080 : decode cL_law 1080 = .ok (.iaload, 1) := by decide +kernel
theorem dL_law_1081 : decode cL_law 1081 = .ok (.ifCond .eq 7, 3) := by decide +kernel
theorem dL_law_1084 : decode cL_law 1084 = .ok (.iconst 1, 1) := by decide +kernel
theorem dL_law_1085 : decode cL_law 1085 = .ok (.goto 4, 3) := by decide +kernel
theorem dL_law_1088 : decode cL_law 1088 = .ok (.iconst 0, 1) := by decide +kernel
theorem dL_law_1089 : decode cL_law 1089 = .ok (.invokevirtual 123, 3) := by decide +kernel
theorem dL_law_1092 : decode cL_law 1092 = .ok (.if_icmp .eq 30, 3) := by decide +kernel
theorem dL_law_1095 : decode cL_law 1095 = .ok (.iconst 0, 1) := by decide +kernel
theorem dL_law_1096 : decode cL_law 1096 = .ok (.ireturn, 1) := by decide +kernel
theorem dL_law_1097 : decode cL_law 1097 = .ok (.aload_n 1, 1) := by decide +kernel
theorem dL_law_1098 : decode cL_law 1098 = .ok (.aload_n 0, 1) := by decide +kernel
theorem dL_law_1099 : decode cL_law 1099 = .ok (.iload 4, 2) := by decide +kernel
theorem dL_law_1101 : decode cL_law 1101 = .ok (.iconst 1, 1) := by decide +kernel
theorem dL_law_1102 : decode cL_law 1102 = .ok (.iadd, 1) := by decide +kernel
theorem dL_law_1103 : decode cL_law 1103 = .ok (.iaload, 1) := by decide +kernel
theorem dL_law_1104 : decode cL_law 1104 = .ok (.invokevirtual 124, 3) := by decide +kernel
theorem dL_law_1107 : decode cL_law 1107 = .ok (.aload_n 2, 1) := by decide +kernel
theorem dL_law_1108 : decode cL_law 1108 = .ok (.aload_n 0, 1) := by decide +kernel
theorem dL_law_1109 : decode cL_law 1109 = .ok (.iload 4, 2) := by decide +kernel
theorem dL_law_1111 : decode cL_law 1111 = .ok (.iconst 1, 1) := by decide +kernel
theorem dL_law_1112 : decode cL_law 1112 = .ok (.iadd, 1) := by decide +kernel
theorem dL_law_1113 : decode cL_law 1113 = .ok (.iaload, 1) := by decide +kernel
theorem dL_law_1114 : decode cL_law 1114 = .ok (.invokevirtual 127, 3) := by decide +kernel
theorem dL_law_1117 : decode cL_law 1117 = .ok (.if_icmp .eq 5, 3) := by decide +kernel
theorem dL_law_1120 : decode cL_law 1120 = .ok (.iconst 0, 1) := by decide +kernel
theorem dL_law_1121 : decode cL_law 1121 = .ok (.ireturn, 1) := by decide +kernel
theorem dL_law_1122 : decode cL_law 1122 = .ok (.iinc 4 7, 3) := by decide +kernel
theorem dL_law_1125 : decode cL_law 1125 = .ok (.goto (-1102), 3) := by decide +kernel
theorem dL_law_1128 : decode cL_law 1128 = .ok (.iconst 1, 1) := by decide +kernel
theorem dL_law_1129 : decode cL_law 1129 = .ok (.ireturn, 1) := by decide +kernel
