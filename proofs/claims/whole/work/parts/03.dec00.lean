theorem dX0_init_0 : decode cX0_init 0 = .ok (.aload_n 0, 1) := by decide +kernel
theorem dX0_init_1 : decode cX0_init 1 = .ok (.invokespecial 3, 3) := by decide +kernel
theorem dX0_init_4 : decode cX0_init 4 = .ok (.aload_n 0, 1) := by decide +kernel
theorem dX0_init_5 : decode cX0_init 5 = .ok (.sipush 200, 3) := by decide +kernel
theorem dX0_init_8 : decode cX0_init 8 = .ok (.newarray .int, 2) := by decide +kernel
theorem dX0_init_10 : decode cX0_init 10 = .ok (.putfield 11, 3) := by decide +kernel
theorem dX0_init_13 : decode cX0_init 13 = .ok (.return_, 1) := by decide +kernel
theorem dX0_clear_0 : decode cX0_clear 0 = .ok (.aload_n 0, 1) := by decide +kernel
theorem dX0_clear_1 : decode cX0_clear 1 = .ok (.iconst 0, 1) := by decide +kernel
theorem dX0_clear_2 : decode cX0_clear 2 = .ok (.putfield 15, 3) := by decide +kernel
theorem dX0_clear_5 : decode cX0_clear 5 = .ok (.return_, 1) := by decide +kernel
theorem dX0_copy_0 : decode cX0_copy 0 = .ok (.aload_n 0, 1) := by decide +kernel
theorem dX0_copy_1 : decode cX0_copy 1 = .ok (.aload_n 1, 1) := by decide +kernel
theorem dX0_copy_2 : decode cX0_copy 2 = .ok (.getfield 15, 3) := by decide +kernel
theorem dX0_copy_5 : decode cX0_copy 5 = .ok (.putfield 15, 3) := by decide +kernel
theorem dX0_copy_8 : decode cX0_copy 8 = .ok (.aload_n 1, 1) := by decide +kernel
theorem dX0_copy_9 : decode cX0_copy 9 = .ok (.getfield 11, 3) := by decide +kernel
theorem dX0_copy_12 : decode cX0_copy 12 = .ok (.iconst 0, 1) := by decide +kernel
theorem dX0_copy_13 : decode cX0_copy 13 = .ok (.aload_n 0, 1) := by decide +kernel
theorem dX0_copy_14 : decode cX0_copy 14 = .ok (.getfield 11, 3) := by decide +kernel
theorem dX0_copy_17 : decode cX0_copy 17 = .ok (.iconst 0, 1) := by decide +kernel
theorem dX0_copy_18 : decode cX0_copy 18 = .ok (.aload_n 0, 1) := by decide +kernel
theorem dX0_copy_19 : decode cX0_copy 19 = .ok (.getfield 15, 3) := by decide +kernel
theorem dX0_copy_22 : decode cX0_copy 22 = .ok (.iconst 5, 1) := by decide +kernel
theorem dX0_copy_23 : decode cX0_copy 23 = .ok (.imul, 1) := by decide +kernel
theorem dX0_copy_24 : decode cX0_copy 24 = .ok (.invokestatic 19, 3) := by decide +kernel
theorem dX0_copy_27 : decode cX0_copy 27 = .ok (.return_, 1) := by decide +kernel
theorem dX0_isHour_0 : decode cX0_isHour 0 = .ok (.iload_n 1, 1) := by decide +kernel
theorem dX0_isHour_1 : decode cX0_isHour 1 = .ok (.ifCond .lt 27, 3) := by decide +kernel
theorem dX0_isHour_4 : decode cX0_isHour 4 = .ok (.iload_n 1, 1) := by decide +kernel
theorem dX0_isHour_5 : decode cX0_isHour 5 = .ok (.aload_n 0, 1) := by decide +kernel
theorem dX0_isHour_6 : decode cX0_isHour 6 = .ok (.getfield 15, 3) := by decide +kernel
theorem dX0_isHour_9 : decode cX0_isHour 9 = .ok (.if_icmp .ge 19, 3) := by decide +kernel
theorem dX0_isHour_12 : decode cX0_isHour 12 = .ok (.aload_n 0, 1) := by decide +kernel
theorem dX0_isHour_13 : decode cX0_isHour 13 = .ok (.getfield 11, 3) := by decide +kernel
theorem dX0_isHour_16 : decode cX0_isHour 16 = .ok (.iload_n 1, 1) := by decide +kernel
theorem dX0_isHour_17 : decode cX0_isHour 17 = .ok (.iconst 5, 1) := by decide +kernel
theorem dX0_isHour_18 : decode cX0_isHour 18 = .ok (.imul, 1) := by decide +kernel
theorem dX0_isHour_19 : decode cX0_isHour 19 = .ok (.iaload, 1) := by decide +kernel
theorem dX0_isHour_20 : decode cX0_isHour 20 = .ok (.iconst 2, 1) := by decide +kernel
theorem dX0_isHour_21 : decode cX0_isHour 21 = .ok (.if_icmp .ne 7, 3) := by decide +kernel
theorem dX0_isHour_24 : decode cX0_isHour 24 = .ok (.iconst 1, 1) := by decide +kernel
theorem dX0_isHour_25 : decode cX0_isHour 25 = .ok (.goto 4, 3) := by decide +kernel
theorem dX0_isHour_28 : decode cX0_isHour 28 = .ok (.iconst 0, 1) := by decide +kernel
theorem dX0_isHour_29 : decode cX0_isHour 29 = .ok (.ireturn, 1) := by decide +kernel
theorem dX0_play_0 : decode cX0_play 0 = .ok (.iload_n 1, 1) := by decide +kernel
theorem dX0_play_1 : decode cX0_play 1 = .ok (.ifCond .lt 11, 3) := by decide +kernel
theorem dX0_play_4 : decode cX0_play 4 = .ok (.iload_n 1, 1) := by decide +kernel
theorem dX0_play_5 : decode cX0_play 5 = .ok (.aload_n 0, 1) := by decide +kernel
theorem dX0_play_6 : decode cX0_play 6 = .ok (.getfield 15, 3) := by decide +kernel
theorem dX0_play_9 : decode cX0_play 9 = .ok (.if_icmp .lt 5, 3) := by decide +kernel
theorem dX0_play_12 : decode cX0_play 12 = .ok (.iconst 0, 1) := by decide +kernel
theorem dX0_play_13 : decode cX0_play 13 = .ok (.ireturn, 1) := by decide +kernel
theorem dX0_play_14 : decode cX0_play 14 = .ok (.iload_n 1, 1) := by decide +kernel
theorem dX0_play_15 : decode cX0_play 15 = .ok (.iconst 5, 1) := by decide +kernel
theorem dX0_play_16 : decode cX0_play 16 = .ok (.imul, 1) := by decide +kernel
theorem dX0_play_17 : decode cX0_play 17 = .ok (.istore 4, 2) := by decide +kernel
theorem dX0_play_19 : decode cX0_play 19 = .ok (.aload_n 0, 1) := by decide +kernel
theorem dX0_play_20 : decode cX0_play 20 = .ok (.getfield 11, 3) := by decide +kernel
theorem dX0_play_23 : decode cX0_play 23 = .ok (.iload 4, 2) := by decide +kernel
theorem dX0_play_25 : decode cX0_play 25 = .ok (.iconst 1, 1) := by decide +kernel
theorem dX0_play_26 : decode cX0_play 26 = .ok (.iadd, 1) := by decide +kernel
theorem dX0_play_27 : decode cX0_play 27 = .ok (.iaload, 1) := by decide +kernel
theorem dX0_play_28 : decode cX0_play 28 = .ok (.istore 5, 2) := by decide +kernel
theorem dX0_play_30 : decode cX0_play 30 = .ok (.aload_n 0, 1) := by decide +kernel
theorem dX0_play_31 : decode cX0_play 31 = .ok (.getfield 11, 3) := by decide +kernel
theorem dX0_play_34 : decode cX0_play 34 = .ok (.iload 4, 2) := by decide +kernel
theorem dX0_play_36 : decode cX0_play 36 = .ok (.iconst 3, 1) := by decide +kernel
theorem dX0_play_37 : decode cX0_play 37 = .ok (.iadd, 1) := by decide +kernel
theorem dX0_play_38 : decode cX0_play 38 = .ok (.iaload, 1) := by decide +kernel
theorem dX0_play_39 : decode cX0_play 39 = .ok (.istore 6, 2) := by decide +kernel
theorem dX0_play_41 : decode cX0_play 41 = .ok (.aload_n 0, 1) := by decide +kernel
theorem dX0_play_42 : decode cX0_play 42 = .ok (.getfield 11, 3) := by decide +kernel
theorem dX0_play_45 : decode cX0_play 45 = .ok (.iload 4, 2) := by decide +kernel
theorem dX0_play_47 : decode cX0_play 47 = .ok (.iaload, 1) := by decide +kernel
theorem dX0_play_48 : decode cX0_play 48 = .ok (.iconst 2, 1) := by decide +kernel
theorem dX0_play_49 : decode cX0_play 49 = .ok (.if_icmp .ne 11, 3) := by decide +kernel
theorem dX0_play_52 : decode cX0_play 52 = .ok (.aload_n 2, 1) := by decide +kernel
theorem dX0_play_53 : decode cX0_play 53 = .ok (.aload_n 3, 1) := by decide +kernel
theorem dX0_play_54 : decode cX0_play 54 = .ok (.invokevirtual 25, 3) := by decide +kernel
theorem dX0_play_57 : decode cX0_play 57 = .ok (.pop, 1) := by decide +kernel
theorem dX0_play_58 : decode cX0_play 58 = .ok (.iconst 1, 1) := by decide +kernel
theorem dX0_play_59 : decode cX0_play 59 = .ok (.ireturn, 1) := by decide +kernel
theorem dX0_play_60 : decode cX0_play 60 = .ok (.aload_n 0, 1) := by decide +kernel
theorem dX0_play_61 : decode cX0_play 61 = .ok (.getfield 11, 3) := by decide +kernel
theorem dX0_play_64 : decode cX0_play 64 = .ok (.iload 4, 2) := by decide +kernel
theorem dX0_play_66 : decode cX0_play 66 = .ok (.iaload, 1) := by decide +kernel
theorem dX0_play_67 : decode cX0_play 67 = .ok (.ifCond .ne 13, 3) := by decide +kernel
theorem dX0_play_70 : decode cX0_play 70 = .ok (.aload_n 2, 1) := by decide +kernel
theorem dX0_play_71 : decode cX0_play 71 = .ok (.aload_n 3, 1) := by decide +kernel
theorem dX0_play_72 : decode cX0_play 72 = .ok (.iload 5, 2) := by decide +kernel
theorem dX0_play_74 : decode cX0_play 74 = .ok (.iload 6, 2) := by decide +kernel
theorem dX0_play_76 : decode cX0_play 76 = .ok (.invokevirtual 31, 3) := by decide +kernel
theorem dX0_play_79 : decode cX0_play 79 = .ok (.ireturn, 1) := by decide +kernel
theorem dX0_play_80 : decode cX0_play 80 = .ok (.aload_n 2, 1) := by decide +kernel
theorem dX0_play_81 : decode cX0_play 81 = .ok (.iload 5, 2) := by decide +kernel
theorem dX0_play_83 : decode cX0_play 83 = .ok (.aload_n 0, 1) := by decide +kernel
theorem dX0_play_84 : decode cX0_play 84 = .ok (.getfield 11, 3) := by decide +kernel
theorem dX0_play_87 : decode cX0_play 87 = .ok (.iload 4, 2) := by decide +kernel
theorem dX0_play_89 : decode cX0_play 89 = .ok (.iconst 2, 1) := by decide +kernel
theorem dX0_play_90 : decode cX0_play 90 = .ok (.iadd, 1) := by decide +kernel
theorem dX0_play_91 : decode cX0_play 91 = .ok (.iaload, 1) := by decide +kernel
theorem dX0_play_92 : decode cX0_play 92 = .ok (.iload 6, 2) := by decide +kernel
theorem dX0_play_94 : decode cX0_play 94 = .ok (.aload_n 0, 1) := by decide +kernel
theorem dX0_play_95 : decode cX0_play 95 = .ok (.getfield 11, 3) := by decide +kernel
theorem dX0_play_98 : decode cX0_play 98 = .ok (.iload 4, 2) := by decide +kernel
theorem dX0_play_100 : decode cX0_play 100 = .ok (.iconst 4, 1) := by decide +kernel
theorem dX0_play_101 : decode cX0_play 101 = .ok (.iadd, 1) := by decide +kernel
theorem dX0_play_102 : decode cX0_play 102 = .ok (.iaload, 1) := by decide +kernel
theorem dX0_play_103 : decode cX0_play 103 = .ok (.invokevirtual 35, 3) := by decide +kernel
theorem dX0_play_106 : decode cX0_play 106 = .ok (.ireturn, 1) := by decide +kernel
theorem dX0_readFrom_0 : decode cX0_readFrom 0 = .ok (.aload_n 0, 1) := by decide +kernel
theorem dX0_readFrom_1 : decode cX0_readFrom 1 = .ok (.iconst 0, 1) := by decide +kernel
theorem dX0_readFrom_2 : decode cX0_readFrom 2 = .ok (.putfield 15, 3) := by decide +kernel
theorem dX0_readFrom_5 : decode cX0_readFrom 5 = .ok (.aload_n 1, 1) := by decide +kernel
theorem dX0_readFrom_6 : decode cX0_readFrom 6 = .ok (.invokevirtual 39, 3) := by decide +kernel
theorem dX0_readFrom_9 : decode cX0_readFrom 9 = .ok (.iconst 0, 1) := by decide +kernel
theorem dX0_readFrom_10 : decode cX0_readFrom 10 = .ok (.istore_n 3, 1) := by decide +kernel
theorem dX0_readFrom_11 : decode cX0_readFrom 11 = .ok (.iload_n 3, 1) := by decide +kernel
theorem dX0_readFrom_12 : decode cX0_readFrom 12 = .ok (.bipush 40, 2) := by decide +kernel
theorem dX0_readFrom_14 : decode cX0_readFrom 14 = .ok (.if_icmp .gt 22, 3) := by decide +kernel
theorem dX0_readFrom_17 : decode cX0_readFrom 17 = .ok (.aload_n 1, 1) := by decide +kernel
theorem dX0_readFrom_18 : decode cX0_readFrom 18 = .ok (.invokevirtual 44, 3) := by decide +kernel
theorem dX0_readFrom_21 : decode cX0_readFrom 21 = .ok (.ifCond .ne 15, 3) := by decide +kernel
theorem dX0_readFrom_24 : decode cX0_readFrom 24 = .ok (.aload_n 0, 1) := by decide +kernel
theorem dX0_readFrom_25 : decode cX0_readFrom 25 = .ok (.aload_n 1, 1) := by decide +kernel
theorem dX0_readFrom_26 : decode cX0_readFrom 26 = .ok (.aload_n 2, 1) := by decide +kernel
theorem dX0_readFrom_27 : decode cX0_readFrom 27 = .ok (.invokevirtual 48, 3) := by decide +kernel
theorem dX0_readFrom_30 : decode cX0_readFrom 30 = .ok (.iinc 3 1, 3) := by decide +kernel
theorem dX0_readFrom_33 : decode cX0_readFrom 33 = .ok (.goto (-22), 3) := by decide +kernel
theorem dX0_readFrom_36 : decode cX0_readFrom 36 = .ok (.return_, 1) := by decide +kernel
theorem dX0_readLine_0 : decode cX0_readLine 0 = .ok (.aload_n 1, 1) := by decide +kernel
theorem dX0_readLine_1 : decode cX0_readLine 1 = .ok (.getstatic 52, 3) := by decide +kernel
theorem dX0_readLine_4 : decode cX0_readLine 4 = .ok (.invokevirtual 58, 3) := by decide +kernel
theorem dX0_readLine_7 : decode cX0_readLine 7 = .ok (.ifCond .eq 7, 3) := by decide +kernel
theorem dX0_readLine_10 : decode cX0_readLine 10 = .ok (.iconst 0, 1) := by decide +kernel
theorem dX0_readLine_11 : decode cX0_readLine 11 = .ok (.goto 32, 3) := by decide +kernel
theorem dX0_readLine_14 : decode cX0_readLine 14 = .ok (.aload_n 1, 1) := by decide +kernel
theorem dX0_readLine_15 : decode cX0_readLine 15 = .ok (.getstatic 62, 3) := by decide +kernel
theorem dX0_readLine_18 : decode cX0_readLine 18 = .ok (.invokevirtual 58, 3) := by decide +kernel
theorem dX0_readLine_21 : decode cX0_readLine 21 = .ok (.ifCond .eq 7, 3) := by decide +kernel
theorem dX0_readLine_24 : decode cX0_readLine 24 = .ok (.iconst 1, 1) := by decide +kernel
theorem dX0_readLine_25 : decode cX0_readLine 25 = .ok (.goto 18, 3) := by decide +kernel
theorem dX0_readLine_28 : decode cX0_readLine 28 = .ok (.aload_n 1, 1) := by decide +kernel
theorem dX0_readLine_29 : decode cX0_readLine 29 = .ok (.getstatic 65, 3) := by decide +kernel
theorem dX0_readLine_32 : decode cX0_readLine 32 = .ok (.invokevirtual 58, 3) := by decide +kernel
theorem dX0_readLine_35 : decode cX0_readLine 35 = .ok (.ifCond .eq 7, 3) := by decide +kernel
theorem dX0_readLine_38 : decode cX0_readLine 38 = .ok (.iconst 2, 1) := by decide +kernel
theorem dX0_readLine_39 : decode cX0_readLine 39 = .ok (.goto 4, 3) := by decide +kernel
theorem dX0_readLine_42 : decode cX0_readLine 42 = .ok (.iconst (-1), 1) := by decide +kernel
theorem dX0_readLine_43 : decode cX0_readLine 43 = .ok (.istore_n 3, 1) := by decide +kernel
theorem dX0_readLine_44 : decode cX0_readLine 44 = .ok (.iload_n 3, 1) := by decide +kernel
theorem dX0_readLine_45 : decode cX0_readLine 45 = .ok (.iconst (-1), 1) := by decide +kernel
theorem dX0_readLine_46 : decode cX0_readLine 46 = .ok (.if_icmp .ne 11, 3) := by decide +kernel
theorem dX0_readLine_49 : decode cX0_readLine 49 = .ok (.aload_n 1, 1) := by decide +kernel
theorem dX0_readLine_50 : decode cX0_readLine 50 = .ok (.iconst 1, 1) := by decide +kernel
theorem dX0_readLine_51 : decode cX0_readLine 51 = .ok (.invokevirtual 68, 3) := by decide +kernel
theorem dX0_readLine_54 : decode cX0_readLine 54 = .ok (.goto 17, 3) := by decide +kernel
theorem dX0_readLine_57 : decode cX0_readLine 57 = .ok (.aload_n 0, 1) := by decide +kernel
theorem dX0_readLine_58 : decode cX0_readLine 58 = .ok (.getfield 15, 3) := by decide +kernel
theorem dX0_readLine_61 : decode cX0_readLine 61 = .ok (.bipush 40, 2) := by decide +kernel
theorem dX0_readLine_63 : decode cX0_readLine 63 = .ok (.if_icmp .lt 8, 3) := by decide +kernel
theorem dX0_readLine_66 : decode cX0_readLine 66 = .ok (.aload_n 1, 1) := by decide +kernel
theorem dX0_readLine_67 : decode cX0_readLine 67 = .ok (.iconst 5, 1) := by decide +kernel
theorem dX0_readLine_68 : decode cX0_readLine 68 = .ok (.invokevirtual 68, 3) := by decide +kernel
theorem dX0_readLine_71 : decode cX0_readLine 71 = .ok (.aload_n 1, 1) := by decide +kernel
theorem dX0_readLine_72 : decode cX0_readLine 72 = .ok (.invokevirtual 72, 3) := by decide +kernel
theorem dX0_readLine_75 : decode cX0_readLine 75 = .ok (.iload_n 3, 1) := by decide +kernel
theorem dX0_readLine_76 : decode cX0_readLine 76 = .ok (.iconst 2, 1) := by decide +kernel
theorem dX0_readLine_77 : decode cX0_readLine 77 = .ok (.if_icmp .ne 7, 3) := by decide +kernel
theorem dX0_readLine_80 : decode cX0_readLine 80 = .ok (.iconst 0, 1) := by decide +kernel
theorem dX0_readLine_81 : decode cX0_readLine 81 = .ok (.goto 9, 3) := by decide +kernel
theorem dX0_readLine_84 : decode cX0_readLine 84 = .ok (.aload_n 1, 1) := by decide +kernel
theorem dX0_readLine_85 : decode cX0_readLine 85 = .ok (.aload_n 2, 1) := by decide +kernel
theorem dX0_readLine_86 : decode cX0_readLine 86 = .ok (.iconst (-1), 1) := by decide +kernel
theorem dX0_readLine_87 : decode cX0_readLine 87 = .ok (.invokestatic 75, 3) := by decide +kernel
theorem dX0_readLine_90 : decode cX0_readLine 90 = .ok (.istore 4, 2) := by decide +kernel
theorem dX0_readLine_92 : decode cX0_readLine 92 = .ok (.iload_n 3, 1) := by decide +kernel
theorem dX0_readLine_93 : decode cX0_readLine 93 = .ok (.iconst 1, 1) := by decide +kernel
theorem dX0_readLine_94 : decode cX0_readLine 94 = .ok (.if_icmp .ne 13, 3) := by decide +kernel
theorem dX0_readLine_97 : decode cX0_readLine 97 = .ok (.aload_n 1, 1) := by decide +kernel
theorem dX0_readLine_98 : decode cX0_readLine 98 = .ok (.aload_n 2, 1) := by decide +kernel
theorem dX0_readLine_99 : decode cX0_readLine 99 = .ok (.iload 4, 2) := by decide +kernel
theorem dX0_readLine_101 : decode cX0_readLine 101 = .ok (.invokestatic 75, 3) := by decide +kernel
theorem dX0_readLine_104 : decode cX0_readLine 104 = .ok (.goto 4, 3) := by decide +kernel
theorem dX0_readLine_107 : decode cX0_readLine 107 = .ok (.iconst 0, 1) := by decide +kernel
theorem dX0_readLine_108 : decode cX0_readLine 108 = .ok (.istore 5, 2) := by decide +kernel
theorem dX0_readLine_110 : decode cX0_readLine 110 = .ok (.iconst 0, 1) := by decide +kernel
theorem dX0_readLine_111 : decode cX0_readLine 111 = .ok (.istore 6, 2) := by decide +kernel
theorem dX0_readLine_113 : decode cX0_readLine 113 = .ok (.iload_n 3, 1) := by decide +kernel
theorem dX0_readLine_114 : decode cX0_readLine 114 = .ok (.iconst 2, 1) := by decide +kernel
theorem dX0_readLine_115 : decode cX0_readLine 115 = .ok (.if_icmp .eq 15, 3) := by decide +kernel
theorem dX0_readLine_118 : decode cX0_readLine 118 = .ok (.aload_n 1, 1) := by decide +kernel
theorem dX0_readLine_119 : decode cX0_readLine 119 = .ok (.aload_n 2, 1) := by decide +kernel
theorem dX0_readLine_120 : decode cX0_readLine 120 = .ok (.iconst 0, 1) := by decide +kernel
theorem dX0_readLine_121 : decode cX0_readLine 121 = .ok (.invokevirtual 79, 3) := by decide +kernel
theorem dX0_readLine_124 : decode cX0_readLine 124 = .ok (.istore 6, 2) := by decide +kernel
theorem dX0_readLine_126 : decode cX0_readLine 126 = .ok (.aload_n 1, 1) := by decide +kernel
theorem dX0_readLine_127 : decode cX0_readLine 127 = .ok (.invokevirtual 72, 3) := by decide +kernel
theorem dX0_readLine_130 : decode cX0_readLine 130 = .ok (.iload_n 3, 1) := by decide +kernel
theorem dX0_readLine_131 : decode cX0_readLine 131 = .ok (.iconst 1, 1) := by decide +kernel
theorem dX0_readLine_132 : decode cX0_readLine 132 = .ok (.if_icmp .ne 13, 3) := by decide +kernel
theorem dX0_readLine_135 : decode cX0_readLine 135 = .ok (.aload_n 1, 1) := by decide +kernel
theorem dX0_readLine_136 : decode cX0_readLine 136 = .ok (.iconst 1, 1) := by decide +kernel
theorem dX0_readLine_137 : decode cX0_readLine 137 = .ok (.bipush 99, 2) := by decide +kernel
theorem dX0_readLine_139 : decode cX0_readLine 139 = .ok (.invokevirtual 83, 3) := by decide +kernel
theorem dX0_readLine_142 : decode cX0_readLine 142 = .ok (.goto 4, 3) := by decide +kernel
theorem dX0_readLine_145 : decode cX0_readLine 145 = .ok (.iconst 0, 1) := by decide +kernel
theorem dX0_readLine_146 : decode cX0_readLine 146 = .ok (.istore 7, 2) := by decide +kernel
theorem dX0_readLine_148 : decode cX0_readLine 148 = .ok (.aload_n 1, 1) := by decide +kernel
theorem dX0_readLine_149 : decode cX0_readLine 149 = .ok (.bipush 59, 2) := by decide +kernel
theorem dX0_readLine_151 : decode cX0_readLine 151 = .ok (.invokevirtual 87, 3) := by decide +kernel
theorem dX0_readLine_154 : decode cX0_readLine 154 = .ok (.aload_n 1, 1) := by decide +kernel
theorem dX0_readLine_155 : decode cX0_readLine 155 = .ok (.invokevirtual 91, 3) := by decide +kernel
theorem dX0_readLine_158 : decode cX0_readLine 158 = .ok (.ifCond .eq 82, 3) := by decide +kernel
theorem dX0_readLine_161 : decode cX0_readLine 161 = .ok (.aload_n 0, 1) := by decide +kernel
theorem dX0_readLine_162 : decode cX0_readLine 162 = .ok (.getfield 15, 3) := by decide +kernel
theorem dX0_readLine_165 : decode cX0_readLine 165 = .ok (.bipush 40, 2) := by decide +kernel
theorem dX0_readLine_167 : decode cX0_readLine 167 = .ok (.if_icmp .ge 73, 3) := by decide +kernel
theorem dX0_readLine_170 : decode cX0_readLine 170 = .ok (.aload_n 0, 1) := by decide +kernel
theorem dX0_readLine_171 : decode cX0_readLine 171 = .ok (.getfield 15, 3) := by decide +kernel
theorem dX0_readLine_174 : decode cX0_readLine 174 = .ok (.iconst 5, 1) := by decide +kernel
theorem dX0_readLine_175 : decode cX0_readLine 175 = .ok (.imul, 1) := by decide +kernel
theorem dX0_readLine_176 : decode cX0_readLine 176 = .ok (.istore 8, 2) := by decide +kernel
theorem dX0_readLine_178 : decode cX0_readLine 178 = .ok (.aload_n 0, 1) := by decide +kernel
theorem dX0_readLine_179 : decode cX0_readLine 179 = .ok (.getfield 11, 3) := by decide +kernel
theorem dX0_readLine_182 : decode cX0_readLine 182 = .ok (.iload 8, 2) := by decide +kernel
theorem dX0_readLine_184 : decode cX0_readLine 184 = .ok (.iload_n 3, 1) := by decide +kernel
theorem dX0_readLine_185 : decode cX0_readLine 185 = .ok (.iastore, 1) := by decide +kernel
theorem dX0_readLine_186 : decode cX0_readLine 186 = .ok (.aload_n 0, 1) := by decide +kernel
theorem dX0_readLine_187 : decode cX0_readLine 187 = .ok (.getfield 11, 3) := by decide +kernel
theorem dX0_readLine_190 : decode cX0_readLine 190 = .ok (.iload 8, 2) := by decide +kernel
theorem dX0_readLine_192 : decode cX0_readLine 192 = .ok (.iconst 1, 1) := by decide +kernel
theorem dX0_readLine_193 : decode cX0_readLine 193 = .ok (.iadd, 1) := by decide +kernel
theorem dX0_readLine_194 : decode cX0_readLine 194 = .ok (.iload 4, 2) := by decide +kernel
theorem dX0_readLine_196 : decode cX0_readLine 196 = .ok (.iastore, 1) := by decide +kernel
theorem dX0_readLine_197 : decode cX0_readLine 197 = .ok (.aload_n 0, 1) := by decide +kernel
theorem dX0_readLine_198 : decode cX0_readLine 198 = .ok (.getfield 11, 3) := by decide +kernel
theorem dX0_readLine_201 : decode cX0_readLine 201 = .ok (.iload 8, 2) := by decide +kernel
theorem dX0_readLine_203 : decode cX0_readLine 203 = .ok (.iconst 2, 1) := by decide +kernel
theorem dX0_readLine_204 : decode cX0_readLine 204 = .ok (.iadd, 1) := by decide +kernel
theorem dX0_readLine_205 : decode cX0_readLine 205 = .ok (.iload 5, 2) := by decide +kernel
theorem dX0_readLine_207 : decode cX0_readLine 207 = .ok (.iastore, 1) := by decide +kernel
theorem dX0_readLine_208 : decode cX0_readLine 208 = .ok (.aload_n 0, 1) := by decide +kernel
theorem dX0_readLine_209 : decode cX0_readLine 209 = .ok (.getfield 11, 3) := by decide +kernel
theorem dX0_readLine_212 : decode cX0_readLine 212 = .ok (.iload 8, 2) := by decide +kernel
theorem dX0_readLine_214 : decode cX0_readLine 214 = .ok (.iconst 3, 1) := by decide +kernel
theorem dX0_readLine_215 : decode cX0_readLine 215 = .ok (.iadd, 1) := by decide +kernel
theorem dX0_readLine_216 : decode cX0_readLine 216 = .ok (.iload 6, 2) := by decide +kernel
theorem dX0_readLine_218 : decode cX0_readLine 218 = .ok (.iastore, 1) := by decide +kernel
theorem dX0_readLine_219 : decode cX0_readLine 219 = .ok (.aload_n 0, 1) := by decide +kernel
theorem dX0_readLine_220 : decode cX0_readLine 220 = .ok (.getfield 11, 3) := by decide +kernel
theorem dX0_readLine_223 : decode cX0_readLine 223 = .ok (.iload 8, 2) := by decide +kernel
theorem dX0_readLine_225 : decode cX0_readLine 225 = .ok (.iconst 4, 1) := by decide +kernel
theorem dX0_readLine_226 : decode cX0_readLine 226 = .ok (.iadd, 1) := by decide +kernel
theorem dX0_readLine_227 : decode cX0_readLine 227 = .ok (.iload 7, 2) := by decide +kernel
theorem dX0_readLine_229 : decode cX0_readLine 229 = .ok (.iastore, 1) := by decide +kernel
theorem dX0_readLine_230 : decode cX0_readLine 230 = .ok (.aload_n 0, 1) := by decide +kernel
theorem dX0_readLine_231 : decode cX0_readLine 231 = .ok (.dup, 1) := by decide +kernel
theorem dX0_readLine_232 : decode cX0_readLine 232 = .ok (.getfield 15, 3) := by decide +kernel
theorem dX0_readLine_235 : decode cX0_readLine 235 = .ok (.iconst 1, 1) := by decide +kernel
theorem dX0_readLine_236 : decode cX0_readLine 236 = .ok (.iadd, 1) := by decide +kernel
theorem dX0_readLine_237 : decode cX0_readLine 237 = .ok (.putfield 15, 3) := by decide +kernel
theorem dX0_readLine_240 : decode cX0_readLine 240 = .ok (.return_, 1) := by decide +kernel
theorem dX0_readHouse_0 : decode cX0_readHouse 0 = .ok (.aload_n 0, 1) := by decide +kernel
theorem dX0_readHouse_1 : decode cX0_readHouse 1 = .ok (.aload_n 1, 1) := by decide +kernel
theorem dX0_readHouse_2 : decode cX0_readHouse 2 = .ok (.iconst 2, 1) := by decide +kernel
theorem dX0_readHouse_3 : decode cX0_readHouse 3 = .ok (.invokevirtual 79, 3) := by decide +kernel
theorem dX0_readHouse_6 : decode cX0_readHouse 6 = .ok (.istore_n 3, 1) := by decide +kernel
theorem dX0_readHouse_7 : decode cX0_readHouse 7 = .ok (.iload_n 3, 1) := by decide +kernel
theorem dX0_readHouse_8 : decode cX0_readHouse 8 = .ok (.iconst (-1), 1) := by decide +kernel
theorem dX0_readHouse_9 : decode cX0_readHouse 9 = .ok (.if_icmp .eq 13, 3) := by decide +kernel
theorem dX0_readHouse_12 : decode cX0_readHouse 12 = .ok (.iload_n 3, 1) := by decide +kernel
theorem dX0_readHouse_13 : decode cX0_readHouse 13 = .ok (.iload_n 2, 1) := by decide +kernel
theorem dX0_readHouse_14 : decode cX0_readHouse 14 = .ok (.if_icmp .ne 8, 3) := by decide +kernel
theorem dX0_readHouse_17 : decode cX0_readHouse 17 = .ok (.aload_n 0, 1) := by decide +kernel
theorem dX0_readHouse_18 : decode cX0_readHouse 18 = .ok (.iconst 3, 1) := by decide +kernel
theorem dX0_readHouse_19 : decode cX0_readHouse 19 = .ok (.invokevirtual 68, 3) := by decide +kernel
theorem dX0_readHouse_22 : decode cX0_readHouse 22 = .ok (.aload_n 0, 1) := by decide +kernel
theorem dX0_readHouse_23 : decode cX0_readHouse 23 = .ok (.invokevirtual 72, 3) := by decide +kernel
theorem dX0_readHouse_26 : decode cX0_readHouse 26 = .ok (.iload_n 3, 1) := by decide +kernel
theorem dX0_readHouse_27 : decode cX0_readHouse 27 = .ok (.ireturn, 1) := by decide +kernel
theorem dX1_init_0 : decode cX1_init 0 = .ok (.aload_n 0, 1) := by decide +kernel
theorem dX1_init_1 : decode cX1_init 1 = .ok (.invokespecial 1, 3) := by decide +kernel
theorem dX1_init_4 : decode cX1_init 4 = .ok (.aload_n 0, 1) := by decide +kernel
theorem dX1_init_5 : decode cX1_init 5 = .ok (.sipush 1000, 3) := by decide +kernel
theorem dX1_init_8 : decode cX1_init 8 = .ok (.newarray .int, 2) := by decide +kernel
theorem dX1_init_10 : decode cX1_init 10 = .ok (.putfield 9, 3) := by decide +kernel
theorem dX1_init_13 : decode cX1_init 13 = .ok (.aload_n 0, 1) := by decide +kernel
theorem dX1_init_14 : decode cX1_init 14 = .ok (.bipush 32, 2) := by decide +kernel
theorem dX1_init_16 : decode cX1_init 16 = .ok (.newarray .int, 2) := by decide +kernel
theorem dX1_init_18 : decode cX1_init 18 = .ok (.putfield 15, 3) := by decide +kernel
theorem dX1_init_21 : decode cX1_init 21 = .ok (.aload_n 0, 1) := by decide +kernel
theorem dX1_init_22 : decode cX1_init 22 = .ok (.iload_n 1, 1) := by decide +kernel
theorem dX1_init_23 : decode cX1_init 23 = .ok (.putfield 18, 3) := by decide +kernel
theorem dX1_init_26 : decode cX1_init 26 = .ok (.return_, 1) := by decide +kernel
theorem dX1_clear_0 : decode cX1_clear 0 = .ok (.aload_n 0, 1) := by decide +kernel
theorem dX1_clear_1 : decode cX1_clear 1 = .ok (.iconst 0, 1) := by decide +kernel
theorem dX1_clear_2 : decode cX1_clear 2 = .ok (.putfield 22, 3) := by decide +kernel
theorem dX1_clear_5 : decode cX1_clear 5 = .ok (.return_, 1) := by decide +kernel
theorem dX1_isTold_0 : decode cX1_isTold 0 = .ok (.aload_n 0, 1) := by decide +kernel
theorem dX1_isTold_1 : decode cX1_isTold 1 = .ok (.getfield 22, 3) := by decide +kernel
theorem dX1_isTold_4 : decode cX1_isTold 4 = .ok (.ifCond .le 7, 3) := by decide +kernel
theorem dX1_isTold_7 : decode cX1_isTold 7 = .ok (.iconst 1, 1) := by decide +kernel
theorem dX1_isTold_8 : decode cX1_isTold 8 = .ok (.goto 4, 3) := by decide +kernel
theorem dX1_isTold_11 : decode cX1_isTold 11 = .ok (.iconst 0, 1) := by decide +kernel
theorem dX1_isTold_12 : decode cX1_isTold 12 = .ok (.ireturn, 1) := by decide +kernel
theorem dX1_readFrom_0 : decode cX1_readFrom 0 = .ok (.aload_n 0, 1) := by decide +kernel
theorem dX1_readFrom_1 : decode cX1_readFrom 1 = .ok (.aload_n 1, 1) := by decide +kernel
theorem dX1_readFrom_2 : decode cX1_readFrom 2 = .ok (.iconst 0, 1) := by decide +kernel
theorem dX1_readFrom_3 : decode cX1_readFrom 3 = .ok (.invokevirtual 26, 3) := by decide +kernel
theorem dX1_readFrom_6 : decode cX1_readFrom 6 = .ok (.return_, 1) := by decide +kernel
theorem dX1_worth_0 : decode cX1_worth 0 = .ok (.iconst 0, 1) := by decide +kernel
theorem dX1_worth_1 : decode cX1_worth 1 = .ok (.istore 6, 2) := by decide +kernel
theorem dX1_worth_3 : decode cX1_worth 3 = .ok (.iconst 0, 1) := by decide +kernel
theorem dX1_worth_4 : decode cX1_worth 4 = .ok (.istore 7, 2) := by decide +kernel
theorem dX1_worth_6 : decode cX1_worth 6 = .ok (.iload 7, 2) := by decide +kernel
theorem dX1_worth_8 : decode cX1_worth 8 = .ok (.aload_n 0, 1) := by decide +kernel
theorem dX1_worth_9 : decode cX1_worth 9 = .ok (.getfield 22, 3) := by decide +kernel
theorem dX1_worth_12 : decode cX1_worth 12 = .ok (.if_icmp .ge 181, 3) := by decide +kernel
theorem dX1_worth_15 : decode cX1_worth 15 = .ok (.aload_n 0, 1) := by decide +kernel
theorem dX1_worth_16 : decode cX1_worth 16 = .ok (.getfield 9, 3) := by decide +kernel
theorem dX1_worth_19 : decode cX1_worth 19 = .ok (.iload 7, 2) := by decide +kernel
theorem dX1_worth_21 : decode cX1_worth 21 = .ok (.iaload, 1) := by decide +kernel
theorem dX1_worth_22 : decode cX1_worth 22 = .ok (.istore 8, 2) := by decide +kernel
theorem dX1_worth_24 : decode cX1_worth 24 = .ok (.iload 8, 2) := by decide +kernel
theorem dX1_worth_26 : decode cX1_worth 26 = .ok (.bipush (-5), 2) := by decide +kernel
theorem dX1_worth_28 : decode cX1_worth 28 = .ok (.if_icmp .lt 79, 3) := by decide +kernel
theorem dX1_worth_31 : decode cX1_worth 31 = .ok (.iload 6, 2) := by decide +kernel
theorem dX1_worth_33 : decode cX1_worth 33 = .ok (.bipush 32, 2) := by decide +kernel
theorem dX1_worth_35 : decode cX1_worth 35 = .ok (.if_icmp .ge 152, 3) := by decide +kernel
theorem dX1_worth_38 : decode cX1_worth 38 = .ok (.aload_n 0, 1) := by decide +kernel
theorem dX1_worth_39 : decode cX1_worth 39 = .ok (.getfield 15, 3) := by decide +kernel
theorem dX1_worth_42 : decode cX1_worth 42 = .ok (.iload 6, 2) := by decide +kernel
theorem dX1_worth_44 : decode cX1_worth 44 = .ok (.iload 8, 2) := by decide +kernel
theorem dX1_worth_46 : decode cX1_worth 46 = .ok (.ifCond .lt 8, 3) := by decide +kernel
theorem dX1_worth_49 : decode cX1_worth 49 = .ok (.iload 8, 2) := by decide +kernel
theorem dX1_worth_51 : decode cX1_worth 51 = .ok (.goto 49, 3) := by decide +kernel
theorem dX1_worth_54 : decode cX1_worth 54 = .ok (.iload 8, 2) := by decide +kernel
theorem dX1_worth_56 : decode cX1_worth 56 = .ok (.iconst (-1), 1) := by decide +kernel
theorem dX1_worth_57 : decode cX1_worth 57 = .ok (.if_icmp .ne 7, 3) := by decide +kernel
theorem dX1_worth_60 : decode cX1_worth 60 = .ok (.iload_n 1, 1) := by decide +kernel
theorem dX1_worth_61 : decode cX1_worth 61 = .ok (.goto 39, 3) := by decide +kernel
theorem dX1_worth_64 : decode cX1_worth 64 = .ok (.iload 8, 2) := by decide +kernel
theorem dX1_worth_66 : decode cX1_worth 66 = .ok (.bipush (-2), 2) := by decide +kernel
theorem dX1_worth_68 : decode cX1_worth 68 = .ok (.if_icmp .ne 7, 3) := by decide +kernel
theorem dX1_worth_71 : decode cX1_worth 71 = .ok (.iload_n 2, 1) := by decide +kernel
theorem dX1_worth_72 : decode cX1_worth 72 = .ok (.goto 28, 3) := by decide +kernel
theorem dX1_worth_75 : decode cX1_worth 75 = .ok (.iload 8, 2) := by decide +kernel
theorem dX1_worth_77 : decode cX1_worth 77 = .ok (.bipush (-3), 2) := by decide +kernel
theorem dX1_worth_79 : decode cX1_worth 79 = .ok (.if_icmp .ne 7, 3) := by decide +kernel
theorem dX1_worth_82 : decode cX1_worth 82 = .ok (.iload_n 3, 1) := by decide +kernel
theorem dX1_worth_83 : decode cX1_worth 83 = .ok (.goto 17, 3) := by decide +kernel
theorem dX1_worth_86 : decode cX1_worth 86 = .ok (.iload 8, 2) := by decide +kernel
theorem dX1_worth_88 : decode cX1_worth 88 = .ok (.bipush (-4), 2) := by decide +kernel
theorem dX1_worth_90 : decode cX1_worth 90 = .ok (.if_icmp .ne 8, 3) := by decide +kernel
theorem dX1_worth_93 : decode cX1_worth 93 = .ok (.iload 4, 2) := by decide +kernel
theorem dX1_worth_95 : decode cX1_worth 95 = .ok (.goto 5, 3) := by decide +kernel
theorem dX1_worth_98 : decode cX1_worth 98 = .ok (.iload 5, 2) := by decide +kernel
theorem dX1_worth_100 : decode cX1_worth 100 = .ok (.iastore, 1) := by decide +kernel
theorem dX1_worth_101 : decode cX1_worth 101 = .ok (.iinc 6 1, 3) := by decide +kernel
theorem dX1_worth_104 : decode cX1_worth 104 = .ok (.goto 83, 3) := by decide +kernel
theorem dX1_worth_107 : decode cX1_worth 107 = .ok (.iload 8, 2) := by decide +kernel
theorem dX1_worth_109 : decode cX1_worth 109 = .ok (.bipush (-6), 2) := by decide +kernel
theorem dX1_worth_111 : decode cX1_worth 111 = .ok (.if_icmp .ne 37, 3) := by decide +kernel
theorem dX1_worth_114 : decode cX1_worth 114 = .ok (.iload 6, 2) := by decide +kernel
theorem dX1_worth_116 : decode cX1_worth 116 = .ok (.ifCond .le 71, 3) := by decide +kernel
theorem dX1_worth_119 : decode cX1_worth 119 = .ok (.aload_n 0, 1) := by decide +kernel
theorem dX1_worth_120 : decode cX1_worth 120 = .ok (.getfield 15, 3) := by decide +kernel
theorem dX1_worth_123 : decode cX1_worth 123 = .ok (.iload 6, 2) := by decide +kernel
theorem dX1_worth_125 : decode cX1_worth 125 = .ok (.iconst 1, 1) := by decide +kernel
theorem dX1_worth_126 : decode cX1_worth 126 = .ok (.isub, 1) := by decide +kernel
theorem dX1_worth_127 : decode cX1_worth 127 = .ok (.aload_n 0, 1) := by decide +kernel
theorem dX1_worth_128 : decode cX1_worth 128 = .ok (.getfield 15, 3) := by decide +kernel
theorem dX1_worth_131 : decode cX1_worth 131 = .ok (.iload 6, 2) := by decide +kernel
theorem dX1_worth_133 : decode cX1_worth 133 = .ok (.iconst 1, 1) := by decide +kernel
theorem dX1_worth_134 : decode cX1_worth 134 = .ok (.isub, 1) := by decide +kernel
theorem dX1_worth_135 : decode cX1_worth 135 = .ok (.iaload, 1) := by decide +kernel
theorem dX1_worth_136 : decode cX1_worth 136 = .ok (.ifCond .ne 7, 3) := by decide +kernel
theorem dX1_worth_139 : decode cX1_worth 139 = .ok (.iconst 1, 1) := by decide +kernel
theorem dX1_worth_140 : decode cX1_worth 140 = .ok (.goto 4, 3) := by decide +kernel
theorem dX1_worth_143 : decode cX1_worth 143 = .ok (.iconst 0, 1) := by decide +kernel
theorem dX1_worth_144 : decode cX1_worth 144 = .ok (.iastore, 1) := by decide +kernel
theorem dX1_worth_145 : decode cX1_worth 145 = .ok (.goto 42, 3) := by decide +kernel
theorem dX1_worth_148 : decode cX1_worth 148 = .ok (.iload 6, 2) := by decide +kernel
theorem dX1_worth_150 : decode cX1_worth 150 = .ok (.iconst 1, 1) := by decide +kernel
theorem dX1_worth_151 : decode cX1_worth 151 = .ok (.if_icmp .le 36, 3) := by decide +kernel
theorem dX1_worth_154 : decode cX1_worth 154 = .ok (.iinc 6 (-1), 3) := by decide +kernel
theorem dX1_worth_157 : decode cX1_worth 157 = .ok (.aload_n 0, 1) := by decide +kernel
theorem dX1_worth_158 : decode cX1_worth 158 = .ok (.getfield 15, 3) := by decide +kernel
theorem dX1_worth_161 : decode cX1_worth 161 = .ok (.iload 6, 2) := by decide +kernel
theorem dX1_worth_163 : decode cX1_worth 163 = .ok (.iconst 1, 1) := by decide +kernel
theorem dX1_worth_164 : decode cX1_worth 164 = .ok (.isub, 1) := by decide +kernel
theorem dX1_worth_165 : decode cX1_worth 165 = .ok (.iload 8, 2) := by decide +kernel
theorem dX1_worth_167 : decode cX1_worth 167 = .ok (.aload_n 0, 1) := by decide +kernel
theorem dX1_worth_168 : decode cX1_worth 168 = .ok (.getfield 15, 3) := by decide +kernel
theorem dX1_worth_171 : decode cX1_worth 171 = .ok (.iload 6, 2) := by decide +kernel
theorem dX1_worth_173 : decode cX1_worth 173 = .ok (.iconst 1, 1) := by decide +kernel
theorem dX1_worth_174 : decode cX1_worth 174 = .ok (.isub, 1) := by decide +kernel
theorem dX1_worth_175 : decode cX1_worth 175 = .ok (.iaload, 1) := by decide +kernel
theorem dX1_worth_176 : decode cX1_worth 176 = .ok (.aload_n 0, 1) := by decide +kernel
theorem dX1_worth_177 : decode cX1_worth 177 = .ok (.getfield 15, 3) := by decide +kernel
theorem dX1_worth_180 : decode cX1_worth 180 = .ok (.iload 6, 2) := by decide +kernel
theorem dX1_worth_182 : decode cX1_worth 182 = .ok (.iaload, 1) := by decide +kernel
theorem dX1_worth_183 : decode cX1_worth 183 = .ok (.invokestatic 30, 3) := by decide +kernel
theorem dX1_worth_186 : decode cX1_worth 186 = .ok (.iastore, 1) := by decide +kernel
theorem dX1_worth_187 : decode cX1_worth 187 = .ok (.iinc 7 1, 3) := by decide +kernel
theorem dX1_worth_190 : decode cX1_worth 190 = .ok (.goto (-184), 3) := by decide +kernel
theorem dX1_worth_193 : decode cX1_worth 193 = .ok (.iload 6, 2) := by decide +kernel
theorem dX1_worth_195 : decode cX1_worth 195 = .ok (.ifCond .le 12, 3) := by decide +kernel
theorem dX1_worth_198 : decode cX1_worth 198 = .ok (.aload_n 0, 1) := by decide +kernel
theorem dX1_worth_199 : decode cX1_worth 199 = .ok (.getfield 15, 3) := by decide +kernel
theorem dX1_worth_202 : decode cX1_worth 202 = .ok (.iconst 0, 1) := by decide +kernel
theorem dX1_worth_203 : decode cX1_worth 203 = .ok (.iaload, 1) := by decide +kernel
theorem dX1_worth_204 : decode cX1_worth 204 = .ok (.goto 4, 3) := by decide +kernel
theorem dX1_worth_207 : decode cX1_worth 207 = .ok (.iconst 0, 1) := by decide +kernel
theorem dX1_worth_208 : decode cX1_worth 208 = .ok (.ireturn, 1) := by decide +kernel
theorem dX1_joined_0 : decode cX1_joined 0 = .ok (.iload_n 0, 1) := by decide +kernel
theorem dX1_joined_1 : decode cX1_joined 1 = .ok (.tableswitch 97 (-12) (-7) #[93, 89, 78, 67, 53, 39], 39) := by decide +kernel
theorem dX1_joined_40 : decode cX1_joined 40 = .ok (.iload_n 1, 1) := by decide +kernel
theorem dX1_joined_41 : decode cX1_joined 41 = .ok (.ifCond .eq 11, 3) := by decide +kernel
theorem dX1_joined_44 : decode cX1_joined 44 = .ok (.iload_n 2, 1) := by decide +kernel
theorem dX1_joined_45 : decode cX1_joined 45 = .ok (.ifCond .eq 7, 3) := by decide +kernel
theorem dX1_joined_48 : decode cX1_joined 48 = .ok (.iconst 1, 1) := by decide +kernel
theorem dX1_joined_49 : decode cX1_joined 49 = .ok (.goto 4, 3) := by decide +kernel
theorem dX1_joined_52 : decode cX1_joined 52 = .ok (.iconst 0, 1) := by decide +kernel
theorem dX1_joined_53 : decode cX1_joined 53 = .ok (.ireturn, 1) := by decide +kernel
theorem dX1_joined_54 : decode cX1_joined 54 = .ok (.iload_n 1, 1) := by decide +kernel
theorem dX1_joined_55 : decode cX1_joined 55 = .ok (.ifCond .ne 7, 3) := by decide +kernel
theorem dX1_joined_58 : decode cX1_joined 58 = .ok (.iload_n 2, 1) := by decide +kernel
theorem dX1_joined_59 : decode cX1_joined 59 = .ok (.ifCond .eq 7, 3) := by decide +kernel
theorem dX1_joined_62 : decode cX1_joined 62 = .ok (.iconst 1, 1) := by decide +kernel
theorem dX1_joined_63 : decode cX1_joined 63 = .ok (.goto 4, 3) := by decide +kernel
theorem dX1_joined_66 : decode cX1_joined 66 = .ok (.iconst 0, 1) := by decide +kernel
theorem dX1_joined_67 : decode cX1_joined 67 = .ok (.ireturn, 1) := by decide +kernel
theorem dX1_joined_68 : decode cX1_joined 68 = .ok (.iload_n 1, 1) := by decide +kernel
theorem dX1_joined_69 : decode cX1_joined 69 = .ok (.iload_n 2, 1) := by decide +kernel
theorem dX1_joined_70 : decode cX1_joined 70 = .ok (.if_icmp .ge 7, 3) := by decide +kernel
theorem dX1_joined_73 : decode cX1_joined 73 = .ok (.iconst 1, 1) := by decide +kernel
theorem dX1_joined_74 : decode cX1_joined 74 = .ok (.goto 4, 3) := by decide +kernel
theorem dX1_joined_77 : decode cX1_joined 77 = .ok (.iconst 0, 1) := by decide +kernel
theorem dX1_joined_78 : decode cX1_joined 78 = .ok (.ireturn, 1) := by decide +kernel
theorem dX1_joined_79 : decode cX1_joined 79 = .ok (.iload_n 1, 1) := by decide +kernel
theorem dX1_joined_80 : decode cX1_joined 80 = .ok (.iload_n 2, 1) := by decide +kernel
theorem dX1_joined_81 : decode cX1_joined 81 = .ok (.if_icmp .ne 7, 3) := by decide +kernel
theorem dX1_joined_84 : decode cX1_joined 84 = .ok (.iconst 1, 1) := by decide +kernel
theorem dX1_joined_85 : decode cX1_joined 85 = .ok (.goto 4, 3) := by decide +kernel
theorem dX1_joined_88 : decode cX1_joined 88 = .ok (.iconst 0, 1) := by decide +kernel
theorem dX1_joined_89 : decode cX1_joined 89 = .ok (.ireturn, 1) := by decide +kernel
theorem dX1_joined_90 : decode cX1_joined 90 = .ok (.iload_n 1, 1) := by decide +kernel
theorem dX1_joined_91 : decode cX1_joined 91 = .ok (.iload_n 2, 1) := by decide +kernel
theorem dX1_joined_92 : decode cX1_joined 92 = .ok (.iadd, 1) := by decide +kernel
theorem dX1_joined_93 : decode cX1_joined 93 = .ok (.ireturn, 1) := by decide +kernel
theorem dX1_joined_94 : decode cX1_joined 94 = .ok (.iload_n 1, 1) := by decide +kernel
theorem dX1_joined_95 : decode cX1_joined 95 = .ok (.iload_n 2, 1) := by decide +kernel
theorem dX1_joined_96 : decode cX1_joined 96 = .ok (.isub, 1) := by decide +kernel
theorem dX1_joined_97 : decode cX1_joined 97 = .ok (.ireturn, 1) := by decide +kernel
theorem dX1_joined_98 : decode cX1_joined 98 = .ok (.iload_n 1, 1) := by decide +kernel
theorem dX1_joined_99 : decode cX1_joined 99 = .ok (.iload_n 2, 1) := by decide +kernel
theorem dX1_joined_100 : decode cX1_joined 100 = .ok (.imul, 1) := by decide +kernel
theorem dX1_joined_101 : decode cX1_joined 101 = .ok (.ireturn, 1) := by decide +kernel
theorem dX1_put_0 : decode cX1_put 0 = .ok (.aload_n 0, 1) := by decide +kernel
theorem dX1_put_1 : decode cX1_put 1 = .ok (.getfield 22, 3) := by decide +kernel
theorem dX1_put_4 : decode cX1_put 4 = .ok (.aload_n 0, 1) := by decide +kernel
theorem dX1_put_5 : decode cX1_put 5 = .ok (.getfield 9, 3) := by decide +kernel
theorem dX1_put_8 : decode cX1_put 8 = .ok (.arraylength, 1) := by decide +kernel
theorem dX1_put_9 : decode cX1_put 9 = .ok (.if_icmp .ge 23, 3) := by decide +kernel
theorem dX1_put_12 : decode cX1_put 12 = .ok (.aload_n 0, 1) := by decide +kernel
theorem dX1_put_13 : decode cX1_put 13 = .ok (.getfield 9, 3) := by decide +kernel
theorem dX1_put_16 : decode cX1_put 16 = .ok (.aload_n 0, 1) := by decide +kernel
theorem dX1_put_17 : decode cX1_put 17 = .ok (.getfield 22, 3) := by decide +kernel
theorem dX1_put_20 : decode cX1_put 20 = .ok (.iload_n 1, 1) := by decide +kernel
theorem dX1_put_21 : decode cX1_put 21 = .ok (.iastore, 1) := by decide +kernel
theorem dX1_put_22 : decode cX1_put 22 = .ok (.aload_n 0, 1) := by decide +kernel
theorem dX1_put_23 : decode cX1_put 23 = .ok (.dup, 1) := by decide +kernel
theorem dX1_put_24 : decode cX1_put 24 = .ok (.getfield 22, 3) := by decide +kernel
theorem dX1_put_27 : decode cX1_put 27 = .ok (.iconst 1, 1) := by decide +kernel
theorem dX1_put_28 : decode cX1_put 28 = .ok (.iadd, 1) := by decide +kernel
theorem dX1_put_29 : decode cX1_put 29 = .ok (.putfield 22, 3) := by decide +kernel
theorem dX1_put_32 : decode cX1_put 32 = .ok (.return_, 1) := by decide +kernel
theorem dX1_readTests_0 : decode cX1_readTests 0 = .ok (.aload_n 0, 1) := by decide +kernel
theorem dX1_readTests_1 : decode cX1_readTests 1 = .ok (.aload_n 1, 1) := by decide +kernel
theorem dX1_readTests_2 : decode cX1_readTests 2 = .ok (.iload_n 2, 1) := by decide +kernel
theorem dX1_readTests_3 : decode cX1_readTests 3 = .ok (.invokevirtual 34, 3) := by decide +kernel
theorem dX1_readTests_6 : decode cX1_readTests 6 = .ok (.iconst 0, 1) := by decide +kernel
theorem dX1_readTests_7 : decode cX1_readTests 7 = .ok (.istore_n 3, 1) := by decide +kernel
theorem dX1_readTests_8 : decode cX1_readTests 8 = .ok (.iload_n 3, 1) := by decide +kernel
theorem dX1_readTests_9 : decode cX1_readTests 9 = .ok (.sipush 1000, 3) := by decide +kernel
theorem dX1_readTests_12 : decode cX1_readTests 12 = .ok (.if_icmp .ge 64, 3) := by decide +kernel
theorem dX1_readTests_15 : decode cX1_readTests 15 = .ok (.aload_n 1, 1) := by decide +kernel
theorem dX1_readTests_16 : decode cX1_readTests 16 = .ok (.getstatic 37, 3) := by decide +kernel
theorem dX1_readTests_19 : decode cX1_readTests 19 = .ok (.invokevirtual 43, 3) := by decide +kernel
theorem dX1_readTests_22 : decode cX1_readTests 22 = .ok (.ifCond .eq 8, 3) := by decide +kernel
theorem dX1_readTests_25 : decode cX1_readTests 25 = .ok (.bipush (-7), 2) := by decide +kernel
theorem dX1_readTests_27 : decode cX1_readTests 27 = .ok (.goto 19, 3) := by decide +kernel
theorem dX1_readTests_30 : decode cX1_readTests 30 = .ok (.aload_n 1, 1) := by decide +kernel
theorem dX1_readTests_31 : decode cX1_readTests 31 = .ok (.getstatic 47, 3) := by decide +kernel
theorem dX1_readTests_34 : decode cX1_readTests 34 = .ok (.invokevirtual 43, 3) := by decide +kernel
theorem dX1_readTests_37 : decode cX1_readTests 37 = .ok (.ifCond .eq 8, 3) := by decide +kernel
theorem dX1_readTests_40 : decode cX1_readTests 40 = .ok (.bipush (-8), 2) := by decide +kernel
theorem dX1_readTests_42 : decode cX1_readTests 42 = .ok (.goto 4, 3) := by decide +kernel
theorem dX1_readTests_45 : decode cX1_readTests 45 = .ok (.iconst 0, 1) := by decide +kernel
theorem dX1_readTests_46 : decode cX1_readTests 46 = .ok (.istore 4, 2) := by decide +kernel
theorem dX1_readTests_48 : decode cX1_readTests 48 = .ok (.iload 4, 2) := by decide +kernel
theorem dX1_readTests_50 : decode cX1_readTests 50 = .ok (.ifCond .ne 4, 3) := by decide +kernel
theorem dX1_readTests_53 : decode cX1_readTests 53 = .ok (.return_, 1) := by decide +kernel
theorem dX1_readTests_54 : decode cX1_readTests 54 = .ok (.aload_n 1, 1) := by decide +kernel
theorem dX1_readTests_55 : decode cX1_readTests 55 = .ok (.invokevirtual 50, 3) := by decide +kernel
theorem dX1_readTests_58 : decode cX1_readTests 58 = .ok (.aload_n 0, 1) := by decide +kernel
theorem dX1_readTests_59 : decode cX1_readTests 59 = .ok (.aload_n 1, 1) := by decide +kernel
theorem dX1_readTests_60 : decode cX1_readTests 60 = .ok (.iload_n 2, 1) := by decide +kernel
theorem dX1_readTests_61 : decode cX1_readTests 61 = .ok (.invokevirtual 34, 3) := by decide +kernel
theorem dX1_readTests_64 : decode cX1_readTests 64 = .ok (.aload_n 0, 1) := by decide +kernel
theorem dX1_readTests_65 : decode cX1_readTests 65 = .ok (.iload 4, 2) := by decide +kernel
theorem dX1_readTests_67 : decode cX1_readTests 67 = .ok (.invokevirtual 53, 3) := by decide +kernel
theorem dX1_readTests_70 : decode cX1_readTests 70 = .ok (.iinc 3 1, 3) := by decide +kernel
theorem dX1_readTests_73 : decode cX1_readTests 73 = .ok (.goto (-65), 3) := by decide +kernel
theorem dX1_readTests_76 : decode cX1_readTests 76 = .ok (.return_, 1) := by decide +kernel
theorem dX1_readTest_0 : decode cX1_readTest 0 = .ok (.aload_n 0, 1) := by decide +kernel
theorem dX1_readTest_1 : decode cX1_readTest 1 = .ok (.aload_n 1, 1) := by decide +kernel
theorem dX1_readTest_2 : decode cX1_readTest 2 = .ok (.iload_n 2, 1) := by decide +kernel
theorem dX1_readTest_3 : decode cX1_readTest 3 = .ok (.invokevirtual 57, 3) := by decide +kernel
theorem dX1_readTest_6 : decode cX1_readTest 6 = .ok (.aload_n 1, 1) := by decide +kernel
theorem dX1_readTest_7 : decode cX1_readTest 7 = .ok (.bipush 60, 2) := by decide +kernel
theorem dX1_readTest_9 : decode cX1_readTest 9 = .ok (.invokevirtual 60, 3) := by decide +kernel
theorem dX1_readTest_12 : decode cX1_readTest 12 = .ok (.ifCond .eq 8, 3) := by decide +kernel
theorem dX1_readTest_15 : decode cX1_readTest 15 = .ok (.bipush (-9), 2) := by decide +kernel
theorem dX1_readTest_17 : decode cX1_readTest 17 = .ok (.goto 18, 3) := by decide +kernel
theorem dX1_readTest_20 : decode cX1_readTest 20 = .ok (.aload_n 1, 1) := by decide +kernel
theorem dX1_readTest_21 : decode cX1_readTest 21 = .ok (.bipush 61, 2) := by decide +kernel
theorem dX1_readTest_23 : decode cX1_readTest 23 = .ok (.invokevirtual 60, 3) := by decide +kernel
theorem dX1_readTest_26 : decode cX1_readTest 26 = .ok (.ifCond .eq 8, 3) := by decide +kernel
theorem dX1_readTest_29 : decode cX1_readTest 29 = .ok (.bipush (-10), 2) := by decide +kernel
theorem dX1_readTest_31 : decode cX1_readTest 31 = .ok (.goto 4, 3) := by decide +kernel
theorem dX1_readTest_34 : decode cX1_readTest 34 = .ok (.iconst 0, 1) := by decide +kernel
theorem dX1_readTest_35 : decode cX1_readTest 35 = .ok (.istore_n 3, 1) := by decide +kernel
theorem dX1_readTest_36 : decode cX1_readTest 36 = .ok (.iload_n 3, 1) := by decide +kernel
theorem dX1_readTest_37 : decode cX1_readTest 37 = .ok (.ifCond .eq 18, 3) := by decide +kernel
theorem dX1_readTest_40 : decode cX1_readTest 40 = .ok (.aload_n 1, 1) := by decide +kernel
theorem dX1_readTest_41 : decode cX1_readTest 41 = .ok (.invokevirtual 50, 3) := by decide +kernel
theorem dX1_readTest_44 : decode cX1_readTest 44 = .ok (.aload_n 0, 1) := by decide +kernel
theorem dX1_readTest_45 : decode cX1_readTest 45 = .ok (.aload_n 1, 1) := by decide +kernel
theorem dX1_readTest_46 : decode cX1_readTest 46 = .ok (.iload_n 2, 1) := by decide +kernel
theorem dX1_readTest_47 : decode cX1_readTest 47 = .ok (.invokevirtual 57, 3) := by decide +kernel
theorem dX1_readTest_50 : decode cX1_readTest 50 = .ok (.aload_n 0, 1) := by decide +kernel
theorem dX1_readTest_51 : decode cX1_readTest 51 = .ok (.iload_n 3, 1) := by decide +kernel
theorem dX1_readTest_52 : decode cX1_readTest 52 = .ok (.invokevirtual 53, 3) := by decide +kernel
theorem dX1_readTest_55 : decode cX1_readTest 55 = .ok (.return_, 1) := by decide +kernel
theorem dX1_readSum_0 : decode cX1_readSum 0 = .ok (.aload_n 0, 1) := by decide +kernel
theorem dX1_readSum_1 : decode cX1_readSum 1 = .ok (.aload_n 1, 1) := by decide +kernel
theorem dX1_readSum_2 : decode cX1_readSum 2 = .ok (.iload_n 2, 1) := by decide +kernel
theorem dX1_readSum_3 : decode cX1_readSum 3 = .ok (.invokevirtual 64, 3) := by decide +kernel
theorem dX1_readSum_6 : decode cX1_readSum 6 = .ok (.iconst 0, 1) := by decide +kernel
theorem dX1_readSum_7 : decode cX1_readSum 7 = .ok (.istore_n 3, 1) := by decide +kernel
theorem dX1_readSum_8 : decode cX1_readSum 8 = .ok (.iload_n 3, 1) := by decide +kernel
theorem dX1_readSum_9 : decode cX1_readSum 9 = .ok (.sipush 1000, 3) := by decide +kernel
theorem dX1_readSum_12 : decode cX1_readSum 12 = .ok (.if_icmp .ge 62, 3) := by decide +kernel
theorem dX1_readSum_15 : decode cX1_readSum 15 = .ok (.aload_n 1, 1) := by decide +kernel
theorem dX1_readSum_16 : decode cX1_readSum 16 = .ok (.bipush 43, 2) := by decide +kernel
theorem dX1_readSum_18 : decode cX1_readSum 18 = .ok (.invokevirtual 60, 3) := by decide +kernel
theorem dX1_readSum_21 : decode cX1_readSum 21 = .ok (.ifCond .eq 8, 3) := by decide +kernel
theorem dX1_readSum_24 : decode cX1_readSum 24 = .ok (.bipush (-11), 2) := by decide +kernel
theorem dX1_readSum_26 : decode cX1_readSum 26 = .ok (.goto 18, 3) := by decide +kernel
theorem dX1_readSum_29 : decode cX1_readSum 29 = .ok (.aload_n 1, 1) := by decide +kernel
theorem dX1_readSum_30 : decode cX1_readSum 30 = .ok (.bipush 45, 2) := by decide +kernel
theorem dX1_readSum_32 : decode cX1_readSum 32 = .ok (.invokevirtual 60, 3) := by decide +kernel
theorem dX1_readSum_35 : decode cX1_readSum 35 = .ok (.ifCond .eq 8, 3) := by decide +kernel
theorem dX1_readSum_38 : decode cX1_readSum 38 = .ok (.bipush (-12), 2) := by decide +kernel
theorem dX1_readSum_40 : decode cX1_readSum 40 = .ok (.goto 4, 3) := by decide +kernel
theorem dX1_readSum_43 : decode cX1_readSum 43 = .ok (.iconst 0, 1) := by decide +kernel
theorem dX1_readSum_44 : decode cX1_readSum 44 = .ok (.istore 4, 2) := by decide +kernel
theorem dX1_readSum_46 : decode cX1_readSum 46 = .ok (.iload 4, 2) := by decide +kernel
theorem dX1_readSum_48 : decode cX1_readSum 48 = .ok (.ifCond .ne 4, 3) := by decide +kernel
theorem dX1_readSum_51 : decode cX1_readSum 51 = .ok (.return_, 1) := by decide +kernel
theorem dX1_readSum_52 : decode cX1_readSum 52 = .ok (.aload_n 1, 1) := by decide +kernel
theorem dX1_readSum_53 : decode cX1_readSum 53 = .ok (.invokevirtual 50, 3) := by decide +kernel
theorem dX1_readSum_56 : decode cX1_readSum 56 = .ok (.aload_n 0, 1) := by decide +kernel
theorem dX1_readSum_57 : decode cX1_readSum 57 = .ok (.aload_n 1, 1) := by decide +kernel
theorem dX1_readSum_58 : decode cX1_readSum 58 = .ok (.iload_n 2, 1) := by decide +kernel
theorem dX1_readSum_59 : decode cX1_readSum 59 = .ok (.invokevirtual 64, 3) := by decide +kernel
theorem dX1_readSum_62 : decode cX1_readSum 62 = .ok (.aload_n 0, 1) := by decide +kernel
theorem dX1_readSum_63 : decode cX1_readSum 63 = .ok (.iload 4, 2) := by decide +kernel
theorem dX1_readSum_65 : decode cX1_readSum 65 = .ok (.invokevirtual 53, 3) := by decide +kernel
theorem dX1_readSum_68 : decode cX1_readSum 68 = .ok (.iinc 3 1, 3) := by decide +kernel
theorem dX1_readSum_71 : decode cX1_readSum 71 = .ok (.goto (-63), 3) := by decide +kernel
theorem dX1_readSum_74 : decode cX1_readSum 74 = .ok (.return_, 1) := by decide +kernel
theorem dX1_readProduct_0 : decode cX1_readProduct 0 = .ok (.aload_n 0, 1) := by decide +kernel
theorem dX1_readProduct_1 : decode cX1_readProduct 1 = .ok (.aload_n 1, 1) := by decide +kernel
theorem dX1_readProduct_2 : decode cX1_readProduct 2 = .ok (.iload_n 2, 1) := by decide +kernel
theorem dX1_readProduct_3 : decode cX1_readProduct 3 = .ok (.invokevirtual 67, 3) := by decide +kernel
theorem dX1_readProduct_6 : decode cX1_readProduct 6 = .ok (.iconst 0, 1) := by decide +kernel
theorem dX1_readProduct_7 : decode cX1_readProduct 7 = .ok (.istore_n 3, 1) := by decide +kernel
theorem dX1_readProduct_8 : decode cX1_readProduct 8 = .ok (.iload_n 3, 1) := by decide +kernel
theorem dX1_readProduct_9 : decode cX1_readProduct 9 = .ok (.sipush 1000, 3) := by decide +kernel
theorem dX1_readProduct_12 : decode cX1_readProduct 12 = .ok (.if_icmp .ge 34, 3) := by decide +kernel
theorem dX1_readProduct_15 : decode cX1_readProduct 15 = .ok (.aload_n 1, 1) := by decide +kernel
theorem dX1_readProduct_16 : decode cX1_readProduct 16 = .ok (.bipush 42, 2) := by decide +kernel
theorem dX1_readProduct_18 : decode cX1_readProduct 18 = .ok (.invokevirtual 60, 3) := by decide +kernel
theorem dX1_readProduct_21 : decode cX1_readProduct 21 = .ok (.ifCond .eq 25, 3) := by decide +kernel
theorem dX1_readProduct_24 : decode cX1_readProduct 24 = .ok (.aload_n 1, 1) := by decide +kernel
theorem dX1_readProduct_25 : decode cX1_readProduct 25 = .ok (.invokevirtual 50, 3) := by decide +kernel
theorem dX1_readProduct_28 : decode cX1_readProduct 28 = .ok (.aload_n 0, 1) := by decide +kernel
theorem dX1_readProduct_29 : decode cX1_readProduct 29 = .ok (.aload_n 1, 1) := by decide +kernel
theorem dX1_readProduct_30 : decode cX1_readProduct 30 = .ok (.iload_n 2, 1) := by decide +kernel
theorem dX1_readProduct_31 : decode cX1_readProduct 31 = .ok (.invokevirtual 67, 3) := by decide +kernel
theorem dX1_readProduct_34 : decode cX1_readProduct 34 = .ok (.aload_n 0, 1) := by decide +kernel
theorem dX1_readProduct_35 : decode cX1_readProduct 35 = .ok (.bipush (-13), 2) := by decide +kernel
theorem dX1_readProduct_37 : decode cX1_readProduct 37 = .ok (.invokevirtual 53, 3) := by decide +kernel
theorem dX1_readProduct_40 : decode cX1_readProduct 40 = .ok (.iinc 3 1, 3) := by decide +kernel
theorem dX1_readProduct_43 : decode cX1_readProduct 43 = .ok (.goto (-35), 3) := by decide +kernel
theorem dX1_readProduct_46 : decode cX1_readProduct 46 = .ok (.return_, 1) := by decide +kernel
theorem dX1_readPart_0 : decode cX1_readPart 0 = .ok (.aload_n 0, 1) := by decide +kernel
theorem dX1_readPart_1 : decode cX1_readPart 1 = .ok (.aload_n 1, 1) := by decide +kernel
theorem dX1_readPart_2 : decode cX1_readPart 2 = .ok (.invokevirtual 70, 3) := by decide +kernel
theorem dX1_readPart_5 : decode cX1_readPart 5 = .ok (.istore_n 3, 1) := by decide +kernel
theorem dX1_readPart_6 : decode cX1_readPart 6 = .ok (.aload_n 1, 1) := by decide +kernel
theorem dX1_readPart_7 : decode cX1_readPart 7 = .ok (.getstatic 74, 3) := by decide +kernel
theorem dX1_readPart_10 : decode cX1_readPart 10 = .ok (.invokevirtual 43, 3) := by decide +kernel
theorem dX1_readPart_13 : decode cX1_readPart 13 = .ok (.istore 4, 2) := by decide +kernel
theorem dX1_readPart_15 : decode cX1_readPart 15 = .ok (.aload_n 1, 1) := by decide +kernel
theorem dX1_readPart_16 : decode cX1_readPart 16 = .ok (.bipush 40, 2) := by decide +kernel
theorem dX1_readPart_18 : decode cX1_readPart 18 = .ok (.invokevirtual 60, 3) := by decide +kernel
theorem dX1_readPart_21 : decode cX1_readPart 21 = .ok (.istore 5, 2) := by decide +kernel
theorem dX1_readPart_23 : decode cX1_readPart 23 = .ok (.iload 4, 2) := by decide +kernel
theorem dX1_readPart_25 : decode cX1_readPart 25 = .ok (.ifCond .ne 27, 3) := by decide +kernel
theorem dX1_readPart_28 : decode cX1_readPart 28 = .ok (.iload 5, 2) := by decide +kernel
theorem dX1_readPart_30 : decode cX1_readPart 30 = .ok (.ifCond .ne 22, 3) := by decide +kernel
theorem dX1_readPart_33 : decode cX1_readPart 33 = .ok (.aload_n 1, 1) := by decide +kernel
theorem dX1_readPart_34 : decode cX1_readPart 34 = .ok (.invokevirtual 77, 3) := by decide +kernel
theorem dX1_readPart_37 : decode cX1_readPart 37 = .ok (.ifCond .ne 15, 3) := by decide +kernel
theorem dX1_readPart_40 : decode cX1_readPart 40 = .ok (.iload_n 3, 1) := by decide +kernel
theorem dX1_readPart_41 : decode cX1_readPart 41 = .ok (.ifCond .ne 11, 3) := by decide +kernel
theorem dX1_readPart_44 : decode cX1_readPart 44 = .ok (.aload_n 1, 1) := by decide +kernel
theorem dX1_readPart_45 : decode cX1_readPart 45 = .ok (.iconst 1, 1) := by decide +kernel
theorem dX1_readPart_46 : decode cX1_readPart 46 = .ok (.invokevirtual 81, 3) := by decide +kernel
theorem dX1_readPart_49 : decode cX1_readPart 49 = .ok (.goto 100, 3) := by decide +kernel
theorem dX1_readPart_52 : decode cX1_readPart 52 = .ok (.iload_n 2, 1) := by decide +kernel
theorem dX1_readPart_53 : decode cX1_readPart 53 = .ok (.iconst 5, 1) := by decide +kernel
theorem dX1_readPart_54 : decode cX1_readPart 54 = .ok (.if_icmp .lt 11, 3) := by decide +kernel
theorem dX1_readPart_57 : decode cX1_readPart 57 = .ok (.aload_n 1, 1) := by decide +kernel
theorem dX1_readPart_58 : decode cX1_readPart 58 = .ok (.iconst 5, 1) := by decide +kernel
theorem dX1_readPart_59 : decode cX1_readPart 59 = .ok (.invokevirtual 81, 3) := by decide +kernel
theorem dX1_readPart_62 : decode cX1_readPart 62 = .ok (.goto 87, 3) := by decide +kernel
theorem dX1_readPart_65 : decode cX1_readPart 65 = .ok (.iload 4, 2) := by decide +kernel
theorem dX1_readPart_67 : decode cX1_readPart 67 = .ok (.ifCond .eq 24, 3) := by decide +kernel
theorem dX1_readPart_70 : decode cX1_readPart 70 = .ok (.aload_n 1, 1) := by decide +kernel
theorem dX1_readPart_71 : decode cX1_readPart 71 = .ok (.invokevirtual 50, 3) := by decide +kernel
theorem dX1_readPart_74 : decode cX1_readPart 74 = .ok (.aload_n 0, 1) := by decide +kernel
theorem dX1_readPart_75 : decode cX1_readPart 75 = .ok (.aload_n 1, 1) := by decide +kernel
theorem dX1_readPart_76 : decode cX1_readPart 76 = .ok (.iload_n 2, 1) := by decide +kernel
theorem dX1_readPart_77 : decode cX1_readPart 77 = .ok (.iconst 1, 1) := by decide +kernel
theorem dX1_readPart_78 : decode cX1_readPart 78 = .ok (.iadd, 1) := by decide +kernel
theorem dX1_readPart_79 : decode cX1_readPart 79 = .ok (.invokevirtual 67, 3) := by decide +kernel
theorem dX1_readPart_82 : decode cX1_readPart 82 = .ok (.aload_n 0, 1) := by decide +kernel
theorem dX1_readPart_83 : decode cX1_readPart 83 = .ok (.bipush (-6), 2) := by decide +kernel
theorem dX1_readPart_85 : decode cX1_readPart 85 = .ok (.invokevirtual 53, 3) := by decide +kernel
theorem dX1_readPart_88 : decode cX1_readPart 88 = .ok (.goto 61, 3) := by decide +kernel
theorem dX1_readPart_91 : decode cX1_readPart 91 = .ok (.iload 5, 2) := by decide +kernel
theorem dX1_readPart_93 : decode cX1_readPart 93 = .ok (.ifCond .eq 36, 3) := by decide +kernel
theorem dX1_readPart_96 : decode cX1_readPart 96 = .ok (.aload_n 1, 1) := by decide +kernel
theorem dX1_readPart_97 : decode cX1_readPart 97 = .ok (.invokevirtual 50, 3) := by decide +kernel
theorem dX1_readPart_100 : decode cX1_readPart 100 = .ok (.aload_n 0, 1) := by decide +kernel
theorem dX1_readPart_101 : decode cX1_readPart 101 = .ok (.aload_n 1, 1) := by decide +kernel
theorem dX1_readPart_102 : decode cX1_readPart 102 = .ok (.iload_n 2, 1) := by decide +kernel
theorem dX1_readPart_103 : decode cX1_readPart 103 = .ok (.iconst 1, 1) := by decide +kernel
theorem dX1_readPart_104 : decode cX1_readPart 104 = .ok (.iadd, 1) := by decide +kernel
theorem dX1_readPart_105 : decode cX1_readPart 105 = .ok (.invokevirtual 26, 3) := by decide +kernel
theorem dX1_readPart_108 : decode cX1_readPart 108 = .ok (.aload_n 1, 1) := by decide +kernel
theorem dX1_readPart_109 : decode cX1_readPart 109 = .ok (.bipush 41, 2) := by decide +kernel
theorem dX1_readPart_111 : decode cX1_readPart 111 = .ok (.invokevirtual 60, 3) := by decide +kernel
theorem dX1_readPart_114 : decode cX1_readPart 114 = .ok (.ifCond .ne 8, 3) := by decide +kernel
theorem dX1_readPart_117 : decode cX1_readPart 117 = .ok (.aload_n 1, 1) := by decide +kernel
theorem dX1_readPart_118 : decode cX1_readPart 118 = .ok (.iconst 1, 1) := by decide +kernel
theorem dX1_readPart_119 : decode cX1_readPart 119 = .ok (.invokevirtual 81, 3) := by decide +kernel
theorem dX1_readPart_122 : decode cX1_readPart 122 = .ok (.aload_n 1, 1) := by decide +kernel
theorem dX1_readPart_123 : decode cX1_readPart 123 = .ok (.invokevirtual 50, 3) := by decide +kernel
theorem dX1_readPart_126 : decode cX1_readPart 126 = .ok (.goto 23, 3) := by decide +kernel
theorem dX1_readPart_129 : decode cX1_readPart 129 = .ok (.aload_n 0, 1) := by decide +kernel
theorem dX1_readPart_130 : decode cX1_readPart 130 = .ok (.iload_n 3, 1) := by decide +kernel
theorem dX1_readPart_131 : decode cX1_readPart 131 = .ok (.ifCond .eq 7, 3) := by decide +kernel
theorem dX1_readPart_134 : decode cX1_readPart 134 = .ok (.iload_n 3, 1) := by decide +kernel
theorem dX1_readPart_135 : decode cX1_readPart 135 = .ok (.goto 7, 3) := by decide +kernel
theorem dX1_readPart_138 : decode cX1_readPart 138 = .ok (.aload_n 1, 1) := by decide +kernel
theorem dX1_readPart_139 : decode cX1_readPart 139 = .ok (.getfield 84, 3) := by decide +kernel
theorem dX1_readPart_142 : decode cX1_readPart 142 = .ok (.invokevirtual 53, 3) := by decide +kernel
theorem dX1_readPart_145 : decode cX1_readPart 145 = .ok (.aload_n 1, 1) := by decide +kernel
theorem dX1_readPart_146 : decode cX1_readPart 146 = .ok (.invokevirtual 50, 3) := by decide +kernel
theorem dX1_readPart_149 : decode cX1_readPart 149 = .ok (.return_, 1) := by decide +kernel
theorem dX1_factAt_0 : decode cX1_factAt 0 = .ok (.aload_n 1, 1) := by decide +kernel
theorem dX1_factAt_1 : decode cX1_factAt 1 = .ok (.getstatic 87, 3) := by decide +kernel
theorem dX1_factAt_4 : decode cX1_factAt 4 = .ok (.invokevirtual 43, 3) := by decide +kernel
theorem dX1_factAt_7 : decode cX1_factAt 7 = .ok (.ifCond .eq 5, 3) := by decide +kernel
theorem dX1_factAt_10 : decode cX1_factAt 10 = .ok (.iconst (-1), 1) := by decide +kernel
theorem dX1_factAt_11 : decode cX1_factAt 11 = .ok (.ireturn, 1) := by decide +kernel
theorem dX1_factAt_12 : decode cX1_factAt 12 = .ok (.aload_n 1, 1) := by decide +kernel
theorem dX1_factAt_13 : decode cX1_factAt 13 = .ok (.getstatic 90, 3) := by decide +kernel
theorem dX1_factAt_16 : decode cX1_factAt 16 = .ok (.invokevirtual 43, 3) := by decide +kernel
theorem dX1_factAt_19 : decode cX1_factAt 19 = .ok (.ifCond .eq 6, 3) := by decide +kernel
theorem dX1_factAt_22 : decode cX1_factAt 22 = .ok (.bipush (-2), 2) := by decide +kernel
theorem dX1_factAt_24 : decode cX1_factAt 24 = .ok (.ireturn, 1) := by decide +kernel
theorem dX1_factAt_25 : decode cX1_factAt 25 = .ok (.aload_n 1, 1) := by decide +kernel
theorem dX1_factAt_26 : decode cX1_factAt 26 = .ok (.getstatic 93, 3) := by decide +kernel
theorem dX1_factAt_29 : decode cX1_factAt 29 = .ok (.invokevirtual 43, 3) := by decide +kernel
theorem dX1_factAt_32 : decode cX1_factAt 32 = .ok (.ifCond .eq 6, 3) := by decide +kernel
theorem dX1_factAt_35 : decode cX1_factAt 35 = .ok (.bipush (-3), 2) := by decide +kernel
theorem dX1_factAt_37 : decode cX1_factAt 37 = .ok (.ireturn, 1) := by decide +kernel
theorem dX1_factAt_38 : decode cX1_factAt 38 = .ok (.aload_n 0, 1) := by decide +kernel
theorem dX1_factAt_39 : decode cX1_factAt 39 = .ok (.getfield 18, 3) := by decide +kernel
theorem dX1_factAt_42 : decode cX1_factAt 42 = .ok (.ifCond .eq 16, 3) := by decide +kernel
theorem dX1_factAt_45 : decode cX1_factAt 45 = .ok (.aload_n 1, 1) := by decide +kernel
theorem dX1_factAt_46 : decode cX1_factAt 46 = .ok (.getstatic 96, 3) := by decide +kernel
theorem dX1_factAt_49 : decode cX1_factAt 49 = .ok (.invokevirtual 43, 3) := by decide +kernel
theorem dX1_factAt_52 : decode cX1_factAt 52 = .ok (.ifCond .eq 6, 3) := by decide +kernel
theorem dX1_factAt_55 : decode cX1_factAt 55 = .ok (.bipush (-4), 2) := by decide +kernel
theorem dX1_factAt_57 : decode cX1_factAt 57 = .ok (.ireturn, 1) := by decide +kernel
theorem dX1_factAt_58 : decode cX1_factAt 58 = .ok (.aload_n 0, 1) := by decide +kernel
theorem dX1_factAt_59 : decode cX1_factAt 59 = .ok (.getfield 18, 3) := by decide +kernel
theorem dX1_factAt_62 : decode cX1_factAt 62 = .ok (.ifCond .eq 18, 3) := by decide +kernel
theorem dX1_factAt_65 : decode cX1_factAt 65 = .ok (.aload_n 1, 1) := by decide +kernel
theorem dX1_factAt_66 : decode cX1_factAt 66 = .ok (.getstatic 99, 3) := by decide +kernel
theorem dX1_factAt_69 : decode cX1_factAt 69 = .ok (.invokevirtual 43, 3) := by decide +kernel
theorem dX1_factAt_72 : decode cX1_factAt 72 = .ok (.ifCond .eq 8, 3) := by decide +kernel
theorem dX1_factAt_75 : decode cX1_factAt 75 = .ok (.bipush (-5), 2) := by decide +kernel
theorem dX1_factAt_77 : decode cX1_factAt 77 = .ok (.goto 4, 3) := by decide +kernel
theorem dX1_factAt_80 : decode cX1_factAt 80 = .ok (.iconst 0, 1) := by decide +kernel
theorem dX1_factAt_81 : decode cX1_factAt 81 = .ok (.ireturn, 1) := by decide +kernel
theorem dX2_init_0 : decode cX2_init 0 = .ok (.aload_n 0, 1) := by decide +kernel
theorem dX2_init_1 : decode cX2_init 1 = .ok (.invokespecial 3, 3) := by decide +kernel
theorem dX2_init_4 : decode cX2_init 4 = .ok (.aload_n 0, 1) := by decide +kernel
theorem dX2_init_5 : decode cX2_init 5 = .ok (.new 9, 3) := by decide +kernel
theorem dX2_init_8 : decode cX2_init 8 = .ok (.dup, 1) := by decide +kernel
theorem dX2_init_9 : decode cX2_init 9 = .ok (.invokespecial 11, 3) := by decide +kernel
theorem dX2_init_12 : decode cX2_init 12 = .ok (.putfield 12, 3) := by decide +kernel
theorem dX2_init_15 : decode cX2_init 15 = .ok (.aload_n 0, 1) := by decide +kernel
theorem dX2_init_16 : decode cX2_init 16 = .ok (.new 18, 3) := by decide +kernel
theorem dX2_init_19 : decode cX2_init 19 = .ok (.dup, 1) := by decide +kernel
theorem dX2_init_20 : decode cX2_init 20 = .ok (.invokespecial 20, 3) := by decide +kernel
theorem dX2_init_23 : decode cX2_init 23 = .ok (.putfield 21, 3) := by decide +kernel
theorem dX2_init_26 : decode cX2_init 26 = .ok (.aload_n 0, 1) := by decide +kernel
theorem dX2_init_27 : decode cX2_init 27 = .ok (.bipush 8, 2) := by decide +kernel
theorem dX2_init_29 : decode cX2_init 29 = .ok (.newarray .int, 2) := by decide +kernel
theorem dX2_init_31 : decode cX2_init 31 = .ok (.putfield 25, 3) := by decide +kernel
theorem dX2_init_34 : decode cX2_init 34 = .ok (.aload_n 0, 1) := by decide +kernel
theorem dX2_init_35 : decode cX2_init 35 = .ok (.bipush 8, 2) := by decide +kernel
theorem dX2_init_37 : decode cX2_init 37 = .ok (.newarray .int, 2) := by decide +kernel
theorem dX2_init_39 : decode cX2_init 39 = .ok (.putfield 29, 3) := by decide +kernel
theorem dX2_init_42 : decode cX2_init 42 = .ok (.aload_n 0, 1) := by decide +kernel
theorem dX2_init_43 : decode cX2_init 43 = .ok (.bipush 8, 2) := by decide +kernel
theorem dX2_init_45 : decode cX2_init 45 = .ok (.newarray .int, 2) := by decide +kernel
theorem dX2_init_47 : decode cX2_init 47 = .ok (.putfield 32, 3) := by decide +kernel
theorem dX2_init_50 : decode cX2_init 50 = .ok (.return_, 1) := by decide +kernel
theorem dX2_begin_0 : decode cX2_begin 0 = .ok (.aload_n 0, 1) := by decide +kernel
theorem dX2_begin_1 : decode cX2_begin 1 = .ok (.getfield 12, 3) := by decide +kernel
theorem dX2_begin_4 : decode cX2_begin 4 = .ok (.aload_n 1, 1) := by decide +kernel
theorem dX2_begin_5 : decode cX2_begin 5 = .ok (.invokevirtual 35, 3) := by decide +kernel
theorem dX2_begin_8 : decode cX2_begin 8 = .ok (.aload_n 0, 1) := by decide +kernel
theorem dX2_begin_9 : decode cX2_begin 9 = .ok (.getfield 21, 3) := by decide +kernel
theorem dX2_begin_12 : decode cX2_begin 12 = .ok (.invokevirtual 39, 3) := by decide +kernel
theorem dX2_begin_15 : decode cX2_begin 15 = .ok (.aload_n 0, 1) := by decide +kernel
theorem dX2_begin_16 : decode cX2_begin 16 = .ok (.iconst 0, 1) := by decide +kernel
theorem dX2_begin_17 : decode cX2_begin 17 = .ok (.putfield 42, 3) := by decide +kernel
theorem dX2_begin_20 : decode cX2_begin 20 = .ok (.return_, 1) := by decide +kernel
theorem dX2_copy_0 : decode cX2_copy 0 = .ok (.aload_n 0, 1) := by decide +kernel
theorem dX2_copy_1 : decode cX2_copy 1 = .ok (.getfield 12, 3) := by decide +kernel
theorem dX2_copy_4 : decode cX2_copy 4 = .ok (.aload_n 1, 1) := by decide +kernel
theorem dX2_copy_5 : decode cX2_copy 5 = .ok (.getfield 12, 3) := by decide +kernel
theorem dX2_copy_8 : decode cX2_copy 8 = .ok (.invokevirtual 46, 3) := by decide +kernel
theorem dX2_copy_11 : decode cX2_copy 11 = .ok (.aload_n 0, 1) := by decide +kernel
theorem dX2_copy_12 : decode cX2_copy 12 = .ok (.getfield 21, 3) := by decide +kernel
theorem dX2_copy_15 : decode cX2_copy 15 = .ok (.aload_n 1, 1) := by decide +kernel
theorem dX2_copy_16 : decode cX2_copy 16 = .ok (.getfield 21, 3) := by decide +kernel
theorem dX2_copy_19 : decode cX2_copy 19 = .ok (.invokevirtual 50, 3) := by decide +kernel
theorem dX2_copy_22 : decode cX2_copy 22 = .ok (.aload_n 0, 1) := by decide +kernel
theorem dX2_copy_23 : decode cX2_copy 23 = .ok (.aload_n 1, 1) := by decide +kernel
theorem dX2_copy_24 : decode cX2_copy 24 = .ok (.getfield 42, 3) := by decide +kernel
theorem dX2_copy_27 : decode cX2_copy 27 = .ok (.putfield 42, 3) := by decide +kernel
theorem dX2_copy_30 : decode cX2_copy 30 = .ok (.aload_n 1, 1) := by decide +kernel
theorem dX2_copy_31 : decode cX2_copy 31 = .ok (.getfield 25, 3) := by decide +kernel
theorem dX2_copy_34 : decode cX2_copy 34 = .ok (.iconst 0, 1) := by decide +kernel
theorem dX2_copy_35 : decode cX2_copy 35 = .ok (.aload_n 0, 1) := by decide +kernel
theorem dX2_copy_36 : decode cX2_copy 36 = .ok (.getfield 25, 3) := by decide +kernel
theorem dX2_copy_39 : decode cX2_copy 39 = .ok (.iconst 0, 1) := by decide +kernel
theorem dX2_copy_40 : decode cX2_copy 40 = .ok (.bipush 8, 2) := by decide +kernel
theorem dX2_copy_42 : decode cX2_copy 42 = .ok (.invokestatic 53, 3) := by decide +kernel
theorem dX2_copy_45 : decode cX2_copy 45 = .ok (.aload_n 1, 1) := by decide +kernel
theorem dX2_copy_46 : decode cX2_copy 46 = .ok (.getfield 29, 3) := by decide +kernel
theorem dX2_copy_49 : decode cX2_copy 49 = .ok (.iconst 0, 1) := by decide +kernel
theorem dX2_copy_50 : decode cX2_copy 50 = .ok (.aload_n 0, 1) := by decide +kernel
theorem dX2_copy_51 : decode cX2_copy 51 = .ok (.getfield 29, 3) := by decide +kernel
theorem dX2_copy_54 : decode cX2_copy 54 = .ok (.iconst 0, 1) := by decide +kernel
theorem dX2_copy_55 : decode cX2_copy 55 = .ok (.bipush 8, 2) := by decide +kernel
theorem dX2_copy_57 : decode cX2_copy 57 = .ok (.invokestatic 53, 3) := by decide +kernel
theorem dX2_copy_60 : decode cX2_copy 60 = .ok (.aload_n 1, 1) := by decide +kernel
theorem dX2_copy_61 : decode cX2_copy 61 = .ok (.getfield 32, 3) := by decide +kernel
theorem dX2_copy_64 : decode cX2_copy 64 = .ok (.iconst 0, 1) := by decide +kernel
theorem dX2_copy_65 : decode cX2_copy 65 = .ok (.aload_n 0, 1) := by decide +kernel
theorem dX2_copy_66 : decode cX2_copy 66 = .ok (.getfield 32, 3) := by decide +kernel
theorem dX2_copy_69 : decode cX2_copy 69 = .ok (.iconst 0, 1) := by decide +kernel
theorem dX2_copy_70 : decode cX2_copy 70 = .ok (.bipush 8, 2) := by decide +kernel
theorem dX2_copy_72 : decode cX2_copy 72 = .ok (.invokestatic 53, 3) := by decide +kernel
theorem dX2_copy_75 : decode cX2_copy 75 = .ok (.return_, 1) := by decide +kernel
theorem dX2_addRead_0 : decode cX2_addRead 0 = .ok (.aload_n 0, 1) := by decide +kernel
theorem dX2_addRead_1 : decode cX2_addRead 1 = .ok (.getfield 42, 3) := by decide +kernel
theorem dX2_addRead_4 : decode cX2_addRead 4 = .ok (.bipush 8, 2) := by decide +kernel
theorem dX2_addRead_6 : decode cX2_addRead 6 = .ok (.if_icmp .lt 5, 3) := by decide +kernel
theorem dX2_addRead_9 : decode cX2_addRead 9 = .ok (.iconst 0, 1) := by decide +kernel
theorem dX2_addRead_10 : decode cX2_addRead 10 = .ok (.ireturn, 1) := by decide +kernel
theorem dX2_addRead_11 : decode cX2_addRead 11 = .ok (.aload_n 0, 1) := by decide +kernel
theorem dX2_addRead_12 : decode cX2_addRead 12 = .ok (.getfield 25, 3) := by decide +kernel
theorem dX2_addRead_15 : decode cX2_addRead 15 = .ok (.aload_n 0, 1) := by decide +kernel
theorem dX2_addRead_16 : decode cX2_addRead 16 = .ok (.getfield 42, 3) := by decide +kernel
theorem dX2_addRead_19 : decode cX2_addRead 19 = .ok (.iload_n 1, 1) := by decide +kernel
theorem dX2_addRead_20 : decode cX2_addRead 20 = .ok (.iastore, 1) := by decide +kernel
theorem dX2_addRead_21 : decode cX2_addRead 21 = .ok (.aload_n 0, 1) := by decide +kernel
theorem dX2_addRead_22 : decode cX2_addRead 22 = .ok (.getfield 29, 3) := by decide +kernel
theorem dX2_addRead_25 : decode cX2_addRead 25 = .ok (.aload_n 0, 1) := by decide +kernel
theorem dX2_addRead_26 : decode cX2_addRead 26 = .ok (.getfield 42, 3) := by decide +kernel
theorem dX2_addRead_29 : decode cX2_addRead 29 = .ok (.iload_n 2, 1) := by decide +kernel
theorem dX2_addRead_30 : decode cX2_addRead 30 = .ok (.iastore, 1) := by decide +kernel
theorem dX2_addRead_31 : decode cX2_addRead 31 = .ok (.aload_n 0, 1) := by decide +kernel
theorem dX2_addRead_32 : decode cX2_addRead 32 = .ok (.getfield 32, 3) := by decide +kernel
theorem dX2_addRead_35 : decode cX2_addRead 35 = .ok (.aload_n 0, 1) := by decide +kernel
theorem dX2_addRead_36 : decode cX2_addRead 36 = .ok (.getfield 42, 3) := by decide +kernel
theorem dX2_addRead_39 : decode cX2_addRead 39 = .ok (.iload_n 3, 1) := by decide +kernel
theorem dX2_addRead_40 : decode cX2_addRead 40 = .ok (.iastore, 1) := by decide +kernel
theorem dX2_addRead_41 : decode cX2_addRead 41 = .ok (.aload_n 0, 1) := by decide +kernel
theorem dX2_addRead_42 : decode cX2_addRead 42 = .ok (.dup, 1) := by decide +kernel
theorem dX2_addRead_43 : decode cX2_addRead 43 = .ok (.getfield 42, 3) := by decide +kernel
theorem dX2_addRead_46 : decode cX2_addRead 46 = .ok (.iconst 1, 1) := by decide +kernel
theorem dX2_addRead_47 : decode cX2_addRead 47 = .ok (.iadd, 1) := by decide +kernel
theorem dX2_addRead_48 : decode cX2_addRead 48 = .ok (.putfield 42, 3) := by decide +kernel
theorem dX2_addRead_51 : decode cX2_addRead 51 = .ok (.iconst 1, 1) := by decide +kernel
theorem dX2_addRead_52 : decode cX2_addRead 52 = .ok (.ireturn, 1) := by decide +kernel
theorem dX2_agrees_0 : decode cX2_agrees 0 = .ok (.iconst 0, 1) := by decide +kernel
theorem dX2_agrees_1 : decode cX2_agrees 1 = .ok (.istore 6, 2) := by decide +kernel
theorem dX2_agrees_3 : decode cX2_agrees 3 = .ok (.iload 6, 2) := by decide +kernel
theorem dX2_agrees_5 : decode cX2_agrees 5 = .ok (.aload_n 0, 1) := by decide +kernel
theorem dX2_agrees_6 : decode cX2_agrees 6 = .ok (.getfield 42, 3) := by decide +kernel
theorem dX2_agrees_9 : decode cX2_agrees 9 = .ok (.if_icmp .ge 113, 3) := by decide +kernel
theorem dX2_agrees_12 : decode cX2_agrees 12 = .ok (.aload_n 0, 1) := by decide +kernel
theorem dX2_agrees_13 : decode cX2_agrees 13 = .ok (.getfield 32, 3) := by decide +kernel
theorem dX2_agrees_16 : decode cX2_agrees 16 = .ok (.iload 6, 2) := by decide +kernel
theorem dX2_agrees_18 : decode cX2_agrees 18 = .ok (.iaload, 1) := by decide +kernel
theorem dX2_agrees_19 : decode cX2_agrees 19 = .ok (.istore 7, 2) := by decide +kernel
theorem dX2_agrees_21 : decode cX2_agrees 21 = .ok (.aload_n 1, 1) := by decide +kernel
theorem dX2_agrees_22 : decode cX2_agrees 22 = .ok (.getfield 59, 3) := by decide +kernel
theorem dX2_agrees_25 : decode cX2_agrees 25 = .ok (.aload_n 0, 1) := by decide +kernel
theorem dX2_agrees_26 : decode cX2_agrees 26 = .ok (.getfield 25, 3) := by decide +kernel
theorem dX2_agrees_29 : decode cX2_agrees 29 = .ok (.iload 6, 2) := by decide +kernel
theorem dX2_agrees_31 : decode cX2_agrees 31 = .ok (.iaload, 1) := by decide +kernel
theorem dX2_agrees_32 : decode cX2_agrees 32 = .ok (.iaload, 1) := by decide +kernel
theorem dX2_agrees_33 : decode cX2_agrees 33 = .ok (.istore 8, 2) := by decide +kernel
theorem dX2_agrees_35 : decode cX2_agrees 35 = .ok (.iload 8, 2) := by decide +kernel
theorem dX2_agrees_37 : decode cX2_agrees 37 = .ok (.ifCond .ne 7, 3) := by decide +kernel
theorem dX2_agrees_40 : decode cX2_agrees 40 = .ok (.iload_n 3, 1) := by decide +kernel
theorem dX2_agrees_41 : decode cX2_agrees 41 = .ok (.goto 5, 3) := by decide +kernel
theorem dX2_agrees_44 : decode cX2_agrees 44 = .ok (.iload 4, 2) := by decide +kernel
theorem dX2_agrees_46 : decode cX2_agrees 46 = .ok (.istore 9, 2) := by decide +kernel
theorem dX2_agrees_48 : decode cX2_agrees 48 = .ok (.iload 8, 2) := by decide +kernel
theorem dX2_agrees_50 : decode cX2_agrees 50 = .ok (.iconst 2, 1) := by decide +kernel
theorem dX2_agrees_51 : decode cX2_agrees 51 = .ok (.if_icmp .ne 18, 3) := by decide +kernel
theorem dX2_agrees_54 : decode cX2_agrees 54 = .ok (.iload 5, 2) := by decide +kernel
theorem dX2_agrees_56 : decode cX2_agrees 56 = .ok (.iload 7, 2) := by decide +kernel
theorem dX2_agrees_58 : decode cX2_agrees 58 = .ok (.if_icmp .ne 7, 3) := by decide +kernel
theorem dX2_agrees_61 : decode cX2_agrees 61 = .ok (.iconst 1, 1) := by decide +kernel
theorem dX2_agrees_62 : decode cX2_agrees 62 = .ok (.goto 34, 3) := by decide +kernel
theorem dX2_agrees_65 : decode cX2_agrees 65 = .ok (.iconst 0, 1) := by decide +kernel
theorem dX2_agrees_66 : decode cX2_agrees 66 = .ok (.goto 30, 3) := by decide +kernel
theorem dX2_agrees_69 : decode cX2_agrees 69 = .ok (.iload 7, 2) := by decide +kernel
theorem dX2_agrees_71 : decode cX2_agrees 71 = .ok (.iconst (-1), 1) := by decide +kernel
theorem dX2_agrees_72 : decode cX2_agrees 72 = .ok (.if_icmp .ne 14, 3) := by decide +kernel
theorem dX2_agrees_75 : decode cX2_agrees 75 = .ok (.aload_n 1, 1) := by decide +kernel
theorem dX2_agrees_76 : decode cX2_agrees 76 = .ok (.iload 9, 2) := by decide +kernel
theorem dX2_agrees_78 : decode cX2_agrees 78 = .ok (.iload 8, 2) := by decide +kernel
theorem dX2_agrees_80 : decode cX2_agrees 80 = .ok (.invokevirtual 64, 3) := by decide +kernel
theorem dX2_agrees_83 : decode cX2_agrees 83 = .ok (.goto 13, 3) := by decide +kernel
theorem dX2_agrees_86 : decode cX2_agrees 86 = .ok (.aload_n 1, 1) := by decide +kernel
theorem dX2_agrees_87 : decode cX2_agrees 87 = .ok (.iload 7, 2) := by decide +kernel
theorem dX2_agrees_89 : decode cX2_agrees 89 = .ok (.iload 9, 2) := by decide +kernel
theorem dX2_agrees_91 : decode cX2_agrees 91 = .ok (.iload 8, 2) := by decide +kernel
theorem dX2_agrees_93 : decode cX2_agrees 93 = .ok (.invokevirtual 68, 3) := by decide +kernel
theorem dX2_agrees_96 : decode cX2_agrees 96 = .ok (.istore 10, 2) := by decide +kernel
theorem dX2_agrees_98 : decode cX2_agrees 98 = .ok (.aload_n 0, 1) := by decide +kernel
theorem dX2_agrees_99 : decode cX2_agrees 99 = .ok (.getfield 29, 3) := by decide +kernel
theorem dX2_agrees_102 : decode cX2_agrees 102 = .ok (.iload 6, 2) := by decide +kernel
theorem dX2_agrees_104 : decode cX2_agrees 104 = .ok (.iaload, 1) := by decide +kernel
theorem dX2_agrees_105 : decode cX2_agrees 105 = .ok (.iload_n 2, 1) := by decide +kernel
theorem dX2_agrees_106 : decode cX2_agrees 106 = .ok (.if_icmp .ne 10, 3) := by decide +kernel
theorem dX2_agrees_109 : decode cX2_agrees 109 = .ok (.iload 10, 2) := by decide +kernel
theorem dX2_agrees_111 : decode cX2_agrees 111 = .ok (.ifCond .ne 5, 3) := by decide +kernel
theorem dX2_agrees_114 : decode cX2_agrees 114 = .ok (.iconst 0, 1) := by decide +kernel
theorem dX2_agrees_115 : decode cX2_agrees 115 = .ok (.ireturn, 1) := by decide +kernel
theorem dX2_agrees_116 : decode cX2_agrees 116 = .ok (.iinc 6 1, 3) := by decide +kernel
theorem dX2_agrees_119 : decode cX2_agrees 119 = .ok (.goto (-116), 3) := by decide +kernel
theorem dX2_agrees_122 : decode cX2_agrees 122 = .ok (.iconst 1, 1) := by decide +kernel
theorem dX2_agrees_123 : decode cX2_agrees 123 = .ok (.ireturn, 1) := by decide +kernel
theorem dX3_init_0 : decode cX3_init 0 = .ok (.aload_n 0, 1) := by decide +kernel
theorem dX3_init_1 : decode cX3_init 1 = .ok (.invokespecial 5, 3) := by decide +kernel
theorem dX3_init_4 : decode cX3_init 4 = .ok (.aload_n 0, 1) := by decide +kernel
theorem dX3_init_5 : decode cX3_init 5 = .ok (.iconst 4, 1) := by decide +kernel
theorem dX3_init_6 : decode cX3_init 6 = .ok (.newarray .int, 2) := by decide +kernel
theorem dX3_init_8 : decode cX3_init 8 = .ok (.putfield 11, 3) := by decide +kernel
theorem dX3_init_11 : decode cX3_init 11 = .ok (.aload_n 0, 1) := by decide +kernel
theorem dX3_init_12 : decode cX3_init 12 = .ok (.iconst 4, 1) := by decide +kernel
theorem dX3_init_13 : decode cX3_init 13 = .ok (.newarray .int, 2) := by decide +kernel
theorem dX3_init_15 : decode cX3_init 15 = .ok (.putfield 15, 3) := by decide +kernel
theorem dX3_init_18 : decode cX3_init 18 = .ok (.aload_n 0, 1) := by decide +kernel
theorem dX3_init_19 : decode cX3_init 19 = .ok (.iconst 4, 1) := by decide +kernel
theorem dX3_init_20 : decode cX3_init 20 = .ok (.newarray .int, 2) := by decide +kernel
theorem dX3_init_22 : decode cX3_init 22 = .ok (.putfield 18, 3) := by decide +kernel
theorem dX3_init_25 : decode cX3_init 25 = .ok (.aload_n 0, 1) := by decide +kernel
theorem dX3_init_26 : decode cX3_init 26 = .ok (.iconst 4, 1) := by decide +kernel
theorem dX3_init_27 : decode cX3_init 27 = .ok (.newarray .int, 2) := by decide +kernel
theorem dX3_init_29 : decode cX3_init 29 = .ok (.putfield 21, 3) := by decide +kernel
theorem dX3_init_32 : decode cX3_init 32 = .ok (.aload_n 0, 1) := by decide +kernel
theorem dX3_init_33 : decode cX3_init 33 = .ok (.bipush 44, 2) := by decide +kernel
theorem dX3_init_35 : decode cX3_init 35 = .ok (.newarray .int, 2) := by decide +kernel
theorem dX3_init_37 : decode cX3_init 37 = .ok (.putfield 24, 3) := by decide +kernel
theorem dX3_init_40 : decode cX3_init 40 = .ok (.aload_n 0, 1) := by decide +kernel
theorem dX3_init_41 : decode cX3_init 41 = .ok (.bipush 44, 2) := by decide +kernel
theorem dX3_init_43 : decode cX3_init 43 = .ok (.newarray .int, 2) := by decide +kernel
theorem dX3_init_45 : decode cX3_init 45 = .ok (.putfield 27, 3) := by decide +kernel
theorem dX3_init_48 : decode cX3_init 48 = .ok (.aload_n 0, 1) := by decide +kernel
theorem dX3_init_49 : decode cX3_init 49 = .ok (.bipush 24, 2) := by decide +kernel
theorem dX3_init_51 : decode cX3_init 51 = .ok (.newarray .int, 2) := by decide +kernel
theorem dX3_init_53 : decode cX3_init 53 = .ok (.putfield 30, 3) := by decide +kernel
theorem dX3_init_56 : decode cX3_init 56 = .ok (.aload_n 0, 1) := by decide +kernel
theorem dX3_init_57 : decode cX3_init 57 = .ok (.bipush 24, 2) := by decide +kernel
theorem dX3_init_59 : decode cX3_init 59 = .ok (.newarray .int, 2) := by decide +kernel
theorem dX3_init_61 : decode cX3_init 61 = .ok (.putfield 33, 3) := by decide +kernel
theorem dX3_init_64 : decode cX3_init 64 = .ok (.aload_n 0, 1) := by decide +kernel
theorem dX3_init_65 : decode cX3_init 65 = .ok (.sipush 1331, 3) := by decide +kernel
theorem dX3_init_68 : decode cX3_init 68 = .ok (.newarray .int, 2) := by decide +kernel
theorem dX3_init_70 : decode cX3_init 70 = .ok (.putfield 36, 3) := by decide +kernel
theorem dX3_init_73 : decode cX3_init 73 = .ok (.return_, 1) := by decide +kernel
theorem dX3_find_0 : decode cX3_find 0 = .ok (.aload_n 0, 1) := by decide +kernel
theorem dX3_find_1 : decode cX3_find 1 = .ok (.aload_n 1, 1) := by decide +kernel
theorem dX3_find_2 : decode cX3_find 2 = .ok (.putfield 39, 3) := by decide +kernel
theorem dX3_find_5 : decode cX3_find 5 = .ok (.aload_n 0, 1) := by decide +kernel
theorem dX3_find_6 : decode cX3_find 6 = .ok (.aload_n 2, 1) := by decide +kernel
theorem dX3_find_7 : decode cX3_find 7 = .ok (.putfield 43, 3) := by decide +kernel
theorem dX3_find_10 : decode cX3_find 10 = .ok (.aload_n 0, 1) := by decide +kernel
theorem dX3_find_11 : decode cX3_find 11 = .ok (.iload 4, 2) := by decide +kernel
theorem dX3_find_13 : decode cX3_find 13 = .ok (.putfield 47, 3) := by decide +kernel
theorem dX3_find_16 : decode cX3_find 16 = .ok (.aload_n 0, 1) := by decide +kernel
theorem dX3_find_17 : decode cX3_find 17 = .ok (.iload 5, 2) := by decide +kernel
theorem dX3_find_19 : decode cX3_find 19 = .ok (.putfield 51, 3) := by decide +kernel
theorem dX3_find_22 : decode cX3_find 22 = .ok (.aload_n 0, 1) := by decide +kernel
theorem dX3_find_23 : decode cX3_find 23 = .ok (.iconst 0, 1) := by decide +kernel
theorem dX3_find_24 : decode cX3_find 24 = .ok (.putfield 54, 3) := by decide +kernel
theorem dX3_find_27 : decode cX3_find 27 = .ok (.aload_n 0, 1) := by decide +kernel
theorem dX3_find_28 : decode cX3_find 28 = .ok (.getfield 11, 3) := by decide +kernel
theorem dX3_find_31 : decode cX3_find 31 = .ok (.iconst (-1), 1) := by decide +kernel
theorem dX3_find_32 : decode cX3_find 32 = .ok (.invokestatic 57, 3) := by decide +kernel
theorem dX3_find_35 : decode cX3_find 35 = .ok (.aload_n 0, 1) := by decide +kernel
theorem dX3_find_36 : decode cX3_find 36 = .ok (.getfield 15, 3) := by decide +kernel
theorem dX3_find_39 : decode cX3_find 39 = .ok (.iconst (-1), 1) := by decide +kernel
theorem dX3_find_40 : decode cX3_find 40 = .ok (.invokestatic 57, 3) := by decide +kernel
theorem dX3_find_43 : decode cX3_find 43 = .ok (.iconst 0, 1) := by decide +kernel
theorem dX3_find_44 : decode cX3_find 44 = .ok (.istore 6, 2) := by decide +kernel
theorem dX3_find_46 : decode cX3_find 46 = .ok (.iload 6, 2) := by decide +kernel
theorem dX3_find_48 : decode cX3_find 48 = .ok (.aload_n 1, 1) := by decide +kernel
theorem dX3_find_49 : decode cX3_find 49 = .ok (.getfield 63, 3) := by decide +kernel
theorem dX3_find_52 : decode cX3_find 52 = .ok (.iconst 2, 1) := by decide +kernel
theorem dX3_find_53 : decode cX3_find 53 = .ok (.iaload, 1) := by decide +kernel
theorem dX3_find_54 : decode cX3_find 54 = .ok (.if_icmp .ge 41, 3) := by decide +kernel
theorem dX3_find_57 : decode cX3_find 57 = .ok (.aload_n 1, 1) := by decide +kernel
theorem dX3_find_58 : decode cX3_find 58 = .ok (.getfield 68, 3) := by decide +kernel
theorem dX3_find_61 : decode cX3_find 61 = .ok (.iload 6, 2) := by decide +kernel
theorem dX3_find_63 : decode cX3_find 63 = .ok (.iaload, 1) := by decide +kernel
theorem dX3_find_64 : decode cX3_find 64 = .ok (.iload_n 3, 1) := by decide +kernel
theorem dX3_find_65 : decode cX3_find 65 = .ok (.if_icmp .ne 24, 3) := by decide +kernel
theorem dX3_find_68 : decode cX3_find 68 = .ok (.aload_n 0, 1) := by decide +kernel
theorem dX3_find_69 : decode cX3_find 69 = .ok (.getfield 11, 3) := by decide +kernel
theorem dX3_find_72 : decode cX3_find 72 = .ok (.aload_n 0, 1) := by decide +kernel
theorem dX3_find_73 : decode cX3_find 73 = .ok (.getfield 54, 3) := by decide +kernel
theorem dX3_find_76 : decode cX3_find 76 = .ok (.iload 6, 2) := by decide +kernel
theorem dX3_find_78 : decode cX3_find 78 = .ok (.iastore, 1) := by decide +kernel
theorem dX3_find_79 : decode cX3_find 79 = .ok (.aload_n 0, 1) := by decide +kernel
theorem dX3_find_80 : decode cX3_find 80 = .ok (.dup, 1) := by decide +kernel
theorem dX3_find_81 : decode cX3_find 81 = .ok (.getfield 54, 3) := by decide +kernel
theorem dX3_find_84 : decode cX3_find 84 = .ok (.iconst 1, 1) := by decide +kernel
theorem dX3_find_85 : decode cX3_find 85 = .ok (.iadd, 1) := by decide +kernel
theorem dX3_find_86 : decode cX3_find 86 = .ok (.putfield 54, 3) := by decide +kernel
theorem dX3_find_89 : decode cX3_find 89 = .ok (.iinc 6 1, 3) := by decide +kernel
theorem dX3_find_92 : decode cX3_find 92 = .ok (.goto (-46), 3) := by decide +kernel
theorem dX3_find_95 : decode cX3_find 95 = .ok (.iload 5, 2) := by decide +kernel
theorem dX3_find_97 : decode cX3_find 97 = .ok (.bipush (-2), 2) := by decide +kernel
theorem dX3_find_99 : decode cX3_find 99 = .ok (.if_icmp .eq 40, 3) := by decide +kernel
theorem dX3_find_102 : decode cX3_find 102 = .ok (.iconst 0, 1) := by decide +kernel
theorem dX3_find_103 : decode cX3_find 103 = .ok (.istore 6, 2) := by decide +kernel
theorem dX3_find_105 : decode cX3_find 105 = .ok (.iload 6, 2) := by decide +kernel
theorem dX3_find_107 : decode cX3_find 107 = .ok (.iconst 3, 1) := by decide +kernel
theorem dX3_find_108 : decode cX3_find 108 = .ok (.if_icmp .gt 15, 3) := by decide +kernel
theorem dX3_find_111 : decode cX3_find 111 = .ok (.aload_n 0, 1) := by decide +kernel
theorem dX3_find_112 : decode cX3_find 112 = .ok (.iload 6, 2) := by decide +kernel
theorem dX3_find_114 : decode cX3_find 114 = .ok (.invokevirtual 71, 3) := by decide +kernel
theorem dX3_find_117 : decode cX3_find 117 = .ok (.iinc 6 1, 3) := by decide +kernel
theorem dX3_find_120 : decode cX3_find 120 = .ok (.goto (-15), 3) := by decide +kernel
theorem dX3_find_123 : decode cX3_find 123 = .ok (.aload_n 0, 1) := by decide +kernel
theorem dX3_find_124 : decode cX3_find 124 = .ok (.getfield 36, 3) := by decide +kernel
theorem dX3_find_127 : decode cX3_find 127 = .ok (.iconst 0, 1) := by decide +kernel
theorem dX3_find_128 : decode cX3_find 128 = .ok (.invokestatic 57, 3) := by decide +kernel
theorem dX3_find_131 : decode cX3_find 131 = .ok (.aload_n 0, 1) := by decide +kernel
theorem dX3_find_132 : decode cX3_find 132 = .ok (.iconst 0, 1) := by decide +kernel
theorem dX3_find_133 : decode cX3_find 133 = .ok (.iconst 0, 1) := by decide +kernel
theorem dX3_find_134 : decode cX3_find 134 = .ok (.iconst 0, 1) := by decide +kernel
theorem dX3_find_135 : decode cX3_find 135 = .ok (.iconst 0, 1) := by decide +kernel
theorem dX3_find_136 : decode cX3_find 136 = .ok (.invokevirtual 75, 3) := by decide +kernel
theorem dX3_find_139 : decode cX3_find 139 = .ok (.aload_n 0, 1) := by decide +kernel
theorem dX3_find_140 : decode cX3_find 140 = .ok (.bipush 9, 2) := by decide +kernel
theorem dX3_find_142 : decode cX3_find 142 = .ok (.putfield 79, 3) := by decide +kernel
theorem dX3_find_145 : decode cX3_find 145 = .ok (.aload_n 0, 1) := by decide +kernel
theorem dX3_find_146 : decode cX3_find 146 = .ok (.iconst 0, 1) := by decide +kernel
theorem dX3_find_147 : decode cX3_find 147 = .ok (.iconst 0, 1) := by decide +kernel
theorem dX3_find_148 : decode cX3_find 148 = .ok (.iconst 0, 1) := by decide +kernel
theorem dX3_find_149 : decode cX3_find 149 = .ok (.iconst 0, 1) := by decide +kernel
theorem dX3_find_150 : decode cX3_find 150 = .ok (.invokevirtual 82, 3) := by decide +kernel
theorem dX3_find_153 : decode cX3_find 153 = .ok (.aload_n 0, 1) := by decide +kernel
theorem dX3_find_154 : decode cX3_find 154 = .ok (.getfield 79, 3) := by decide +kernel
theorem dX3_find_157 : decode cX3_find 157 = .ok (.bipush 9, 2) := by decide +kernel
theorem dX3_find_159 : decode cX3_find 159 = .ok (.if_icmp .ge 7, 3) := by decide +kernel
theorem dX3_find_162 : decode cX3_find 162 = .ok (.iconst 1, 1) := by decide +kernel
theorem dX3_find_163 : decode cX3_find 163 = .ok (.goto 4, 3) := by decide +kernel
theorem dX3_find_166 : decode cX3_find 166 = .ok (.iconst 0, 1) := by decide +kernel
theorem dX3_find_167 : decode cX3_find 167 = .ok (.ireturn, 1) := by decide +kernel
theorem dX3_firstOf_0 : decode cX3_firstOf 0 = .ok (.iconst 0, 1) := by decide +kernel
theorem dX3_firstOf_1 : decode cX3_firstOf 1 = .ok (.istore_n 2, 1) := by decide +kernel
theorem dX3_firstOf_2 : decode cX3_firstOf 2 = .ok (.iload_n 2, 1) := by decide +kernel
theorem dX3_firstOf_3 : decode cX3_firstOf 3 = .ok (.aload_n 0, 1) := by decide +kernel
theorem dX3_firstOf_4 : decode cX3_firstOf 4 = .ok (.getfield 54, 3) := by decide +kernel
theorem dX3_firstOf_7 : decode cX3_firstOf 7 = .ok (.if_icmp .ge 26, 3) := by decide +kernel
theorem dX3_firstOf_10 : decode cX3_firstOf 10 = .ok (.aload_n 0, 1) := by decide +kernel
theorem dX3_firstOf_11 : decode cX3_firstOf 11 = .ok (.getfield 11, 3) := by decide +kernel
theorem dX3_firstOf_14 : decode cX3_firstOf 14 = .ok (.iload_n 2, 1) := by decide +kernel
theorem dX3_firstOf_15 : decode cX3_firstOf 15 = .ok (.iaload, 1) := by decide +kernel
theorem dX3_firstOf_16 : decode cX3_firstOf 16 = .ok (.iload_n 1, 1) := by decide +kernel
theorem dX3_firstOf_17 : decode cX3_firstOf 17 = .ok (.if_icmp .ne 10, 3) := by decide +kernel
theorem dX3_firstOf_20 : decode cX3_firstOf 20 = .ok (.aload_n 0, 1) := by decide +kernel
theorem dX3_firstOf_21 : decode cX3_firstOf 21 = .ok (.getfield 18, 3) := by decide +kernel
theorem dX3_firstOf_24 : decode cX3_firstOf 24 = .ok (.iload_n 2, 1) := by decide +kernel
theorem dX3_firstOf_25 : decode cX3_firstOf 25 = .ok (.iaload, 1) := by decide +kernel
theorem dX3_firstOf_26 : decode cX3_firstOf 26 = .ok (.ireturn, 1) := by decide +kernel
theorem dX3_firstOf_27 : decode cX3_firstOf 27 = .ok (.iinc 2 1, 3) := by decide +kernel
theorem dX3_firstOf_30 : decode cX3_firstOf 30 = .ok (.goto (-28), 3) := by decide +kernel
theorem dX3_firstOf_33 : decode cX3_firstOf 33 = .ok (.iconst (-1), 1) := by decide +kernel
theorem dX3_firstOf_34 : decode cX3_firstOf 34 = .ok (.ireturn, 1) := by decide +kernel
theorem dX3_prepare_0 : decode cX3_prepare 0 = .ok (.aload_n 0, 1) := by decide +kernel
theorem dX3_prepare_1 : decode cX3_prepare 1 = .ok (.getfield 21, 3) := by decide +kernel
theorem dX3_prepare_4 : decode cX3_prepare 4 = .ok (.iload_n 1, 1) := by decide +kernel
theorem dX3_prepare_5 : decode cX3_prepare 5 = .ok (.iconst 0, 1) := by decide +kernel
theorem dX3_prepare_6 : decode cX3_prepare 6 = .ok (.iastore, 1) := by decide +kernel
theorem dX3_prepare_7 : decode cX3_prepare 7 = .ok (.aload_n 0, 1) := by decide +kernel
theorem dX3_prepare_8 : decode cX3_prepare 8 = .ok (.iload_n 1, 1) := by decide +kernel
theorem dX3_prepare_9 : decode cX3_prepare 9 = .ok (.iconst (-1), 1) := by decide +kernel
theorem dX3_prepare_10 : decode cX3_prepare 10 = .ok (.invokevirtual 85, 3) := by decide +kernel
theorem dX3_prepare_13 : decode cX3_prepare 13 = .ok (.iconst 0, 1) := by decide +kernel
theorem dX3_prepare_14 : decode cX3_prepare 14 = .ok (.istore_n 2, 1) := by decide +kernel
theorem dX3_prepare_15 : decode cX3_prepare 15 = .ok (.iload_n 2, 1) := by decide +kernel
theorem dX3_prepare_16 : decode cX3_prepare 16 = .ok (.aload_n 0, 1) := by decide +kernel
theorem dX3_prepare_17 : decode cX3_prepare 17 = .ok (.getfield 39, 3) := by decide +kernel
theorem dX3_prepare_20 : decode cX3_prepare 20 = .ok (.getfield 63, 3) := by decide +kernel
theorem dX3_prepare_23 : decode cX3_prepare 23 = .ok (.iconst 0, 1) := by decide +kernel
theorem dX3_prepare_24 : decode cX3_prepare 24 = .ok (.iaload, 1) := by decide +kernel
theorem dX3_prepare_25 : decode cX3_prepare 25 = .ok (.if_icmp .ge 32, 3) := by decide +kernel
theorem dX3_prepare_28 : decode cX3_prepare 28 = .ok (.aload_n 0, 1) := by decide +kernel
theorem dX3_prepare_29 : decode cX3_prepare 29 = .ok (.getfield 43, 3) := by decide +kernel
theorem dX3_prepare_32 : decode cX3_prepare 32 = .ok (.aload_n 0, 1) := by decide +kernel
theorem dX3_prepare_33 : decode cX3_prepare 33 = .ok (.getfield 11, 3) := by decide +kernel
theorem dX3_prepare_36 : decode cX3_prepare 36 = .ok (.iload_n 1, 1) := by decide +kernel
theorem dX3_prepare_37 : decode cX3_prepare 37 = .ok (.iaload, 1) := by decide +kernel
theorem dX3_prepare_38 : decode cX3_prepare 38 = .ok (.iload_n 2, 1) := by decide +kernel
theorem dX3_prepare_39 : decode cX3_prepare 39 = .ok (.invokevirtual 89, 3) := by decide +kernel
theorem dX3_prepare_42 : decode cX3_prepare 42 = .ok (.ifCond .eq 9, 3) := by decide +kernel
theorem dX3_prepare_45 : decode cX3_prepare 45 = .ok (.aload_n 0, 1) := by decide +kernel
theorem dX3_prepare_46 : decode cX3_prepare 46 = .ok (.iload_n 1, 1) := by decide +kernel
theorem dX3_prepare_47 : decode cX3_prepare 47 = .ok (.iload_n 2, 1) := by decide +kernel
theorem dX3_prepare_48 : decode cX3_prepare 48 = .ok (.invokevirtual 85, 3) := by decide +kernel
theorem dX3_prepare_51 : decode cX3_prepare 51 = .ok (.iinc 2 1, 3) := by decide +kernel
theorem dX3_prepare_54 : decode cX3_prepare 54 = .ok (.goto (-39), 3) := by decide +kernel
theorem dX3_prepare_57 : decode cX3_prepare 57 = .ok (.return_, 1) := by decide +kernel
theorem dX3_prepareBehind_0 : decode cX3_prepareBehind 0 = .ok (.aload_n 0, 1) := by decide +kernel
theorem dX3_prepareBehind_1 : decode cX3_prepareBehind 1 = .ok (.getfield 11, 3) := by decide +kernel
theorem dX3_prepareBehind_4 : decode cX3_prepareBehind 4 = .ok (.iload_n 1, 1) := by decide +kernel
theorem dX3_prepareBehind_5 : decode cX3_prepareBehind 5 = .ok (.iaload, 1) := by decide +kernel
theorem dX3_prepareBehind_6 : decode cX3_prepareBehind 6 = .ok (.istore_n 3, 1) := by decide +kernel
theorem dX3_prepareBehind_7 : decode cX3_prepareBehind 7 = .ok (.aload_n 0, 1) := by decide +kernel
theorem dX3_prepareBehind_8 : decode cX3_prepareBehind 8 = .ok (.getfield 43, 3) := by decide +kernel
theorem dX3_prepareBehind_11 : decode cX3_prepareBehind 11 = .ok (.iload_n 3, 1) := by decide +kernel
theorem dX3_prepareBehind_12 : decode cX3_prepareBehind 12 = .ok (.invokevirtual 95, 3) := by decide +kernel
theorem dX3_prepareBehind_15 : decode cX3_prepareBehind 15 = .ok (.istore 4, 2) := by decide +kernel
theorem dX3_prepareBehind_17 : decode cX3_prepareBehind 17 = .ok (.iload 4, 2) := by decide +kernel
theorem dX3_prepareBehind_19 : decode cX3_prepareBehind 19 = .ok (.ifCond .eq 15, 3) := by decide +kernel
theorem dX3_prepareBehind_22 : decode cX3_prepareBehind 22 = .ok (.aload_n 0, 1) := by decide +kernel
theorem dX3_prepareBehind_23 : decode cX3_prepareBehind 23 = .ok (.getfield 43, 3) := by decide +kernel
theorem dX3_prepareBehind_26 : decode cX3_prepareBehind 26 = .ok (.getfield 99, 3) := by decide +kernel
theorem dX3_prepareBehind_29 : decode cX3_prepareBehind 29 = .ok (.iload_n 3, 1) := by decide +kernel
theorem dX3_prepareBehind_30 : decode cX3_prepareBehind 30 = .ok (.iaload, 1) := by decide +kernel
theorem dX3_prepareBehind_31 : decode cX3_prepareBehind 31 = .ok (.goto 4, 3) := by decide +kernel
theorem dX3_prepareBehind_34 : decode cX3_prepareBehind 34 = .ok (.iload_n 2, 1) := by decide +kernel
theorem dX3_prepareBehind_35 : decode cX3_prepareBehind 35 = .ok (.istore 5, 2) := by decide +kernel
theorem dX3_prepareBehind_37 : decode cX3_prepareBehind 37 = .ok (.iload 4, 2) := by decide +kernel
theorem dX3_prepareBehind_39 : decode cX3_prepareBehind 39 = .ok (.ifCond .eq 17, 3) := by decide +kernel
theorem dX3_prepareBehind_42 : decode cX3_prepareBehind 42 = .ok (.aload_n 0, 1) := by decide +kernel
theorem dX3_prepareBehind_43 : decode cX3_prepareBehind 43 = .ok (.getfield 43, 3) := by decide +kernel
theorem dX3_prepareBehind_46 : decode cX3_prepareBehind 46 = .ok (.getfield 102, 3) := by decide +kernel
theorem dX3_prepareBehind_49 : decode cX3_prepareBehind 49 = .ok (.iload_n 3, 1) := by decide +kernel
theorem dX3_prepareBehind_50 : decode cX3_prepareBehind 50 = .ok (.iaload, 1) := by decide +kernel
theorem dX3_prepareBehind_51 : decode cX3_prepareBehind 51 = .ok (.iconst 1, 1) := by decide +kernel
theorem dX3_prepareBehind_52 : decode cX3_prepareBehind 52 = .ok (.isub, 1) := by decide +kernel
theorem dX3_prepareBehind_53 : decode cX3_prepareBehind 53 = .ok (.goto 23, 3) := by decide +kernel
theorem dX3_prepareBehind_56 : decode cX3_prepareBehind 56 = .ok (.iload_n 2, 1) := by decide +kernel
theorem dX3_prepareBehind_57 : decode cX3_prepareBehind 57 = .ok (.iconst (-1), 1) := by decide +kernel
theorem dX3_prepareBehind_58 : decode cX3_prepareBehind 58 = .ok (.if_icmp .ne 7, 3) := by decide +kernel
theorem dX3_prepareBehind_61 : decode cX3_prepareBehind 61 = .ok (.iconst 0, 1) := by decide +kernel
theorem dX3_prepareBehind_62 : decode cX3_prepareBehind 62 = .ok (.goto 14, 3) := by decide +kernel
theorem dX3_prepareBehind_65 : decode cX3_prepareBehind 65 = .ok (.aload_n 0, 1) := by decide +kernel
theorem dX3_prepareBehind_66 : decode cX3_prepareBehind 66 = .ok (.getfield 39, 3) := by decide +kernel
theorem dX3_prepareBehind_69 : decode cX3_prepareBehind 69 = .ok (.getfield 105, 3) := by decide +kernel
theorem dX3_prepareBehind_72 : decode cX3_prepareBehind 72 = .ok (.iload_n 2, 1) := by decide +kernel
theorem dX3_prepareBehind_73 : decode cX3_prepareBehind 73 = .ok (.iaload, 1) := by decide +kernel
theorem dX3_prepareBehind_74 : decode cX3_prepareBehind 74 = .ok (.iconst 1, 1) := by decide +kernel
theorem dX3_prepareBehind_75 : decode cX3_prepareBehind 75 = .ok (.isub, 1) := by decide +kernel
theorem dX3_prepareBehind_76 : decode cX3_prepareBehind 76 = .ok (.istore 6, 2) := by decide +kernel
theorem dX3_prepareBehind_78 : decode cX3_prepareBehind 78 = .ok (.iload_n 1, 1) := by decide +kernel
theorem dX3_prepareBehind_79 : decode cX3_prepareBehind 79 = .ok (.bipush 6, 2) := by decide +kernel
theorem dX3_prepareBehind_81 : decode cX3_prepareBehind 81 = .ok (.imul, 1) := by decide +kernel
theorem dX3_prepareBehind_82 : decode cX3_prepareBehind 82 = .ok (.iload_n 2, 1) := by decide +kernel
theorem dX3_prepareBehind_83 : decode cX3_prepareBehind 83 = .ok (.iadd, 1) := by decide +kernel
theorem dX3_prepareBehind_84 : decode cX3_prepareBehind 84 = .ok (.iconst 1, 1) := by decide +kernel
theorem dX3_prepareBehind_85 : decode cX3_prepareBehind 85 = .ok (.iadd, 1) := by decide +kernel
theorem dX3_prepareBehind_86 : decode cX3_prepareBehind 86 = .ok (.istore 7, 2) := by decide +kernel
theorem dX3_prepareBehind_88 : decode cX3_prepareBehind 88 = .ok (.aload_n 0, 1) := by decide +kernel
theorem dX3_prepareBehind_89 : decode cX3_prepareBehind 89 = .ok (.getfield 30, 3) := by decide +kernel
theorem dX3_prepareBehind_92 : decode cX3_prepareBehind 92 = .ok (.iload 7, 2) := by decide +kernel
theorem dX3_prepareBehind_94 : decode cX3_prepareBehind 94 = .ok (.iconst 0, 1) := by decide +kernel
theorem dX3_prepareBehind_95 : decode cX3_prepareBehind 95 = .ok (.iastore, 1) := by decide +kernel
theorem dX3_prepareBehind_96 : decode cX3_prepareBehind 96 = .ok (.aload_n 0, 1) := by decide +kernel
theorem dX3_prepareBehind_97 : decode cX3_prepareBehind 97 = .ok (.getfield 33, 3) := by decide +kernel
theorem dX3_prepareBehind_100 : decode cX3_prepareBehind 100 = .ok (.iload 7, 2) := by decide +kernel
theorem dX3_prepareBehind_102 : decode cX3_prepareBehind 102 = .ok (.iconst 0, 1) := by decide +kernel
theorem dX3_prepareBehind_103 : decode cX3_prepareBehind 103 = .ok (.iastore, 1) := by decide +kernel
theorem dX3_prepareBehind_104 : decode cX3_prepareBehind 104 = .ok (.iload 6, 2) := by decide +kernel
theorem dX3_prepareBehind_106 : decode cX3_prepareBehind 106 = .ok (.ifCond .le 32, 3) := by decide +kernel
theorem dX3_prepareBehind_109 : decode cX3_prepareBehind 109 = .ok (.aload_n 0, 1) := by decide +kernel
theorem dX3_prepareBehind_110 : decode cX3_prepareBehind 110 = .ok (.getfield 30, 3) := by decide +kernel
theorem dX3_prepareBehind_113 : decode cX3_prepareBehind 113 = .ok (.iload 7, 2) := by decide +kernel
theorem dX3_prepareBehind_115 : decode cX3_prepareBehind 115 = .ok (.bipush 6, 2) := by decide +kernel
theorem dX3_prepareBehind_117 : decode cX3_prepareBehind 117 = .ok (.iload 5, 2) := by decide +kernel
theorem dX3_prepareBehind_119 : decode cX3_prepareBehind 119 = .ok (.iadd, 1) := by decide +kernel
theorem dX3_prepareBehind_120 : decode cX3_prepareBehind 120 = .ok (.iastore, 1) := by decide +kernel
theorem dX3_prepareBehind_121 : decode cX3_prepareBehind 121 = .ok (.aload_n 0, 1) := by decide +kernel
theorem dX3_prepareBehind_122 : decode cX3_prepareBehind 122 = .ok (.iload_n 1, 1) := by decide +kernel
theorem dX3_prepareBehind_123 : decode cX3_prepareBehind 123 = .ok (.bipush 6, 2) := by decide +kernel
theorem dX3_prepareBehind_125 : decode cX3_prepareBehind 125 = .ok (.iload 5, 2) := by decide +kernel
theorem dX3_prepareBehind_127 : decode cX3_prepareBehind 127 = .ok (.iadd, 1) := by decide +kernel
theorem dX3_prepareBehind_128 : decode cX3_prepareBehind 128 = .ok (.iload 5, 2) := by decide +kernel
theorem dX3_prepareBehind_130 : decode cX3_prepareBehind 130 = .ok (.iload 6, 2) := by decide +kernel
theorem dX3_prepareBehind_132 : decode cX3_prepareBehind 132 = .ok (.invokevirtual 108, 3) := by decide +kernel
theorem dX3_prepareBehind_135 : decode cX3_prepareBehind 135 = .ok (.goto 85, 3) := by decide +kernel
theorem dX3_prepareBehind_138 : decode cX3_prepareBehind 138 = .ok (.iconst 0, 1) := by decide +kernel
theorem dX3_prepareBehind_139 : decode cX3_prepareBehind 139 = .ok (.istore 8, 2) := by decide +kernel
theorem dX3_prepareBehind_141 : decode cX3_prepareBehind 141 = .ok (.iload 8, 2) := by decide +kernel
theorem dX3_prepareBehind_143 : decode cX3_prepareBehind 143 = .ok (.aload_n 0, 1) := by decide +kernel
theorem dX3_prepareBehind_144 : decode cX3_prepareBehind 144 = .ok (.getfield 39, 3) := by decide +kernel
theorem dX3_prepareBehind_147 : decode cX3_prepareBehind 147 = .ok (.getfield 63, 3) := by decide +kernel
theorem dX3_prepareBehind_150 : decode cX3_prepareBehind 150 = .ok (.iconst 0, 1) := by decide +kernel
theorem dX3_prepareBehind_151 : decode cX3_prepareBehind 151 = .ok (.iaload, 1) := by decide +kernel
theorem dX3_prepareBehind_152 : decode cX3_prepareBehind 152 = .ok (.if_icmp .ge 68, 3) := by decide +kernel
theorem dX3_prepareBehind_155 : decode cX3_prepareBehind 155 = .ok (.aload_n 0, 1) := by decide +kernel
theorem dX3_prepareBehind_156 : decode cX3_prepareBehind 156 = .ok (.getfield 43, 3) := by decide +kernel
theorem dX3_prepareBehind_159 : decode cX3_prepareBehind 159 = .ok (.iload_n 3, 1) := by decide +kernel
theorem dX3_prepareBehind_160 : decode cX3_prepareBehind 160 = .ok (.iload 8, 2) := by decide +kernel
theorem dX3_prepareBehind_162 : decode cX3_prepareBehind 162 = .ok (.invokevirtual 111, 3) := by decide +kernel
theorem dX3_prepareBehind_165 : decode cX3_prepareBehind 165 = .ok (.iload 8, 2) := by decide +kernel
theorem dX3_prepareBehind_167 : decode cX3_prepareBehind 167 = .ok (.iload_n 2, 1) := by decide +kernel
theorem dX3_prepareBehind_168 : decode cX3_prepareBehind 168 = .ok (.if_icmp .ne 7, 3) := by decide +kernel
theorem dX3_prepareBehind_171 : decode cX3_prepareBehind 171 = .ok (.iconst 1, 1) := by decide +kernel
theorem dX3_prepareBehind_172 : decode cX3_prepareBehind 172 = .ok (.goto 4, 3) := by decide +kernel
theorem dX3_prepareBehind_175 : decode cX3_prepareBehind 175 = .ok (.iconst 0, 1) := by decide +kernel
theorem dX3_prepareBehind_176 : decode cX3_prepareBehind 176 = .ok (.if_icmp .le 38, 3) := by decide +kernel
theorem dX3_prepareBehind_179 : decode cX3_prepareBehind 179 = .ok (.aload_n 0, 1) := by decide +kernel
theorem dX3_prepareBehind_180 : decode cX3_prepareBehind 180 = .ok (.getfield 33, 3) := by decide +kernel
theorem dX3_prepareBehind_183 : decode cX3_prepareBehind 183 = .ok (.iload 7, 2) := by decide +kernel
theorem dX3_prepareBehind_185 : decode cX3_prepareBehind 185 = .ok (.dup2, 1) := by decide +kernel
theorem dX3_prepareBehind_186 : decode cX3_prepareBehind 186 = .ok (.iaload, 1) := by decide +kernel
theorem dX3_prepareBehind_187 : decode cX3_prepareBehind 187 = .ok (.iconst 1, 1) := by decide +kernel
theorem dX3_prepareBehind_188 : decode cX3_prepareBehind 188 = .ok (.iload 8, 2) := by decide +kernel
theorem dX3_prepareBehind_190 : decode cX3_prepareBehind 190 = .ok (.ishl, 1) := by decide +kernel
theorem dX3_prepareBehind_191 : decode cX3_prepareBehind 191 = .ok (.ior, 1) := by decide +kernel
theorem dX3_prepareBehind_192 : decode cX3_prepareBehind 192 = .ok (.iastore, 1) := by decide +kernel
theorem dX3_prepareBehind_193 : decode cX3_prepareBehind 193 = .ok (.aload_n 0, 1) := by decide +kernel
theorem dX3_prepareBehind_194 : decode cX3_prepareBehind 194 = .ok (.iload_n 1, 1) := by decide +kernel
theorem dX3_prepareBehind_195 : decode cX3_prepareBehind 195 = .ok (.iconst 1, 1) := by decide +kernel
theorem dX3_prepareBehind_196 : decode cX3_prepareBehind 196 = .ok (.iload 8, 2) := by decide +kernel
theorem dX3_prepareBehind_198 : decode cX3_prepareBehind 198 = .ok (.iadd, 1) := by decide +kernel
theorem dX3_prepareBehind_199 : decode cX3_prepareBehind 199 = .ok (.iload 8, 2) := by decide +kernel
theorem dX3_prepareBehind_201 : decode cX3_prepareBehind 201 = .ok (.aload_n 0, 1) := by decide +kernel
theorem dX3_prepareBehind_202 : decode cX3_prepareBehind 202 = .ok (.getfield 39, 3) := by decide +kernel
theorem dX3_prepareBehind_205 : decode cX3_prepareBehind 205 = .ok (.getfield 105, 3) := by decide +kernel
theorem dX3_prepareBehind_208 : decode cX3_prepareBehind 208 = .ok (.iload 8, 2) := by decide +kernel
theorem dX3_prepareBehind_210 : decode cX3_prepareBehind 210 = .ok (.iaload, 1) := by decide +kernel
theorem dX3_prepareBehind_211 : decode cX3_prepareBehind 211 = .ok (.invokevirtual 108, 3) := by decide +kernel
theorem dX3_prepareBehind_214 : decode cX3_prepareBehind 214 = .ok (.iinc 8 1, 3) := by decide +kernel
theorem dX3_prepareBehind_217 : decode cX3_prepareBehind 217 = .ok (.goto (-76), 3) := by decide +kernel
theorem dX3_prepareBehind_220 : decode cX3_prepareBehind 220 = .ok (.aload_n 0, 1) := by decide +kernel
theorem dX3_prepareBehind_221 : decode cX3_prepareBehind 221 = .ok (.getfield 21, 3) := by decide +kernel
theorem dX3_prepareBehind_224 : decode cX3_prepareBehind 224 = .ok (.iload_n 1, 1) := by decide +kernel
theorem dX3_prepareBehind_225 : decode cX3_prepareBehind 225 = .ok (.dup2, 1) := by decide +kernel
theorem dX3_prepareBehind_226 : decode cX3_prepareBehind 226 = .ok (.iaload, 1) := by decide +kernel
theorem dX3_prepareBehind_227 : decode cX3_prepareBehind 227 = .ok (.iconst 1, 1) := by decide +kernel
theorem dX3_prepareBehind_228 : decode cX3_prepareBehind 228 = .ok (.aload_n 0, 1) := by decide +kernel
theorem dX3_prepareBehind_229 : decode cX3_prepareBehind 229 = .ok (.getfield 30, 3) := by decide +kernel
theorem dX3_prepareBehind_232 : decode cX3_prepareBehind 232 = .ok (.iload 7, 2) := by decide +kernel
theorem dX3_prepareBehind_234 : decode cX3_prepareBehind 234 = .ok (.iaload, 1) := by decide +kernel
theorem dX3_prepareBehind_235 : decode cX3_prepareBehind 235 = .ok (.ishl, 1) := by decide +kernel
theorem dX3_prepareBehind_236 : decode cX3_prepareBehind 236 = .ok (.aload_n 0, 1) := by decide +kernel
theorem dX3_prepareBehind_237 : decode cX3_prepareBehind 237 = .ok (.getfield 33, 3) := by decide +kernel
theorem dX3_prepareBehind_240 : decode cX3_prepareBehind 240 = .ok (.iload 7, 2) := by decide +kernel
theorem dX3_prepareBehind_242 : decode cX3_prepareBehind 242 = .ok (.iaload, 1) := by decide +kernel
theorem dX3_prepareBehind_243 : decode cX3_prepareBehind 243 = .ok (.iconst 1, 1) := by decide +kernel
theorem dX3_prepareBehind_244 : decode cX3_prepareBehind 244 = .ok (.ishl, 1) := by decide +kernel
theorem dX3_prepareBehind_245 : decode cX3_prepareBehind 245 = .ok (.ior, 1) := by decide +kernel
theorem dX3_prepareBehind_246 : decode cX3_prepareBehind 246 = .ok (.ior, 1) := by decide +kernel
theorem dX3_prepareBehind_247 : decode cX3_prepareBehind 247 = .ok (.iastore, 1) := by decide +kernel
theorem dX3_prepareBehind_248 : decode cX3_prepareBehind 248 = .ok (.return_, 1) := by decide +kernel
theorem dX3_keep_0 : decode cX3_keep 0 = .ok (.aload_n 0, 1) := by decide +kernel
theorem dX3_keep_1 : decode cX3_keep 1 = .ok (.getfield 39, 3) := by decide +kernel
theorem dX3_keep_4 : decode cX3_keep 4 = .ok (.aload_n 0, 1) := by decide +kernel
theorem dX3_keep_5 : decode cX3_keep 5 = .ok (.getfield 43, 3) := by decide +kernel
theorem dX3_keep_8 : decode cX3_keep 8 = .ok (.getfield 115, 3) := by decide +kernel
theorem dX3_keep_11 : decode cX3_keep 11 = .ok (.iconst 1, 1) := by decide +kernel
theorem dX3_keep_12 : decode cX3_keep 12 = .ok (.iadd, 1) := by decide +kernel
theorem dX3_keep_13 : decode cX3_keep 13 = .ok (.invokevirtual 118, 3) := by decide +kernel
theorem dX3_keep_16 : decode cX3_keep 16 = .ok (.istore 5, 2) := by decide +kernel
theorem dX3_keep_18 : decode cX3_keep 18 = .ok (.aload_n 0, 1) := by decide +kernel
theorem dX3_keep_19 : decode cX3_keep 19 = .ok (.getfield 24, 3) := by decide +kernel
theorem dX3_keep_22 : decode cX3_keep 22 = .ok (.iload_n 1, 1) := by decide +kernel
theorem dX3_keep_23 : decode cX3_keep 23 = .ok (.bipush 11, 2) := by decide +kernel
theorem dX3_keep_25 : decode cX3_keep 25 = .ok (.imul, 1) := by decide +kernel
theorem dX3_keep_26 : decode cX3_keep 26 = .ok (.iload_n 2, 1) := by decide +kernel
theorem dX3_keep_27 : decode cX3_keep 27 = .ok (.iadd, 1) := by decide +kernel
theorem dX3_keep_28 : decode cX3_keep 28 = .ok (.aload_n 0, 1) := by decide +kernel
theorem dX3_keep_29 : decode cX3_keep 29 = .ok (.getfield 39, 3) := by decide +kernel
theorem dX3_keep_32 : decode cX3_keep 32 = .ok (.iload_n 3, 1) := by decide +kernel
theorem dX3_keep_33 : decode cX3_keep 33 = .ok (.iload 4, 2) := by decide +kernel
theorem dX3_keep_35 : decode cX3_keep 35 = .ok (.iload 5, 2) := by decide +kernel
theorem dX3_keep_37 : decode cX3_keep 37 = .ok (.iconst 0, 1) := by decide +kernel
theorem dX3_keep_38 : decode cX3_keep 38 = .ok (.invokevirtual 122, 3) := by decide +kernel
theorem dX3_keep_41 : decode cX3_keep 41 = .ok (.iastore, 1) := by decide +kernel
theorem dX3_keep_42 : decode cX3_keep 42 = .ok (.aload_n 0, 1) := by decide +kernel
theorem dX3_keep_43 : decode cX3_keep 43 = .ok (.getfield 27, 3) := by decide +kernel
theorem dX3_keep_46 : decode cX3_keep 46 = .ok (.iload_n 1, 1) := by decide +kernel
theorem dX3_keep_47 : decode cX3_keep 47 = .ok (.bipush 11, 2) := by decide +kernel
theorem dX3_keep_49 : decode cX3_keep 49 = .ok (.imul, 1) := by decide +kernel
theorem dX3_keep_50 : decode cX3_keep 50 = .ok (.iload_n 2, 1) := by decide +kernel
theorem dX3_keep_51 : decode cX3_keep 51 = .ok (.iadd, 1) := by decide +kernel
theorem dX3_keep_52 : decode cX3_keep 52 = .ok (.aload_n 0, 1) := by decide +kernel
theorem dX3_keep_53 : decode cX3_keep 53 = .ok (.getfield 39, 3) := by decide +kernel
theorem dX3_keep_56 : decode cX3_keep 56 = .ok (.iload_n 3, 1) := by decide +kernel
theorem dX3_keep_57 : decode cX3_keep 57 = .ok (.iload 4, 2) := by decide +kernel
theorem dX3_keep_59 : decode cX3_keep 59 = .ok (.iload 5, 2) := by decide +kernel
theorem dX3_keep_61 : decode cX3_keep 61 = .ok (.iconst 1, 1) := by decide +kernel
theorem dX3_keep_62 : decode cX3_keep 62 = .ok (.invokevirtual 122, 3) := by decide +kernel
theorem dX3_keep_65 : decode cX3_keep 65 = .ok (.iastore, 1) := by decide +kernel
theorem dX3_keep_66 : decode cX3_keep 66 = .ok (.return_, 1) := by decide +kernel
theorem dX3_note_0 : decode cX3_note 0 = .ok (.iconst 0, 1) := by decide +kernel
theorem dX3_note_1 : decode cX3_note 1 = .ok (.istore 5, 2) := by decide +kernel
theorem dX3_note_3 : decode cX3_note 3 = .ok (.iload 5, 2) := by decide +kernel
theorem dX3_note_5 : decode cX3_note 5 = .ok (.bipush 11, 2) := by decide +kernel
theorem dX3_note_7 : decode cX3_note 7 = .ok (.if_icmp .ge 113, 3) := by decide +kernel
theorem dX3_note_10 : decode cX3_note 10 = .ok (.aload_n 0, 1) := by decide +kernel
theorem dX3_note_11 : decode cX3_note 11 = .ok (.getfield 21, 3) := by decide +kernel
theorem dX3_note_14 : decode cX3_note 14 = .ok (.iload_n 1, 1) := by decide +kernel
theorem dX3_note_15 : decode cX3_note 15 = .ok (.iaload, 1) := by decide +kernel
theorem dX3_note_16 : decode cX3_note 16 = .ok (.iload 5, 2) := by decide +kernel
theorem dX3_note_18 : decode cX3_note 18 = .ok (.ishr, 1) := by decide +kernel
theorem dX3_note_19 : decode cX3_note 19 = .ok (.iconst 1, 1) := by decide +kernel
theorem dX3_note_20 : decode cX3_note 20 = .ok (.iand, 1) := by decide +kernel
theorem dX3_note_21 : decode cX3_note 21 = .ok (.ifCond .eq 93, 3) := by decide +kernel
theorem dX3_note_24 : decode cX3_note 24 = .ok (.iload_n 3, 1) := by decide +kernel
theorem dX3_note_25 : decode cX3_note 25 = .ok (.aload_n 0, 1) := by decide +kernel
theorem dX3_note_26 : decode cX3_note 26 = .ok (.getfield 24, 3) := by decide +kernel
theorem dX3_note_29 : decode cX3_note 29 = .ok (.iload_n 1, 1) := by decide +kernel
theorem dX3_note_30 : decode cX3_note 30 = .ok (.bipush 11, 2) := by decide +kernel
theorem dX3_note_32 : decode cX3_note 32 = .ok (.imul, 1) := by decide +kernel
theorem dX3_note_33 : decode cX3_note 33 = .ok (.iload 5, 2) := by decide +kernel
theorem dX3_note_35 : decode cX3_note 35 = .ok (.iadd, 1) := by decide +kernel
theorem dX3_note_36 : decode cX3_note 36 = .ok (.iaload, 1) := by decide +kernel
theorem dX3_note_37 : decode cX3_note 37 = .ok (.iadd, 1) := by decide +kernel
theorem dX3_note_38 : decode cX3_note 38 = .ok (.istore 6, 2) := by decide +kernel
theorem dX3_note_40 : decode cX3_note 40 = .ok (.iload 4, 2) := by decide +kernel
theorem dX3_note_42 : decode cX3_note 42 = .ok (.aload_n 0, 1) := by decide +kernel
theorem dX3_note_43 : decode cX3_note 43 = .ok (.getfield 27, 3) := by decide +kernel
theorem dX3_note_46 : decode cX3_note 46 = .ok (.iload_n 1, 1) := by decide +kernel
theorem dX3_note_47 : decode cX3_note 47 = .ok (.bipush 11, 2) := by decide +kernel
theorem dX3_note_49 : decode cX3_note 49 = .ok (.imul, 1) := by decide +kernel
theorem dX3_note_50 : decode cX3_note 50 = .ok (.iload 5, 2) := by decide +kernel
theorem dX3_note_52 : decode cX3_note 52 = .ok (.iadd, 1) := by decide +kernel
theorem dX3_note_53 : decode cX3_note 53 = .ok (.iaload, 1) := by decide +kernel
theorem dX3_note_54 : decode cX3_note 54 = .ok (.iadd, 1) := by decide +kernel
theorem dX3_note_55 : decode cX3_note 55 = .ok (.istore 7, 2) := by decide +kernel
theorem dX3_note_57 : decode cX3_note 57 = .ok (.iload_n 1, 1) := by decide +kernel
theorem dX3_note_58 : decode cX3_note 58 = .ok (.iconst 3, 1) := by decide +kernel
theorem dX3_note_59 : decode cX3_note 59 = .ok (.if_icmp .ge 24, 3) := by decide +kernel
theorem dX3_note_62 : decode cX3_note 62 = .ok (.aload_n 0, 1) := by decide +kernel
theorem dX3_note_63 : decode cX3_note 63 = .ok (.iload_n 1, 1) := by decide +kernel
theorem dX3_note_64 : decode cX3_note 64 = .ok (.iconst 1, 1) := by decide +kernel
theorem dX3_note_65 : decode cX3_note 65 = .ok (.iadd, 1) := by decide +kernel
theorem dX3_note_66 : decode cX3_note 66 = .ok (.iload_n 2, 1) := by decide +kernel
theorem dX3_note_67 : decode cX3_note 67 = .ok (.bipush 11, 2) := by decide +kernel
theorem dX3_note_69 : decode cX3_note 69 = .ok (.imul, 1) := by decide +kernel
theorem dX3_note_70 : decode cX3_note 70 = .ok (.iload 5, 2) := by decide +kernel
theorem dX3_note_72 : decode cX3_note 72 = .ok (.iadd, 1) := by decide +kernel
theorem dX3_note_73 : decode cX3_note 73 = .ok (.iload 6, 2) := by decide +kernel
theorem dX3_note_75 : decode cX3_note 75 = .ok (.iload 7, 2) := by decide +kernel
theorem dX3_note_77 : decode cX3_note 77 = .ok (.invokevirtual 75, 3) := by decide +kernel
theorem dX3_note_80 : decode cX3_note 80 = .ok (.goto 34, 3) := by decide +kernel
theorem dX3_note_83 : decode cX3_note 83 = .ok (.aload_n 0, 1) := by decide +kernel
theorem dX3_note_84 : decode cX3_note 84 = .ok (.getfield 39, 3) := by decide +kernel
theorem dX3_note_87 : decode cX3_note 87 = .ok (.iload 6, 2) := by decide +kernel
theorem dX3_note_89 : decode cX3_note 89 = .ok (.iload 7, 2) := by decide +kernel
theorem dX3_note_91 : decode cX3_note 91 = .ok (.invokevirtual 126, 3) := by decide +kernel
theorem dX3_note_94 : decode cX3_note 94 = .ok (.aload_n 0, 1) := by decide +kernel
theorem dX3_note_95 : decode cX3_note 95 = .ok (.getfield 51, 3) := by decide +kernel
theorem dX3_note_98 : decode cX3_note 98 = .ok (.if_icmp .ne 16, 3) := by decide +kernel
theorem dX3_note_101 : decode cX3_note 101 = .ok (.aload_n 0, 1) := by decide +kernel
theorem dX3_note_102 : decode cX3_note 102 = .ok (.getfield 36, 3) := by decide +kernel
theorem dX3_note_105 : decode cX3_note 105 = .ok (.iload_n 2, 1) := by decide +kernel
theorem dX3_note_106 : decode cX3_note 106 = .ok (.dup2, 1) := by decide +kernel
theorem dX3_note_107 : decode cX3_note 107 = .ok (.iaload, 1) := by decide +kernel
theorem dX3_note_108 : decode cX3_note 108 = .ok (.iconst 1, 1) := by decide +kernel
theorem dX3_note_109 : decode cX3_note 109 = .ok (.iload 5, 2) := by decide +kernel
theorem dX3_note_111 : decode cX3_note 111 = .ok (.ishl, 1) := by decide +kernel
theorem dX3_note_112 : decode cX3_note 112 = .ok (.ior, 1) := by decide +kernel
theorem dX3_note_113 : decode cX3_note 113 = .ok (.iastore, 1) := by decide +kernel
theorem dX3_note_114 : decode cX3_note 114 = .ok (.iinc 5 1, 3) := by decide +kernel
theorem dX3_note_117 : decode cX3_note 117 = .ok (.goto (-114), 3) := by decide +kernel
theorem dX3_note_120 : decode cX3_note 120 = .ok (.return_, 1) := by decide +kernel
theorem dX3_goFirst_0 : decode cX3_goFirst 0 = .ok (.iload 4, 2) := by decide +kernel
theorem dX3_goFirst_2 : decode cX3_goFirst 2 = .ok (.aload_n 0, 1) := by decide +kernel
theorem dX3_goFirst_3 : decode cX3_goFirst 3 = .ok (.getfield 79, 3) := by decide +kernel
theorem dX3_goFirst_6 : decode cX3_goFirst 6 = .ok (.if_icmp .lt 4, 3) := by decide +kernel
theorem dX3_goFirst_9 : decode cX3_goFirst 9 = .ok (.return_, 1) := by decide +kernel
theorem dX3_goFirst_10 : decode cX3_goFirst 10 = .ok (.iload_n 1, 1) := by decide +kernel
theorem dX3_goFirst_11 : decode cX3_goFirst 11 = .ok (.aload_n 0, 1) := by decide +kernel
theorem dX3_goFirst_12 : decode cX3_goFirst 12 = .ok (.getfield 54, 3) := by decide +kernel
theorem dX3_goFirst_15 : decode cX3_goFirst 15 = .ok (.if_icmp .lt 50, 3) := by decide +kernel
theorem dX3_goFirst_18 : decode cX3_goFirst 18 = .ok (.aload_n 0, 1) := by decide +kernel
theorem dX3_goFirst_19 : decode cX3_goFirst 19 = .ok (.getfield 39, 3) := by decide +kernel
theorem dX3_goFirst_22 : decode cX3_goFirst 22 = .ok (.iload_n 2, 1) := by decide +kernel
theorem dX3_goFirst_23 : decode cX3_goFirst 23 = .ok (.iload_n 3, 1) := by decide +kernel
theorem dX3_goFirst_24 : decode cX3_goFirst 24 = .ok (.invokevirtual 126, 3) := by decide +kernel
theorem dX3_goFirst_27 : decode cX3_goFirst 27 = .ok (.aload_n 0, 1) := by decide +kernel
theorem dX3_goFirst_28 : decode cX3_goFirst 28 = .ok (.getfield 47, 3) := by decide +kernel
theorem dX3_goFirst_31 : decode cX3_goFirst 31 = .ok (.if_icmp .ne 33, 3) := by decide +kernel
theorem dX3_goFirst_34 : decode cX3_goFirst 34 = .ok (.aload_n 0, 1) := by decide +kernel
theorem dX3_goFirst_35 : decode cX3_goFirst 35 = .ok (.aload_n 0, 1) := by decide +kernel
theorem dX3_goFirst_36 : decode cX3_goFirst 36 = .ok (.getfield 51, 3) := by decide +kernel
theorem dX3_goFirst_39 : decode cX3_goFirst 39 = .ok (.bipush (-2), 2) := by decide +kernel
theorem dX3_goFirst_41 : decode cX3_goFirst 41 = .ok (.if_icmp .ne 8, 3) := by decide +kernel
theorem dX3_goFirst_44 : decode cX3_goFirst 44 = .ok (.iload 4, 2) := by decide +kernel
theorem dX3_goFirst_46 : decode cX3_goFirst 46 = .ok (.goto 15, 3) := by decide +kernel
theorem dX3_goFirst_49 : decode cX3_goFirst 49 = .ok (.aload_n 0, 1) := by decide +kernel
theorem dX3_goFirst_50 : decode cX3_goFirst 50 = .ok (.iconst 0, 1) := by decide +kernel
theorem dX3_goFirst_51 : decode cX3_goFirst 51 = .ok (.iconst 0, 1) := by decide +kernel
theorem dX3_goFirst_52 : decode cX3_goFirst 52 = .ok (.iload 4, 2) := by decide +kernel
theorem dX3_goFirst_54 : decode cX3_goFirst 54 = .ok (.aload_n 0, 1) := by decide +kernel
theorem dX3_goFirst_55 : decode cX3_goFirst 55 = .ok (.getfield 79, 3) := by decide +kernel
theorem dX3_goFirst_58 : decode cX3_goFirst 58 = .ok (.invokevirtual 129, 3) := by decide +kernel
theorem dX3_goFirst_61 : decode cX3_goFirst 61 = .ok (.invokevirtual 132, 3) := by decide +kernel
theorem dX3_goFirst_64 : decode cX3_goFirst 64 = .ok (.return_, 1) := by decide +kernel
theorem dX3_goFirst_65 : decode cX3_goFirst 65 = .ok (.aload_n 0, 1) := by decide +kernel
theorem dX3_goFirst_66 : decode cX3_goFirst 66 = .ok (.getfield 11, 3) := by decide +kernel
theorem dX3_goFirst_69 : decode cX3_goFirst 69 = .ok (.iload_n 1, 1) := by decide +kernel
theorem dX3_goFirst_70 : decode cX3_goFirst 70 = .ok (.iaload, 1) := by decide +kernel
theorem dX3_goFirst_71 : decode cX3_goFirst 71 = .ok (.istore 5, 2) := by decide +kernel
theorem dX3_goFirst_73 : decode cX3_goFirst 73 = .ok (.aload_n 0, 1) := by decide +kernel
theorem dX3_goFirst_74 : decode cX3_goFirst 74 = .ok (.getfield 39, 3) := by decide +kernel
theorem dX3_goFirst_77 : decode cX3_goFirst 77 = .ok (.aload_n 0, 1) := by decide +kernel
theorem dX3_goFirst_78 : decode cX3_goFirst 78 = .ok (.getfield 43, 3) := by decide +kernel
theorem dX3_goFirst_81 : decode cX3_goFirst 81 = .ok (.getfield 115, 3) := by decide +kernel
theorem dX3_goFirst_84 : decode cX3_goFirst 84 = .ok (.invokevirtual 118, 3) := by decide +kernel
theorem dX3_goFirst_87 : decode cX3_goFirst 87 = .ok (.istore 6, 2) := by decide +kernel
theorem dX3_goFirst_89 : decode cX3_goFirst 89 = .ok (.aload_n 0, 1) := by decide +kernel
theorem dX3_goFirst_90 : decode cX3_goFirst 90 = .ok (.getfield 43, 3) := by decide +kernel
theorem dX3_goFirst_93 : decode cX3_goFirst 93 = .ok (.iload 5, 2) := by decide +kernel
theorem dX3_goFirst_95 : decode cX3_goFirst 95 = .ok (.invokevirtual 95, 3) := by decide +kernel
theorem dX3_goFirst_98 : decode cX3_goFirst 98 = .ok (.ifCond .eq 85, 3) := by decide +kernel
theorem dX3_goFirst_101 : decode cX3_goFirst 101 = .ok (.aload_n 0, 1) := by decide +kernel
theorem dX3_goFirst_102 : decode cX3_goFirst 102 = .ok (.getfield 39, 3) := by decide +kernel
theorem dX3_goFirst_105 : decode cX3_goFirst 105 = .ok (.aload_n 0, 1) := by decide +kernel
theorem dX3_goFirst_106 : decode cX3_goFirst 106 = .ok (.getfield 43, 3) := by decide +kernel
theorem dX3_goFirst_109 : decode cX3_goFirst 109 = .ok (.getfield 99, 3) := by decide +kernel
theorem dX3_goFirst_112 : decode cX3_goFirst 112 = .ok (.iload 5, 2) := by decide +kernel
theorem dX3_goFirst_114 : decode cX3_goFirst 114 = .ok (.iaload, 1) := by decide +kernel
theorem dX3_goFirst_115 : decode cX3_goFirst 115 = .ok (.aload_n 0, 1) := by decide +kernel
theorem dX3_goFirst_116 : decode cX3_goFirst 116 = .ok (.getfield 43, 3) := by decide +kernel
theorem dX3_goFirst_119 : decode cX3_goFirst 119 = .ok (.getfield 102, 3) := by decide +kernel
theorem dX3_goFirst_122 : decode cX3_goFirst 122 = .ok (.iload 5, 2) := by decide +kernel
theorem dX3_goFirst_124 : decode cX3_goFirst 124 = .ok (.iaload, 1) := by decide +kernel
theorem dX3_goFirst_125 : decode cX3_goFirst 125 = .ok (.iload 6, 2) := by decide +kernel
theorem dX3_goFirst_127 : decode cX3_goFirst 127 = .ok (.iconst 0, 1) := by decide +kernel
theorem dX3_goFirst_128 : decode cX3_goFirst 128 = .ok (.invokevirtual 122, 3) := by decide +kernel
theorem dX3_goFirst_131 : decode cX3_goFirst 131 = .ok (.istore 7, 2) := by decide +kernel
theorem dX3_goFirst_133 : decode cX3_goFirst 133 = .ok (.aload_n 0, 1) := by decide +kernel
theorem dX3_goFirst_134 : decode cX3_goFirst 134 = .ok (.getfield 39, 3) := by decide +kernel
theorem dX3_goFirst_137 : decode cX3_goFirst 137 = .ok (.aload_n 0, 1) := by decide +kernel
theorem dX3_goFirst_138 : decode cX3_goFirst 138 = .ok (.getfield 43, 3) := by decide +kernel
theorem dX3_goFirst_141 : decode cX3_goFirst 141 = .ok (.getfield 99, 3) := by decide +kernel
theorem dX3_goFirst_144 : decode cX3_goFirst 144 = .ok (.iload 5, 2) := by decide +kernel
theorem dX3_goFirst_146 : decode cX3_goFirst 146 = .ok (.iaload, 1) := by decide +kernel
theorem dX3_goFirst_147 : decode cX3_goFirst 147 = .ok (.aload_n 0, 1) := by decide +kernel
theorem dX3_goFirst_148 : decode cX3_goFirst 148 = .ok (.getfield 43, 3) := by decide +kernel
theorem dX3_goFirst_151 : decode cX3_goFirst 151 = .ok (.getfield 102, 3) := by decide +kernel
theorem dX3_goFirst_154 : decode cX3_goFirst 154 = .ok (.iload 5, 2) := by decide +kernel
theorem dX3_goFirst_156 : decode cX3_goFirst 156 = .ok (.iaload, 1) := by decide +kernel
theorem dX3_goFirst_157 : decode cX3_goFirst 157 = .ok (.iload 6, 2) := by decide +kernel
theorem dX3_goFirst_159 : decode cX3_goFirst 159 = .ok (.iconst 1, 1) := by decide +kernel
theorem dX3_goFirst_160 : decode cX3_goFirst 160 = .ok (.invokevirtual 122, 3) := by decide +kernel
theorem dX3_goFirst_163 : decode cX3_goFirst 163 = .ok (.istore 8, 2) := by decide +kernel
theorem dX3_goFirst_165 : decode cX3_goFirst 165 = .ok (.aload_n 0, 1) := by decide +kernel
theorem dX3_goFirst_166 : decode cX3_goFirst 166 = .ok (.iload_n 1, 1) := by decide +kernel
theorem dX3_goFirst_167 : decode cX3_goFirst 167 = .ok (.iconst 1, 1) := by decide +kernel
theorem dX3_goFirst_168 : decode cX3_goFirst 168 = .ok (.iadd, 1) := by decide +kernel
theorem dX3_goFirst_169 : decode cX3_goFirst 169 = .ok (.iload_n 2, 1) := by decide +kernel
theorem dX3_goFirst_170 : decode cX3_goFirst 170 = .ok (.iload 7, 2) := by decide +kernel
theorem dX3_goFirst_172 : decode cX3_goFirst 172 = .ok (.iadd, 1) := by decide +kernel
theorem dX3_goFirst_173 : decode cX3_goFirst 173 = .ok (.iload_n 3, 1) := by decide +kernel
theorem dX3_goFirst_174 : decode cX3_goFirst 174 = .ok (.iload 8, 2) := by decide +kernel
theorem dX3_goFirst_176 : decode cX3_goFirst 176 = .ok (.iadd, 1) := by decide +kernel
theorem dX3_goFirst_177 : decode cX3_goFirst 177 = .ok (.iload 4, 2) := by decide +kernel
theorem dX3_goFirst_179 : decode cX3_goFirst 179 = .ok (.invokevirtual 82, 3) := by decide +kernel
theorem dX3_goFirst_182 : decode cX3_goFirst 182 = .ok (.return_, 1) := by decide +kernel
theorem dX3_goFirst_183 : decode cX3_goFirst 183 = .ok (.iconst 0, 1) := by decide +kernel
theorem dX3_goFirst_184 : decode cX3_goFirst 184 = .ok (.istore 7, 2) := by decide +kernel
theorem dX3_goFirst_186 : decode cX3_goFirst 186 = .ok (.iload 7, 2) := by decide +kernel
theorem dX3_goFirst_188 : decode cX3_goFirst 188 = .ok (.aload_n 0, 1) := by decide +kernel
theorem dX3_goFirst_189 : decode cX3_goFirst 189 = .ok (.getfield 39, 3) := by decide +kernel
theorem dX3_goFirst_192 : decode cX3_goFirst 192 = .ok (.getfield 63, 3) := by decide +kernel
theorem dX3_goFirst_195 : decode cX3_goFirst 195 = .ok (.iconst 0, 1) := by decide +kernel
theorem dX3_goFirst_196 : decode cX3_goFirst 196 = .ok (.iaload, 1) := by decide +kernel
theorem dX3_goFirst_197 : decode cX3_goFirst 197 = .ok (.if_icmp .ge 78, 3) := by decide +kernel
theorem dX3_goFirst_200 : decode cX3_goFirst 200 = .ok (.aload_n 0, 1) := by decide +kernel
theorem dX3_goFirst_201 : decode cX3_goFirst 201 = .ok (.getfield 43, 3) := by decide +kernel
theorem dX3_goFirst_204 : decode cX3_goFirst 204 = .ok (.iload 5, 2) := by decide +kernel
theorem dX3_goFirst_206 : decode cX3_goFirst 206 = .ok (.iload 7, 2) := by decide +kernel
theorem dX3_goFirst_208 : decode cX3_goFirst 208 = .ok (.invokevirtual 89, 3) := by decide +kernel
theorem dX3_goFirst_211 : decode cX3_goFirst 211 = .ok (.ifCond .eq 58, 3) := by decide +kernel
theorem dX3_goFirst_214 : decode cX3_goFirst 214 = .ok (.aload_n 0, 1) := by decide +kernel
theorem dX3_goFirst_215 : decode cX3_goFirst 215 = .ok (.getfield 15, 3) := by decide +kernel
theorem dX3_goFirst_218 : decode cX3_goFirst 218 = .ok (.iload_n 1, 1) := by decide +kernel
theorem dX3_goFirst_219 : decode cX3_goFirst 219 = .ok (.iload 7, 2) := by decide +kernel
theorem dX3_goFirst_221 : decode cX3_goFirst 221 = .ok (.iastore, 1) := by decide +kernel
theorem dX3_goFirst_222 : decode cX3_goFirst 222 = .ok (.aload_n 0, 1) := by decide +kernel
theorem dX3_goFirst_223 : decode cX3_goFirst 223 = .ok (.getfield 39, 3) := by decide +kernel
theorem dX3_goFirst_226 : decode cX3_goFirst 226 = .ok (.iload 7, 2) := by decide +kernel
theorem dX3_goFirst_228 : decode cX3_goFirst 228 = .ok (.iload 6, 2) := by decide +kernel
theorem dX3_goFirst_230 : decode cX3_goFirst 230 = .ok (.iconst 0, 1) := by decide +kernel
theorem dX3_goFirst_231 : decode cX3_goFirst 231 = .ok (.invokevirtual 135, 3) := by decide +kernel
theorem dX3_goFirst_234 : decode cX3_goFirst 234 = .ok (.istore 8, 2) := by decide +kernel
theorem dX3_goFirst_236 : decode cX3_goFirst 236 = .ok (.aload_n 0, 1) := by decide +kernel
theorem dX3_goFirst_237 : decode cX3_goFirst 237 = .ok (.getfield 39, 3) := by decide +kernel
theorem dX3_goFirst_240 : decode cX3_goFirst 240 = .ok (.iload 7, 2) := by decide +kernel
theorem dX3_goFirst_242 : decode cX3_goFirst 242 = .ok (.iload 6, 2) := by decide +kernel
theorem dX3_goFirst_244 : decode cX3_goFirst 244 = .ok (.iconst 1, 1) := by decide +kernel
theorem dX3_goFirst_245 : decode cX3_goFirst 245 = .ok (.invokevirtual 135, 3) := by decide +kernel
theorem dX3_goFirst_248 : decode cX3_goFirst 248 = .ok (.istore 9, 2) := by decide +kernel
theorem dX3_goFirst_250 : decode cX3_goFirst 250 = .ok (.aload_n 0, 1) := by decide +kernel
theorem dX3_goFirst_251 : decode cX3_goFirst 251 = .ok (.iload_n 1, 1) := by decide +kernel
theorem dX3_goFirst_252 : decode cX3_goFirst 252 = .ok (.iconst 1, 1) := by decide +kernel
theorem dX3_goFirst_253 : decode cX3_goFirst 253 = .ok (.iadd, 1) := by decide +kernel
theorem dX3_goFirst_254 : decode cX3_goFirst 254 = .ok (.iload_n 2, 1) := by decide +kernel
theorem dX3_goFirst_255 : decode cX3_goFirst 255 = .ok (.iload 8, 2) := by decide +kernel
theorem dX3_goFirst_257 : decode cX3_goFirst 257 = .ok (.iadd, 1) := by decide +kernel
theorem dX3_goFirst_258 : decode cX3_goFirst 258 = .ok (.iload_n 3, 1) := by decide +kernel
theorem dX3_goFirst_259 : decode cX3_goFirst 259 = .ok (.iload 9, 2) := by decide +kernel
theorem dX3_goFirst_261 : decode cX3_goFirst 261 = .ok (.iadd, 1) := by decide +kernel
theorem dX3_goFirst_262 : decode cX3_goFirst 262 = .ok (.iload 4, 2) := by decide +kernel
theorem dX3_goFirst_264 : decode cX3_goFirst 264 = .ok (.iconst 1, 1) := by decide +kernel
theorem dX3_goFirst_265 : decode cX3_goFirst 265 = .ok (.iadd, 1) := by decide +kernel
theorem dX3_goFirst_266 : decode cX3_goFirst 266 = .ok (.invokevirtual 82, 3) := by decide +kernel
theorem dX3_goFirst_269 : decode cX3_goFirst 269 = .ok (.iinc 7 1, 3) := by decide +kernel
theorem dX3_goFirst_272 : decode cX3_goFirst 272 = .ok (.goto (-86), 3) := by decide +kernel
theorem dX3_goFirst_275 : decode cX3_goFirst 275 = .ok (.aload_n 0, 1) := by decide +kernel
theorem dX3_goFirst_276 : decode cX3_goFirst 276 = .ok (.getfield 15, 3) := by decide +kernel
theorem dX3_goFirst_279 : decode cX3_goFirst 279 = .ok (.iload_n 1, 1) := by decide +kernel
theorem dX3_goFirst_280 : decode cX3_goFirst 280 = .ok (.iconst (-1), 1) := by decide +kernel
theorem dX3_goFirst_281 : decode cX3_goFirst 281 = .ok (.iastore, 1) := by decide +kernel
theorem dX3_goFirst_282 : decode cX3_goFirst 282 = .ok (.aload_n 0, 1) := by decide +kernel
theorem dX3_goFirst_283 : decode cX3_goFirst 283 = .ok (.iload_n 1, 1) := by decide +kernel
theorem dX3_goFirst_284 : decode cX3_goFirst 284 = .ok (.iconst 1, 1) := by decide +kernel
theorem dX3_goFirst_285 : decode cX3_goFirst 285 = .ok (.iadd, 1) := by decide +kernel
theorem dX3_goFirst_286 : decode cX3_goFirst 286 = .ok (.iload_n 2, 1) := by decide +kernel
theorem dX3_goFirst_287 : decode cX3_goFirst 287 = .ok (.iload_n 3, 1) := by decide +kernel
theorem dX3_goFirst_288 : decode cX3_goFirst 288 = .ok (.iload 4, 2) := by decide +kernel
theorem dX3_goFirst_290 : decode cX3_goFirst 290 = .ok (.invokevirtual 82, 3) := by decide +kernel
theorem dX3_goFirst_293 : decode cX3_goFirst 293 = .ok (.return_, 1) := by decide +kernel
theorem dX3_take_0 : decode cX3_take 0 = .ok (.iload_n 1, 1) := by decide +kernel
theorem dX3_take_1 : decode cX3_take 1 = .ok (.aload_n 0, 1) := by decide +kernel
theorem dX3_take_2 : decode cX3_take 2 = .ok (.getfield 79, 3) := by decide +kernel
theorem dX3_take_5 : decode cX3_take 5 = .ok (.if_icmp .ge 26, 3) := by decide +kernel
theorem dX3_take_8 : decode cX3_take 8 = .ok (.aload_n 0, 1) := by decide +kernel
theorem dX3_take_9 : decode cX3_take 9 = .ok (.iload_n 1, 1) := by decide +kernel
theorem dX3_take_10 : decode cX3_take 10 = .ok (.putfield 79, 3) := by decide +kernel
theorem dX3_take_13 : decode cX3_take 13 = .ok (.aload_n 0, 1) := by decide +kernel
theorem dX3_take_14 : decode cX3_take 14 = .ok (.getfield 15, 3) := by decide +kernel
theorem dX3_take_17 : decode cX3_take 17 = .ok (.iconst 0, 1) := by decide +kernel
theorem dX3_take_18 : decode cX3_take 18 = .ok (.aload_n 0, 1) := by decide +kernel
theorem dX3_take_19 : decode cX3_take 19 = .ok (.getfield 18, 3) := by decide +kernel
theorem dX3_take_22 : decode cX3_take 22 = .ok (.iconst 0, 1) := by decide +kernel
theorem dX3_take_23 : decode cX3_take 23 = .ok (.aload_n 0, 1) := by decide +kernel
theorem dX3_take_24 : decode cX3_take 24 = .ok (.getfield 15, 3) := by decide +kernel
theorem dX3_take_27 : decode cX3_take 27 = .ok (.arraylength, 1) := by decide +kernel
theorem dX3_take_28 : decode cX3_take 28 = .ok (.invokestatic 138, 3) := by decide +kernel
theorem dX3_take_31 : decode cX3_take 31 = .ok (.return_, 1) := by decide +kernel
theorem dX3_fewestThen_0 : decode cX3_fewestThen 0 = .ok (.iload_n 1, 1) := by decide +kernel
theorem dX3_fewestThen_1 : decode cX3_fewestThen 1 = .ok (.bipush 6, 2) := by decide +kernel
theorem dX3_fewestThen_3 : decode cX3_fewestThen 3 = .ok (.imul, 1) := by decide +kernel
theorem dX3_fewestThen_4 : decode cX3_fewestThen 4 = .ok (.aload_n 0, 1) := by decide +kernel
theorem dX3_fewestThen_5 : decode cX3_fewestThen 5 = .ok (.getfield 15, 3) := by decide +kernel
theorem dX3_fewestThen_8 : decode cX3_fewestThen 8 = .ok (.iload_n 1, 1) := by decide +kernel
theorem dX3_fewestThen_9 : decode cX3_fewestThen 9 = .ok (.iaload, 1) := by decide +kernel
theorem dX3_fewestThen_10 : decode cX3_fewestThen 10 = .ok (.iadd, 1) := by decide +kernel
theorem dX3_fewestThen_11 : decode cX3_fewestThen 11 = .ok (.iconst 1, 1) := by decide +kernel
theorem dX3_fewestThen_12 : decode cX3_fewestThen 12 = .ok (.iadd, 1) := by decide +kernel
theorem dX3_fewestThen_13 : decode cX3_fewestThen 13 = .ok (.istore 5, 2) := by decide +kernel
theorem dX3_fewestThen_15 : decode cX3_fewestThen 15 = .ok (.iload_n 1, 1) := by decide +kernel
theorem dX3_fewestThen_16 : decode cX3_fewestThen 16 = .ok (.iconst 3, 1) := by decide +kernel
theorem dX3_fewestThen_17 : decode cX3_fewestThen 17 = .ok (.if_icmp .lt 52, 3) := by decide +kernel
theorem dX3_fewestThen_20 : decode cX3_fewestThen 20 = .ok (.aload_n 0, 1) := by decide +kernel
theorem dX3_fewestThen_21 : decode cX3_fewestThen 21 = .ok (.getfield 36, 3) := by decide +kernel
theorem dX3_fewestThen_24 : decode cX3_fewestThen 24 = .ok (.iload_n 2, 1) := by decide +kernel
theorem dX3_fewestThen_25 : decode cX3_fewestThen 25 = .ok (.iaload, 1) := by decide +kernel
theorem dX3_fewestThen_26 : decode cX3_fewestThen 26 = .ok (.aload_n 0, 1) := by decide +kernel
theorem dX3_fewestThen_27 : decode cX3_fewestThen 27 = .ok (.getfield 30, 3) := by decide +kernel
theorem dX3_fewestThen_30 : decode cX3_fewestThen 30 = .ok (.iload 5, 2) := by decide +kernel
theorem dX3_fewestThen_32 : decode cX3_fewestThen 32 = .ok (.iaload, 1) := by decide +kernel
theorem dX3_fewestThen_33 : decode cX3_fewestThen 33 = .ok (.ishr, 1) := by decide +kernel
theorem dX3_fewestThen_34 : decode cX3_fewestThen 34 = .ok (.iconst 1, 1) := by decide +kernel
theorem dX3_fewestThen_35 : decode cX3_fewestThen 35 = .ok (.iand, 1) := by decide +kernel
theorem dX3_fewestThen_36 : decode cX3_fewestThen 36 = .ok (.ifCond .eq 5, 3) := by decide +kernel
theorem dX3_fewestThen_39 : decode cX3_fewestThen 39 = .ok (.iload_n 3, 1) := by decide +kernel
theorem dX3_fewestThen_40 : decode cX3_fewestThen 40 = .ok (.ireturn, 1) := by decide +kernel
theorem dX3_fewestThen_41 : decode cX3_fewestThen 41 = .ok (.aload_n 0, 1) := by decide +kernel
theorem dX3_fewestThen_42 : decode cX3_fewestThen 42 = .ok (.getfield 36, 3) := by decide +kernel
theorem dX3_fewestThen_45 : decode cX3_fewestThen 45 = .ok (.iload_n 2, 1) := by decide +kernel
theorem dX3_fewestThen_46 : decode cX3_fewestThen 46 = .ok (.iaload, 1) := by decide +kernel
theorem dX3_fewestThen_47 : decode cX3_fewestThen 47 = .ok (.iconst 1, 1) := by decide +kernel
theorem dX3_fewestThen_48 : decode cX3_fewestThen 48 = .ok (.ishr, 1) := by decide +kernel
theorem dX3_fewestThen_49 : decode cX3_fewestThen 49 = .ok (.aload_n 0, 1) := by decide +kernel
theorem dX3_fewestThen_50 : decode cX3_fewestThen 50 = .ok (.getfield 33, 3) := by decide +kernel
theorem dX3_fewestThen_53 : decode cX3_fewestThen 53 = .ok (.iload 5, 2) := by decide +kernel
theorem dX3_fewestThen_55 : decode cX3_fewestThen 55 = .ok (.iaload, 1) := by decide +kernel
theorem dX3_fewestThen_56 : decode cX3_fewestThen 56 = .ok (.iand, 1) := by decide +kernel
theorem dX3_fewestThen_57 : decode cX3_fewestThen 57 = .ok (.ifCond .eq 9, 3) := by decide +kernel
theorem dX3_fewestThen_60 : decode cX3_fewestThen 60 = .ok (.iload_n 3, 1) := by decide +kernel
theorem dX3_fewestThen_61 : decode cX3_fewestThen 61 = .ok (.iconst 1, 1) := by decide +kernel
theorem dX3_fewestThen_62 : decode cX3_fewestThen 62 = .ok (.iadd, 1) := by decide +kernel
theorem dX3_fewestThen_63 : decode cX3_fewestThen 63 = .ok (.goto 5, 3) := by decide +kernel
theorem dX3_fewestThen_66 : decode cX3_fewestThen 66 = .ok (.iload 4, 2) := by decide +kernel
theorem dX3_fewestThen_68 : decode cX3_fewestThen 68 = .ok (.ireturn, 1) := by decide +kernel
theorem dX3_fewestThen_69 : decode cX3_fewestThen 69 = .ok (.aload_n 0, 1) := by decide +kernel
theorem dX3_fewestThen_70 : decode cX3_fewestThen 70 = .ok (.iload_n 1, 1) := by decide +kernel
theorem dX3_fewestThen_71 : decode cX3_fewestThen 71 = .ok (.iconst 1, 1) := by decide +kernel
theorem dX3_fewestThen_72 : decode cX3_fewestThen 72 = .ok (.iadd, 1) := by decide +kernel
theorem dX3_fewestThen_73 : decode cX3_fewestThen 73 = .ok (.iload_n 2, 1) := by decide +kernel
theorem dX3_fewestThen_74 : decode cX3_fewestThen 74 = .ok (.bipush 11, 2) := by decide +kernel
theorem dX3_fewestThen_76 : decode cX3_fewestThen 76 = .ok (.imul, 1) := by decide +kernel
theorem dX3_fewestThen_77 : decode cX3_fewestThen 77 = .ok (.aload_n 0, 1) := by decide +kernel
theorem dX3_fewestThen_78 : decode cX3_fewestThen 78 = .ok (.getfield 30, 3) := by decide +kernel
theorem dX3_fewestThen_81 : decode cX3_fewestThen 81 = .ok (.iload 5, 2) := by decide +kernel
theorem dX3_fewestThen_83 : decode cX3_fewestThen 83 = .ok (.iaload, 1) := by decide +kernel
theorem dX3_fewestThen_84 : decode cX3_fewestThen 84 = .ok (.iadd, 1) := by decide +kernel
theorem dX3_fewestThen_85 : decode cX3_fewestThen 85 = .ok (.iload_n 3, 1) := by decide +kernel
theorem dX3_fewestThen_86 : decode cX3_fewestThen 86 = .ok (.iload 4, 2) := by decide +kernel
theorem dX3_fewestThen_88 : decode cX3_fewestThen 88 = .ok (.invokevirtual 129, 3) := by decide +kernel
theorem dX3_fewestThen_91 : decode cX3_fewestThen 91 = .ok (.istore 6, 2) := by decide +kernel
theorem dX3_fewestThen_93 : decode cX3_fewestThen 93 = .ok (.iconst 0, 1) := by decide +kernel
theorem dX3_fewestThen_94 : decode cX3_fewestThen 94 = .ok (.istore 7, 2) := by decide +kernel
theorem dX3_fewestThen_96 : decode cX3_fewestThen 96 = .ok (.iload 7, 2) := by decide +kernel
theorem dX3_fewestThen_98 : decode cX3_fewestThen 98 = .ok (.aload_n 0, 1) := by decide +kernel
theorem dX3_fewestThen_99 : decode cX3_fewestThen 99 = .ok (.getfield 39, 3) := by decide +kernel
theorem dX3_fewestThen_102 : decode cX3_fewestThen 102 = .ok (.getfield 63, 3) := by decide +kernel
theorem dX3_fewestThen_105 : decode cX3_fewestThen 105 = .ok (.iconst 0, 1) := by decide +kernel
theorem dX3_fewestThen_106 : decode cX3_fewestThen 106 = .ok (.iaload, 1) := by decide +kernel
theorem dX3_fewestThen_107 : decode cX3_fewestThen 107 = .ok (.if_icmp .ge 55, 3) := by decide +kernel
theorem dX3_fewestThen_110 : decode cX3_fewestThen 110 = .ok (.iload_n 3, 1) := by decide +kernel
theorem dX3_fewestThen_111 : decode cX3_fewestThen 111 = .ok (.iconst 1, 1) := by decide +kernel
theorem dX3_fewestThen_112 : decode cX3_fewestThen 112 = .ok (.iadd, 1) := by decide +kernel
theorem dX3_fewestThen_113 : decode cX3_fewestThen 113 = .ok (.iload 6, 2) := by decide +kernel
theorem dX3_fewestThen_115 : decode cX3_fewestThen 115 = .ok (.if_icmp .ge 47, 3) := by decide +kernel
theorem dX3_fewestThen_118 : decode cX3_fewestThen 118 = .ok (.aload_n 0, 1) := by decide +kernel
theorem dX3_fewestThen_119 : decode cX3_fewestThen 119 = .ok (.getfield 33, 3) := by decide +kernel
theorem dX3_fewestThen_122 : decode cX3_fewestThen 122 = .ok (.iload 5, 2) := by decide +kernel
theorem dX3_fewestThen_124 : decode cX3_fewestThen 124 = .ok (.iaload, 1) := by decide +kernel
theorem dX3_fewestThen_125 : decode cX3_fewestThen 125 = .ok (.iload 7, 2) := by decide +kernel
theorem dX3_fewestThen_127 : decode cX3_fewestThen 127 = .ok (.ishr, 1) := by decide +kernel
theorem dX3_fewestThen_128 : decode cX3_fewestThen 128 = .ok (.iconst 1, 1) := by decide +kernel
theorem dX3_fewestThen_129 : decode cX3_fewestThen 129 = .ok (.iand, 1) := by decide +kernel
theorem dX3_fewestThen_130 : decode cX3_fewestThen 130 = .ok (.ifCond .eq 26, 3) := by decide +kernel
theorem dX3_fewestThen_133 : decode cX3_fewestThen 133 = .ok (.aload_n 0, 1) := by decide +kernel
theorem dX3_fewestThen_134 : decode cX3_fewestThen 134 = .ok (.iload_n 1, 1) := by decide +kernel
theorem dX3_fewestThen_135 : decode cX3_fewestThen 135 = .ok (.iconst 1, 1) := by decide +kernel
theorem dX3_fewestThen_136 : decode cX3_fewestThen 136 = .ok (.iadd, 1) := by decide +kernel
theorem dX3_fewestThen_137 : decode cX3_fewestThen 137 = .ok (.iload_n 2, 1) := by decide +kernel
theorem dX3_fewestThen_138 : decode cX3_fewestThen 138 = .ok (.bipush 11, 2) := by decide +kernel
theorem dX3_fewestThen_140 : decode cX3_fewestThen 140 = .ok (.imul, 1) := by decide +kernel
theorem dX3_fewestThen_141 : decode cX3_fewestThen 141 = .ok (.iconst 1, 1) := by decide +kernel
theorem dX3_fewestThen_142 : decode cX3_fewestThen 142 = .ok (.iadd, 1) := by decide +kernel
theorem dX3_fewestThen_143 : decode cX3_fewestThen 143 = .ok (.iload 7, 2) := by decide +kernel
theorem dX3_fewestThen_145 : decode cX3_fewestThen 145 = .ok (.iadd, 1) := by decide +kernel
theorem dX3_fewestThen_146 : decode cX3_fewestThen 146 = .ok (.iload_n 3, 1) := by decide +kernel
theorem dX3_fewestThen_147 : decode cX3_fewestThen 147 = .ok (.iconst 1, 1) := by decide +kernel
theorem dX3_fewestThen_148 : decode cX3_fewestThen 148 = .ok (.iadd, 1) := by decide +kernel
theorem dX3_fewestThen_149 : decode cX3_fewestThen 149 = .ok (.iload 6, 2) := by decide +kernel
theorem dX3_fewestThen_151 : decode cX3_fewestThen 151 = .ok (.invokevirtual 129, 3) := by decide +kernel
theorem dX3_fewestThen_154 : decode cX3_fewestThen 154 = .ok (.istore 6, 2) := by decide +kernel
theorem dX3_fewestThen_156 : decode cX3_fewestThen 156 = .ok (.iinc 7 1, 3) := by decide +kernel
theorem dX3_fewestThen_159 : decode cX3_fewestThen 159 = .ok (.goto (-63), 3) := by decide +kernel
theorem dX3_fewestThen_162 : decode cX3_fewestThen 162 = .ok (.iload 6, 2) := by decide +kernel
theorem dX3_fewestThen_164 : decode cX3_fewestThen 164 = .ok (.ireturn, 1) := by decide +kernel
theorem dX4_init_0 : decode cX4_init 0 = .ok (.aload_n 0, 1) := by decide +kernel
theorem dX4_init_1 : decode cX4_init 1 = .ok (.invokespecial 3, 3) := by decide +kernel
theorem dX4_init_4 : decode cX4_init 4 = .ok (.aload_n 0, 1) := by decide +kernel
theorem dX4_init_5 : decode cX4_init 5 = .ok (.bipush 20, 2) := by decide +kernel
theorem dX4_init_7 : decode cX4_init 7 = .ok (.newarray .int, 2) := by decide +kernel
theorem dX4_init_9 : decode cX4_init 9 = .ok (.putfield 9, 3) := by decide +kernel
theorem dX4_init_12 : decode cX4_init 12 = .ok (.aload_n 0, 1) := by decide +kernel
theorem dX4_init_13 : decode cX4_init 13 = .ok (.iconst 4, 1) := by decide +kernel
theorem dX4_init_14 : decode cX4_init 14 = .ok (.newarray .int, 2) := by decide +kernel
theorem dX4_init_16 : decode cX4_init 16 = .ok (.putfield 15, 3) := by decide +kernel
theorem dX4_init_19 : decode cX4_init 19 = .ok (.aload_n 0, 1) := by decide +kernel
theorem dX4_init_20 : decode cX4_init 20 = .ok (.iconst 4, 1) := by decide +kernel
theorem dX4_init_21 : decode cX4_init 21 = .ok (.newarray .int, 2) := by decide +kernel
theorem dX4_init_23 : decode cX4_init 23 = .ok (.putfield 18, 3) := by decide +kernel
theorem dX4_init_26 : decode cX4_init 26 = .ok (.aload_n 0, 1) := by decide +kernel
theorem dX4_init_27 : decode cX4_init 27 = .ok (.iconst 3, 1) := by decide +kernel
theorem dX4_init_28 : decode cX4_init 28 = .ok (.newarray .int, 2) := by decide +kernel
theorem dX4_init_30 : decode cX4_init 30 = .ok (.putfield 21, 3) := by decide +kernel
theorem dX4_init_33 : decode cX4_init 33 = .ok (.aload_n 0, 1) := by decide +kernel
theorem dX4_init_34 : decode cX4_init 34 = .ok (.getfield 15, 3) := by decide +kernel
theorem dX4_init_37 : decode cX4_init 37 = .ok (.iconst (-1), 1) := by decide +kernel
theorem dX4_init_38 : decode cX4_init 38 = .ok (.invokestatic 24, 3) := by decide +kernel
theorem dX4_init_41 : decode cX4_init 41 = .ok (.return_, 1) := by decide +kernel
theorem dX4_begin_0 : decode cX4_begin 0 = .ok (.aload_n 0, 1) := by decide +kernel
theorem dX4_begin_1 : decode cX4_begin 1 = .ok (.iconst 0, 1) := by decide +kernel
theorem dX4_begin_2 : decode cX4_begin 2 = .ok (.putfield 30, 3) := by decide +kernel
theorem dX4_begin_5 : decode cX4_begin 5 = .ok (.aload_n 1, 1) := by decide +kernel
theorem dX4_begin_6 : decode cX4_begin 6 = .ok (.getfield 34, 3) := by decide +kernel
theorem dX4_begin_9 : decode cX4_begin 9 = .ok (.iconst 0, 1) := by decide +kernel
theorem dX4_begin_10 : decode cX4_begin 10 = .ok (.aload_n 0, 1) := by decide +kernel
theorem dX4_begin_11 : decode cX4_begin 11 = .ok (.getfield 9, 3) := by decide +kernel
theorem dX4_begin_14 : decode cX4_begin 14 = .ok (.iconst 0, 1) := by decide +kernel
theorem dX4_begin_15 : decode cX4_begin 15 = .ok (.aload_n 0, 1) := by decide +kernel
theorem dX4_begin_16 : decode cX4_begin 16 = .ok (.getfield 9, 3) := by decide +kernel
theorem dX4_begin_19 : decode cX4_begin 19 = .ok (.arraylength, 1) := by decide +kernel
theorem dX4_begin_20 : decode cX4_begin 20 = .ok (.invokestatic 37, 3) := by decide +kernel
theorem dX4_begin_23 : decode cX4_begin 23 = .ok (.aload_n 0, 1) := by decide +kernel
theorem dX4_begin_24 : decode cX4_begin 24 = .ok (.getfield 15, 3) := by decide +kernel
theorem dX4_begin_27 : decode cX4_begin 27 = .ok (.iconst (-1), 1) := by decide +kernel
theorem dX4_begin_28 : decode cX4_begin 28 = .ok (.invokestatic 24, 3) := by decide +kernel
theorem dX4_begin_31 : decode cX4_begin 31 = .ok (.aload_n 0, 1) := by decide +kernel
theorem dX4_begin_32 : decode cX4_begin 32 = .ok (.getfield 18, 3) := by decide +kernel
theorem dX4_begin_35 : decode cX4_begin 35 = .ok (.iconst 0, 1) := by decide +kernel
theorem dX4_begin_36 : decode cX4_begin 36 = .ok (.invokestatic 24, 3) := by decide +kernel
theorem dX4_begin_39 : decode cX4_begin 39 = .ok (.aload_n 0, 1) := by decide +kernel
theorem dX4_begin_40 : decode cX4_begin 40 = .ok (.getfield 21, 3) := by decide +kernel
theorem dX4_begin_43 : decode cX4_begin 43 = .ok (.iconst 0, 1) := by decide +kernel
theorem dX4_begin_44 : decode cX4_begin 44 = .ok (.invokestatic 24, 3) := by decide +kernel
theorem dX4_begin_47 : decode cX4_begin 47 = .ok (.return_, 1) := by decide +kernel
theorem dX4_copy_0 : decode cX4_copy 0 = .ok (.aload_n 0, 1) := by decide +kernel
theorem dX4_copy_1 : decode cX4_copy 1 = .ok (.aload_n 1, 1) := by decide +kernel
theorem dX4_copy_2 : decode cX4_copy 2 = .ok (.getfield 30, 3) := by decide +kernel
theorem dX4_copy_5 : decode cX4_copy 5 = .ok (.putfield 30, 3) := by decide +kernel
theorem dX4_copy_8 : decode cX4_copy 8 = .ok (.aload_n 1, 1) := by decide +kernel
theorem dX4_copy_9 : decode cX4_copy 9 = .ok (.getfield 9, 3) := by decide +kernel
theorem dX4_copy_12 : decode cX4_copy 12 = .ok (.iconst 0, 1) := by decide +kernel
theorem dX4_copy_13 : decode cX4_copy 13 = .ok (.aload_n 0, 1) := by decide +kernel
theorem dX4_copy_14 : decode cX4_copy 14 = .ok (.getfield 9, 3) := by decide +kernel
theorem dX4_copy_17 : decode cX4_copy 17 = .ok (.iconst 0, 1) := by decide +kernel
theorem dX4_copy_18 : decode cX4_copy 18 = .ok (.aload_n 0, 1) := by decide +kernel
theorem dX4_copy_19 : decode cX4_copy 19 = .ok (.getfield 9, 3) := by decide +kernel
theorem dX4_copy_22 : decode cX4_copy 22 = .ok (.arraylength, 1) := by decide +kernel
theorem dX4_copy_23 : decode cX4_copy 23 = .ok (.invokestatic 37, 3) := by decide +kernel
theorem dX4_copy_26 : decode cX4_copy 26 = .ok (.aload_n 1, 1) := by decide +kernel
theorem dX4_copy_27 : decode cX4_copy 27 = .ok (.getfield 15, 3) := by decide +kernel
theorem dX4_copy_30 : decode cX4_copy 30 = .ok (.iconst 0, 1) := by decide +kernel
theorem dX4_copy_31 : decode cX4_copy 31 = .ok (.aload_n 0, 1) := by decide +kernel
theorem dX4_copy_32 : decode cX4_copy 32 = .ok (.getfield 15, 3) := by decide +kernel
theorem dX4_copy_35 : decode cX4_copy 35 = .ok (.iconst 0, 1) := by decide +kernel
theorem dX4_copy_36 : decode cX4_copy 36 = .ok (.aload_n 0, 1) := by decide +kernel
theorem dX4_copy_37 : decode cX4_copy 37 = .ok (.getfield 15, 3) := by decide +kernel
theorem dX4_copy_40 : decode cX4_copy 40 = .ok (.arraylength, 1) := by decide +kernel
theorem dX4_copy_41 : decode cX4_copy 41 = .ok (.invokestatic 37, 3) := by decide +kernel
theorem dX4_copy_44 : decode cX4_copy 44 = .ok (.aload_n 1, 1) := by decide +kernel
theorem dX4_copy_45 : decode cX4_copy 45 = .ok (.getfield 18, 3) := by decide +kernel
theorem dX4_copy_48 : decode cX4_copy 48 = .ok (.iconst 0, 1) := by decide +kernel
theorem dX4_copy_49 : decode cX4_copy 49 = .ok (.aload_n 0, 1) := by decide +kernel
theorem dX4_copy_50 : decode cX4_copy 50 = .ok (.getfield 18, 3) := by decide +kernel
theorem dX4_copy_53 : decode cX4_copy 53 = .ok (.iconst 0, 1) := by decide +kernel
theorem dX4_copy_54 : decode cX4_copy 54 = .ok (.aload_n 0, 1) := by decide +kernel
theorem dX4_copy_55 : decode cX4_copy 55 = .ok (.getfield 18, 3) := by decide +kernel
theorem dX4_copy_58 : decode cX4_copy 58 = .ok (.arraylength, 1) := by decide +kernel
theorem dX4_copy_59 : decode cX4_copy 59 = .ok (.invokestatic 37, 3) := by decide +kernel
theorem dX4_copy_62 : decode cX4_copy 62 = .ok (.aload_n 1, 1) := by decide +kernel
theorem dX4_copy_63 : decode cX4_copy 63 = .ok (.getfield 21, 3) := by decide +kernel
theorem dX4_copy_66 : decode cX4_copy 66 = .ok (.iconst 0, 1) := by decide +kernel
theorem dX4_copy_67 : decode cX4_copy 67 = .ok (.aload_n 0, 1) := by decide +kernel
theorem dX4_copy_68 : decode cX4_copy 68 = .ok (.getfield 21, 3) := by decide +kernel
theorem dX4_copy_71 : decode cX4_copy 71 = .ok (.iconst 0, 1) := by decide +kernel
theorem dX4_copy_72 : decode cX4_copy 72 = .ok (.aload_n 0, 1) := by decide +kernel
theorem dX4_copy_73 : decode cX4_copy 73 = .ok (.getfield 21, 3) := by decide +kernel
theorem dX4_copy_76 : decode cX4_copy 76 = .ok (.arraylength, 1) := by decide +kernel
theorem dX4_copy_77 : decode cX4_copy 77 = .ok (.invokestatic 37, 3) := by decide +kernel
theorem dX4_copy_80 : decode cX4_copy 80 = .ok (.return_, 1) := by decide +kernel
theorem dX4_stockOf_0 : decode cX4_stockOf 0 = .ok (.iload_n 1, 1) := by decide +kernel
theorem dX4_stockOf_1 : decode cX4_stockOf 1 = .ok (.ifCond .lt 17, 3) := by decide +kernel
theorem dX4_stockOf_4 : decode cX4_stockOf 4 = .ok (.iload_n 1, 1) := by decide +kernel
theorem dX4_stockOf_5 : decode cX4_stockOf 5 = .ok (.iconst 4, 1) := by decide +kernel
theorem dX4_stockOf_6 : decode cX4_stockOf 6 = .ok (.if_icmp .ge 12, 3) := by decide +kernel
theorem dX4_stockOf_9 : decode cX4_stockOf 9 = .ok (.iload_n 2, 1) := by decide +kernel
theorem dX4_stockOf_10 : decode cX4_stockOf 10 = .ok (.ifCond .lt 8, 3) := by decide +kernel
theorem dX4_stockOf_13 : decode cX4_stockOf 13 = .ok (.iload_n 2, 1) := by decide +kernel
theorem dX4_stockOf_14 : decode cX4_stockOf 14 = .ok (.iconst 5, 1) := by decide +kernel
theorem dX4_stockOf_15 : decode cX4_stockOf 15 = .ok (.if_icmp .lt 5, 3) := by decide +kernel
theorem dX4_stockOf_18 : decode cX4_stockOf 18 = .ok (.iconst 0, 1) := by decide +kernel
theorem dX4_stockOf_19 : decode cX4_stockOf 19 = .ok (.ireturn, 1) := by decide +kernel
theorem dX4_stockOf_20 : decode cX4_stockOf 20 = .ok (.aload_n 0, 1) := by decide +kernel
theorem dX4_stockOf_21 : decode cX4_stockOf 21 = .ok (.getfield 9, 3) := by decide +kernel
theorem dX4_stockOf_24 : decode cX4_stockOf 24 = .ok (.iload_n 1, 1) := by decide +kernel
theorem dX4_stockOf_25 : decode cX4_stockOf 25 = .ok (.iconst 5, 1) := by decide +kernel
theorem dX4_stockOf_26 : decode cX4_stockOf 26 = .ok (.imul, 1) := by decide +kernel
theorem dX4_stockOf_27 : decode cX4_stockOf 27 = .ok (.iload_n 2, 1) := by decide +kernel
theorem dX4_stockOf_28 : decode cX4_stockOf 28 = .ok (.iadd, 1) := by decide +kernel
theorem dX4_stockOf_29 : decode cX4_stockOf 29 = .ok (.iaload, 1) := by decide +kernel
theorem dX4_stockOf_30 : decode cX4_stockOf 30 = .ok (.ireturn, 1) := by decide +kernel
theorem dX4_burns_0 : decode cX4_burns 0 = .ok (.iload_n 1, 1) := by decide +kernel
theorem dX4_burns_1 : decode cX4_burns 1 = .ok (.ifCond .lt 21, 3) := by decide +kernel
theorem dX4_burns_4 : decode cX4_burns 4 = .ok (.iload_n 1, 1) := by decide +kernel
theorem dX4_burns_5 : decode cX4_burns 5 = .ok (.iconst 4, 1) := by decide +kernel
theorem dX4_burns_6 : decode cX4_burns 6 = .ok (.if_icmp .ge 16, 3) := by decide +kernel
theorem dX4_burns_9 : decode cX4_burns 9 = .ok (.aload_n 0, 1) := by decide +kernel
theorem dX4_burns_10 : decode cX4_burns 10 = .ok (.getfield 18, 3) := by decide +kernel
theorem dX4_burns_13 : decode cX4_burns 13 = .ok (.iload_n 1, 1) := by decide +kernel
theorem dX4_burns_14 : decode cX4_burns 14 = .ok (.iaload, 1) := by decide +kernel
theorem dX4_burns_15 : decode cX4_burns 15 = .ok (.ifCond .le 7, 3) := by decide +kernel
theorem dX4_burns_18 : decode cX4_burns 18 = .ok (.iconst 1, 1) := by decide +kernel
theorem dX4_burns_19 : decode cX4_burns 19 = .ok (.goto 4, 3) := by decide +kernel
theorem dX4_burns_22 : decode cX4_burns 22 = .ok (.iconst 0, 1) := by decide +kernel
theorem dX4_burns_23 : decode cX4_burns 23 = .ok (.ireturn, 1) := by decide +kernel
theorem dX4_canLight_0 : decode cX4_canLight 0 = .ok (.aload_n 0, 1) := by decide +kernel
theorem dX4_canLight_1 : decode cX4_canLight 1 = .ok (.iload_n 1, 1) := by decide +kernel
theorem dX4_canLight_2 : decode cX4_canLight 2 = .ok (.invokevirtual 43, 3) := by decide +kernel
theorem dX4_canLight_5 : decode cX4_canLight 5 = .ok (.ifCond .ne 16, 3) := by decide +kernel
theorem dX4_canLight_8 : decode cX4_canLight 8 = .ok (.aload_n 0, 1) := by decide +kernel
theorem dX4_canLight_9 : decode cX4_canLight 9 = .ok (.iload_n 1, 1) := by decide +kernel
theorem dX4_canLight_10 : decode cX4_canLight 10 = .ok (.iload_n 2, 1) := by decide +kernel
theorem dX4_canLight_11 : decode cX4_canLight 11 = .ok (.invokevirtual 47, 3) := by decide +kernel
theorem dX4_canLight_14 : decode cX4_canLight 14 = .ok (.ifCond .le 7, 3) := by decide +kernel
theorem dX4_canLight_17 : decode cX4_canLight 17 = .ok (.iconst 1, 1) := by decide +kernel
theorem dX4_canLight_18 : decode cX4_canLight 18 = .ok (.goto 4, 3) := by decide +kernel
theorem dX4_canLight_21 : decode cX4_canLight 21 = .ok (.iconst 0, 1) := by decide +kernel
theorem dX4_canLight_22 : decode cX4_canLight 22 = .ok (.ireturn, 1) := by decide +kernel
theorem dX4_light_0 : decode cX4_light 0 = .ok (.aload_n 0, 1) := by decide +kernel
theorem dX4_light_1 : decode cX4_light 1 = .ok (.iload_n 2, 1) := by decide +kernel
theorem dX4_light_2 : decode cX4_light 2 = .ok (.iload_n 3, 1) := by decide +kernel
theorem dX4_light_3 : decode cX4_light 3 = .ok (.invokevirtual 51, 3) := by decide +kernel
theorem dX4_light_6 : decode cX4_light 6 = .ok (.ifCond .ne 5, 3) := by decide +kernel
theorem dX4_light_9 : decode cX4_light 9 = .ok (.iconst 0, 1) := by decide +kernel
theorem dX4_light_10 : decode cX4_light 10 = .ok (.ireturn, 1) := by decide +kernel
theorem dX4_light_11 : decode cX4_light 11 = .ok (.aload_n 0, 1) := by decide +kernel
theorem dX4_light_12 : decode cX4_light 12 = .ok (.getfield 9, 3) := by decide +kernel
theorem dX4_light_15 : decode cX4_light 15 = .ok (.iload_n 2, 1) := by decide +kernel
theorem dX4_light_16 : decode cX4_light 16 = .ok (.iconst 5, 1) := by decide +kernel
theorem dX4_light_17 : decode cX4_light 17 = .ok (.imul, 1) := by decide +kernel
theorem dX4_light_18 : decode cX4_light 18 = .ok (.iload_n 3, 1) := by decide +kernel
theorem dX4_light_19 : decode cX4_light 19 = .ok (.iadd, 1) := by decide +kernel
theorem dX4_light_20 : decode cX4_light 20 = .ok (.dup2, 1) := by decide +kernel
theorem dX4_light_21 : decode cX4_light 21 = .ok (.iaload, 1) := by decide +kernel
theorem dX4_light_22 : decode cX4_light 22 = .ok (.iconst 1, 1) := by decide +kernel
theorem dX4_light_23 : decode cX4_light 23 = .ok (.isub, 1) := by decide +kernel
theorem dX4_light_24 : decode cX4_light 24 = .ok (.iastore, 1) := by decide +kernel
theorem dX4_light_25 : decode cX4_light 25 = .ok (.aload_n 0, 1) := by decide +kernel
theorem dX4_light_26 : decode cX4_light 26 = .ok (.getfield 15, 3) := by decide +kernel
theorem dX4_light_29 : decode cX4_light 29 = .ok (.iload_n 2, 1) := by decide +kernel
theorem dX4_light_30 : decode cX4_light 30 = .ok (.iload_n 3, 1) := by decide +kernel
theorem dX4_light_31 : decode cX4_light 31 = .ok (.iastore, 1) := by decide +kernel
theorem dX4_light_32 : decode cX4_light 32 = .ok (.aload_n 0, 1) := by decide +kernel
theorem dX4_light_33 : decode cX4_light 33 = .ok (.getfield 18, 3) := by decide +kernel
theorem dX4_light_36 : decode cX4_light 36 = .ok (.iload_n 2, 1) := by decide +kernel
theorem dX4_light_37 : decode cX4_light 37 = .ok (.aload_n 1, 1) := by decide +kernel
theorem dX4_light_38 : decode cX4_light 38 = .ok (.getfield 55, 3) := by decide +kernel
theorem dX4_light_41 : decode cX4_light 41 = .ok (.iload_n 3, 1) := by decide +kernel
theorem dX4_light_42 : decode cX4_light 42 = .ok (.iaload, 1) := by decide +kernel
theorem dX4_light_43 : decode cX4_light 43 = .ok (.iastore, 1) := by decide +kernel
theorem dX4_light_44 : decode cX4_light 44 = .ok (.iconst 1, 1) := by decide +kernel
theorem dX4_light_45 : decode cX4_light 45 = .ok (.ireturn, 1) := by decide +kernel
theorem dX4_canHand_0 : decode cX4_canHand 0 = .ok (.iload_n 2, 1) := by decide +kernel
theorem dX4_canHand_1 : decode cX4_canHand 1 = .ok (.ifCond .lt 13, 3) := by decide +kernel
theorem dX4_canHand_4 : decode cX4_canHand 4 = .ok (.iload_n 2, 1) := by decide +kernel
theorem dX4_canHand_5 : decode cX4_canHand 5 = .ok (.iconst 4, 1) := by decide +kernel
theorem dX4_canHand_6 : decode cX4_canHand 6 = .ok (.if_icmp .ge 8, 3) := by decide +kernel
theorem dX4_canHand_9 : decode cX4_canHand 9 = .ok (.iload_n 2, 1) := by decide +kernel
theorem dX4_canHand_10 : decode cX4_canHand 10 = .ok (.iload_n 1, 1) := by decide +kernel
theorem dX4_canHand_11 : decode cX4_canHand 11 = .ok (.if_icmp .ne 5, 3) := by decide +kernel
theorem dX4_canHand_14 : decode cX4_canHand 14 = .ok (.iconst 0, 1) := by decide +kernel
theorem dX4_canHand_15 : decode cX4_canHand 15 = .ok (.ireturn, 1) := by decide +kernel
theorem dX4_canHand_16 : decode cX4_canHand 16 = .ok (.iload 4, 2) := by decide +kernel
theorem dX4_canHand_18 : decode cX4_canHand 18 = .ok (.ifCond .le 18, 3) := by decide +kernel
theorem dX4_canHand_21 : decode cX4_canHand 21 = .ok (.aload_n 0, 1) := by decide +kernel
theorem dX4_canHand_22 : decode cX4_canHand 22 = .ok (.iload_n 1, 1) := by decide +kernel
theorem dX4_canHand_23 : decode cX4_canHand 23 = .ok (.iload_n 3, 1) := by decide +kernel
theorem dX4_canHand_24 : decode cX4_canHand 24 = .ok (.invokevirtual 47, 3) := by decide +kernel
theorem dX4_canHand_27 : decode cX4_canHand 27 = .ok (.iload 4, 2) := by decide +kernel
theorem dX4_canHand_29 : decode cX4_canHand 29 = .ok (.if_icmp .lt 7, 3) := by decide +kernel
theorem dX4_canHand_32 : decode cX4_canHand 32 = .ok (.iconst 1, 1) := by decide +kernel
theorem dX4_canHand_33 : decode cX4_canHand 33 = .ok (.goto 4, 3) := by decide +kernel
theorem dX4_canHand_36 : decode cX4_canHand 36 = .ok (.iconst 0, 1) := by decide +kernel
theorem dX4_canHand_37 : decode cX4_canHand 37 = .ok (.ireturn, 1) := by decide +kernel
theorem dX4_hand_0 : decode cX4_hand 0 = .ok (.aload_n 0, 1) := by decide +kernel
theorem dX4_hand_1 : decode cX4_hand 1 = .ok (.iload_n 1, 1) := by decide +kernel
theorem dX4_hand_2 : decode cX4_hand 2 = .ok (.iload_n 2, 1) := by decide +kernel
theorem dX4_hand_3 : decode cX4_hand 3 = .ok (.iload_n 3, 1) := by decide +kernel
theorem dX4_hand_4 : decode cX4_hand 4 = .ok (.iload 4, 2) := by decide +kernel
theorem dX4_hand_6 : decode cX4_hand 6 = .ok (.invokevirtual 58, 3) := by decide +kernel
theorem dX4_hand_9 : decode cX4_hand 9 = .ok (.ifCond .ne 5, 3) := by decide +kernel
theorem dX4_hand_12 : decode cX4_hand 12 = .ok (.iconst 0, 1) := by decide +kernel
theorem dX4_hand_13 : decode cX4_hand 13 = .ok (.ireturn, 1) := by decide +kernel
theorem dX4_hand_14 : decode cX4_hand 14 = .ok (.aload_n 0, 1) := by decide +kernel
theorem dX4_hand_15 : decode cX4_hand 15 = .ok (.getfield 9, 3) := by decide +kernel
theorem dX4_hand_18 : decode cX4_hand 18 = .ok (.iload_n 1, 1) := by decide +kernel
theorem dX4_hand_19 : decode cX4_hand 19 = .ok (.iconst 5, 1) := by decide +kernel
theorem dX4_hand_20 : decode cX4_hand 20 = .ok (.imul, 1) := by decide +kernel
theorem dX4_hand_21 : decode cX4_hand 21 = .ok (.iload_n 3, 1) := by decide +kernel
theorem dX4_hand_22 : decode cX4_hand 22 = .ok (.iadd, 1) := by decide +kernel
theorem dX4_hand_23 : decode cX4_hand 23 = .ok (.dup2, 1) := by decide +kernel
theorem dX4_hand_24 : decode cX4_hand 24 = .ok (.iaload, 1) := by decide +kernel
theorem dX4_hand_25 : decode cX4_hand 25 = .ok (.iload 4, 2) := by decide +kernel
theorem dX4_hand_27 : decode cX4_hand 27 = .ok (.isub, 1) := by decide +kernel
theorem dX4_hand_28 : decode cX4_hand 28 = .ok (.iastore, 1) := by decide +kernel
theorem dX4_hand_29 : decode cX4_hand 29 = .ok (.aload_n 0, 1) := by decide +kernel
theorem dX4_hand_30 : decode cX4_hand 30 = .ok (.iload_n 2, 1) := by decide +kernel
theorem dX4_hand_31 : decode cX4_hand 31 = .ok (.iload_n 3, 1) := by decide +kernel
theorem dX4_hand_32 : decode cX4_hand 32 = .ok (.invokevirtual 47, 3) := by decide +kernel
theorem dX4_hand_35 : decode cX4_hand 35 = .ok (.iload 4, 2) := by decide +kernel
theorem dX4_hand_37 : decode cX4_hand 37 = .ok (.iadd, 1) := by decide +kernel
theorem dX4_hand_38 : decode cX4_hand 38 = .ok (.istore 5, 2) := by decide +kernel
theorem dX4_hand_40 : decode cX4_hand 40 = .ok (.aload_n 0, 1) := by decide +kernel
theorem dX4_hand_41 : decode cX4_hand 41 = .ok (.getfield 9, 3) := by decide +kernel
theorem dX4_hand_44 : decode cX4_hand 44 = .ok (.iload_n 2, 1) := by decide +kernel
theorem dX4_hand_45 : decode cX4_hand 45 = .ok (.iconst 5, 1) := by decide +kernel
theorem dX4_hand_46 : decode cX4_hand 46 = .ok (.imul, 1) := by decide +kernel
theorem dX4_hand_47 : decode cX4_hand 47 = .ok (.iload_n 3, 1) := by decide +kernel
theorem dX4_hand_48 : decode cX4_hand 48 = .ok (.iadd, 1) := by decide +kernel
theorem dX4_hand_49 : decode cX4_hand 49 = .ok (.iload 5, 2) := by decide +kernel
theorem dX4_hand_51 : decode cX4_hand 51 = .ok (.bipush 99, 2) := by decide +kernel
theorem dX4_hand_53 : decode cX4_hand 53 = .ok (.invokestatic 62, 3) := by decide +kernel
theorem dX4_hand_56 : decode cX4_hand 56 = .ok (.iastore, 1) := by decide +kernel
theorem dX4_hand_57 : decode cX4_hand 57 = .ok (.iconst 1, 1) := by decide +kernel
theorem dX4_hand_58 : decode cX4_hand 58 = .ok (.ireturn, 1) := by decide +kernel
theorem dX4_fires_0 : decode cX4_fires 0 = .ok (.iconst 0, 1) := by decide +kernel
theorem dX4_fires_1 : decode cX4_fires 1 = .ok (.istore_n 1, 1) := by decide +kernel
theorem dX4_fires_2 : decode cX4_fires 2 = .ok (.iconst 0, 1) := by decide +kernel
theorem dX4_fires_3 : decode cX4_fires 3 = .ok (.istore_n 2, 1) := by decide +kernel
theorem dX4_fires_4 : decode cX4_fires 4 = .ok (.iload_n 2, 1) := by decide +kernel
theorem dX4_fires_5 : decode cX4_fires 5 = .ok (.iconst 4, 1) := by decide +kernel
theorem dX4_fires_6 : decode cX4_fires 6 = .ok (.if_icmp .ge 23, 3) := by decide +kernel
theorem dX4_fires_9 : decode cX4_fires 9 = .ok (.aload_n 0, 1) := by decide +kernel
theorem dX4_fires_10 : decode cX4_fires 10 = .ok (.iload_n 2, 1) := by decide +kernel
theorem dX4_fires_11 : decode cX4_fires 11 = .ok (.invokevirtual 43, 3) := by decide +kernel
theorem dX4_fires_14 : decode cX4_fires 14 = .ok (.ifCond .eq 9, 3) := by decide +kernel
theorem dX4_fires_17 : decode cX4_fires 17 = .ok (.iload_n 1, 1) := by decide +kernel
theorem dX4_fires_18 : decode cX4_fires 18 = .ok (.iconst 1, 1) := by decide +kernel
theorem dX4_fires_19 : decode cX4_fires 19 = .ok (.iload_n 2, 1) := by decide +kernel
theorem dX4_fires_20 : decode cX4_fires 20 = .ok (.ishl, 1) := by decide +kernel
theorem dX4_fires_21 : decode cX4_fires 21 = .ok (.ior, 1) := by decide +kernel
theorem dX4_fires_22 : decode cX4_fires 22 = .ok (.istore_n 1, 1) := by decide +kernel
theorem dX4_fires_23 : decode cX4_fires 23 = .ok (.iinc 2 1, 3) := by decide +kernel
theorem dX4_fires_26 : decode cX4_fires 26 = .ok (.goto (-22), 3) := by decide +kernel
theorem dX4_fires_29 : decode cX4_fires 29 = .ok (.iload_n 1, 1) := by decide +kernel
theorem dX4_fires_30 : decode cX4_fires 30 = .ok (.ireturn, 1) := by decide +kernel
theorem dX4_smoke_0 : decode cX4_smoke 0 = .ok (.aload_n 1, 1) := by decide +kernel
theorem dX4_smoke_1 : decode cX4_smoke 1 = .ok (.aload_n 0, 1) := by decide +kernel
theorem dX4_smoke_2 : decode cX4_smoke 2 = .ok (.getfield 30, 3) := by decide +kernel
theorem dX4_smoke_5 : decode cX4_smoke 5 = .ok (.invokevirtual 67, 3) := by decide +kernel
theorem dX4_smoke_8 : decode cX4_smoke 8 = .ok (.istore 4, 2) := by decide +kernel
theorem dX4_smoke_10 : decode cX4_smoke 10 = .ok (.iconst 0, 1) := by decide +kernel
theorem dX4_smoke_11 : decode cX4_smoke 11 = .ok (.istore 5, 2) := by decide +kernel
theorem dX4_smoke_13 : decode cX4_smoke 13 = .ok (.iconst 0, 1) := by decide +kernel
theorem dX4_smoke_14 : decode cX4_smoke 14 = .ok (.istore 6, 2) := by decide +kernel
theorem dX4_smoke_16 : decode cX4_smoke 16 = .ok (.iload 6, 2) := by decide +kernel
theorem dX4_smoke_18 : decode cX4_smoke 18 = .ok (.iconst 4, 1) := by decide +kernel
theorem dX4_smoke_19 : decode cX4_smoke 19 = .ok (.if_icmp .ge 44, 3) := by decide +kernel
theorem dX4_smoke_22 : decode cX4_smoke 22 = .ok (.iload_n 2, 1) := by decide +kernel
theorem dX4_smoke_23 : decode cX4_smoke 23 = .ok (.iload 6, 2) := by decide +kernel
theorem dX4_smoke_25 : decode cX4_smoke 25 = .ok (.ishr, 1) := by decide +kernel
theorem dX4_smoke_26 : decode cX4_smoke 26 = .ok (.iconst 1, 1) := by decide +kernel
theorem dX4_smoke_27 : decode cX4_smoke 27 = .ok (.iand, 1) := by decide +kernel
theorem dX4_smoke_28 : decode cX4_smoke 28 = .ok (.ifCond .eq 29, 3) := by decide +kernel
theorem dX4_smoke_31 : decode cX4_smoke 31 = .ok (.iload 5, 2) := by decide +kernel
theorem dX4_smoke_33 : decode cX4_smoke 33 = .ok (.aload_n 1, 1) := by decide +kernel
theorem dX4_smoke_34 : decode cX4_smoke 34 = .ok (.aload_n 0, 1) := by decide +kernel
theorem dX4_smoke_35 : decode cX4_smoke 35 = .ok (.getfield 15, 3) := by decide +kernel
theorem dX4_smoke_38 : decode cX4_smoke 38 = .ok (.iload 6, 2) := by decide +kernel
theorem dX4_smoke_40 : decode cX4_smoke 40 = .ok (.iaload, 1) := by decide +kernel
theorem dX4_smoke_41 : decode cX4_smoke 41 = .ok (.aload_n 0, 1) := by decide +kernel
theorem dX4_smoke_42 : decode cX4_smoke 42 = .ok (.getfield 18, 3) := by decide +kernel
theorem dX4_smoke_45 : decode cX4_smoke 45 = .ok (.iload 6, 2) := by decide +kernel
theorem dX4_smoke_47 : decode cX4_smoke 47 = .ok (.iaload, 1) := by decide +kernel
theorem dX4_smoke_48 : decode cX4_smoke 48 = .ok (.iload 4, 2) := by decide +kernel
theorem dX4_smoke_50 : decode cX4_smoke 50 = .ok (.iload_n 3, 1) := by decide +kernel
theorem dX4_smoke_51 : decode cX4_smoke 51 = .ok (.invokevirtual 71, 3) := by decide +kernel
theorem dX4_smoke_54 : decode cX4_smoke 54 = .ok (.iadd, 1) := by decide +kernel
theorem dX4_smoke_55 : decode cX4_smoke 55 = .ok (.istore 5, 2) := by decide +kernel
theorem dX4_smoke_57 : decode cX4_smoke 57 = .ok (.iinc 6 1, 3) := by decide +kernel
theorem dX4_smoke_60 : decode cX4_smoke 60 = .ok (.goto (-44), 3) := by decide +kernel
theorem dX4_smoke_63 : decode cX4_smoke 63 = .ok (.iload 5, 2) := by decide +kernel
theorem dX4_smoke_65 : decode cX4_smoke 65 = .ok (.sipush 999, 3) := by decide +kernel
theorem dX4_smoke_68 : decode cX4_smoke 68 = .ok (.invokestatic 62, 3) := by decide +kernel
theorem dX4_smoke_71 : decode cX4_smoke 71 = .ok (.ireturn, 1) := by decide +kernel
theorem dX4_signAt_0 : decode cX4_signAt 0 = .ok (.aload_n 1, 1) := by decide +kernel
theorem dX4_signAt_1 : decode cX4_signAt 1 = .ok (.iload_n 2, 1) := by decide +kernel
theorem dX4_signAt_2 : decode cX4_signAt 2 = .ok (.invokevirtual 75, 3) := by decide +kernel
theorem dX4_signAt_5 : decode cX4_signAt 5 = .ok (.istore_n 3, 1) := by decide +kernel
theorem dX4_signAt_6 : decode cX4_signAt 6 = .ok (.aload_n 1, 1) := by decide +kernel
theorem dX4_signAt_7 : decode cX4_signAt 7 = .ok (.aload_n 0, 1) := by decide +kernel
theorem dX4_signAt_8 : decode cX4_signAt 8 = .ok (.aload_n 1, 1) := by decide +kernel
theorem dX4_signAt_9 : decode cX4_signAt 9 = .ok (.iload_n 3, 1) := by decide +kernel
theorem dX4_signAt_10 : decode cX4_signAt 10 = .ok (.iconst 0, 1) := by decide +kernel
theorem dX4_signAt_11 : decode cX4_signAt 11 = .ok (.invokevirtual 78, 3) := by decide +kernel
theorem dX4_signAt_14 : decode cX4_signAt 14 = .ok (.aload_n 0, 1) := by decide +kernel
theorem dX4_signAt_15 : decode cX4_signAt 15 = .ok (.aload_n 1, 1) := by decide +kernel
theorem dX4_signAt_16 : decode cX4_signAt 16 = .ok (.iload_n 3, 1) := by decide +kernel
theorem dX4_signAt_17 : decode cX4_signAt 17 = .ok (.iconst 1, 1) := by decide +kernel
theorem dX4_signAt_18 : decode cX4_signAt 18 = .ok (.invokevirtual 78, 3) := by decide +kernel
theorem dX4_signAt_21 : decode cX4_signAt 21 = .ok (.invokevirtual 82, 3) := by decide +kernel
theorem dX4_signAt_24 : decode cX4_signAt 24 = .ok (.ireturn, 1) := by decide +kernel
theorem dX4_signsRead_0 : decode cX4_signsRead 0 = .ok (.iconst 0, 1) := by decide +kernel
theorem dX4_signsRead_1 : decode cX4_signsRead 1 = .ok (.istore_n 2, 1) := by decide +kernel
theorem dX4_signsRead_2 : decode cX4_signsRead 2 = .ok (.iconst 0, 1) := by decide +kernel
theorem dX4_signsRead_3 : decode cX4_signsRead 3 = .ok (.istore_n 3, 1) := by decide +kernel
theorem dX4_signsRead_4 : decode cX4_signsRead 4 = .ok (.iload_n 3, 1) := by decide +kernel
theorem dX4_signsRead_5 : decode cX4_signsRead 5 = .ok (.aload_n 1, 1) := by decide +kernel
theorem dX4_signsRead_6 : decode cX4_signsRead 6 = .ok (.getfield 85, 3) := by decide +kernel
theorem dX4_signsRead_9 : decode cX4_signsRead 9 = .ok (.iconst 1, 1) := by decide +kernel
theorem dX4_signsRead_10 : decode cX4_signsRead 10 = .ok (.iaload, 1) := by decide +kernel
theorem dX4_signsRead_11 : decode cX4_signsRead 11 = .ok (.if_icmp .ge 27, 3) := by decide +kernel
theorem dX4_signsRead_14 : decode cX4_signsRead 14 = .ok (.iload_n 2, 1) := by decide +kernel
theorem dX4_signsRead_15 : decode cX4_signsRead 15 = .ok (.aload_n 0, 1) := by decide +kernel
theorem dX4_signsRead_16 : decode cX4_signsRead 16 = .ok (.aload_n 1, 1) := by decide +kernel
theorem dX4_signsRead_17 : decode cX4_signsRead 17 = .ok (.iload_n 3, 1) := by decide +kernel
theorem dX4_signsRead_18 : decode cX4_signsRead 18 = .ok (.invokevirtual 88, 3) := by decide +kernel
theorem dX4_signsRead_21 : decode cX4_signsRead 21 = .ok (.iconst (-1), 1) := by decide +kernel
theorem dX4_signsRead_22 : decode cX4_signsRead 22 = .ok (.if_icmp .ne 7, 3) := by decide +kernel
theorem dX4_signsRead_25 : decode cX4_signsRead 25 = .ok (.iconst 0, 1) := by decide +kernel
theorem dX4_signsRead_26 : decode cX4_signsRead 26 = .ok (.goto 4, 3) := by decide +kernel
theorem dX4_signsRead_29 : decode cX4_signsRead 29 = .ok (.iconst 1, 1) := by decide +kernel
theorem dX4_signsRead_30 : decode cX4_signsRead 30 = .ok (.iadd, 1) := by decide +kernel
theorem dX4_signsRead_31 : decode cX4_signsRead 31 = .ok (.istore_n 2, 1) := by decide +kernel
theorem dX4_signsRead_32 : decode cX4_signsRead 32 = .ok (.iinc 3 1, 3) := by decide +kernel
theorem dX4_signsRead_35 : decode cX4_signsRead 35 = .ok (.goto (-31), 3) := by decide +kernel
theorem dX4_signsRead_38 : decode cX4_signsRead 38 = .ok (.iload_n 2, 1) := by decide +kernel
theorem dX4_signsRead_39 : decode cX4_signsRead 39 = .ok (.ireturn, 1) := by decide +kernel
theorem dX4_sootBy_0 : decode cX4_sootBy 0 = .ok (.aload_n 0, 1) := by decide +kernel
theorem dX4_sootBy_1 : decode cX4_sootBy 1 = .ok (.aload_n 1, 1) := by decide +kernel
theorem dX4_sootBy_2 : decode cX4_sootBy 2 = .ok (.iload_n 2, 1) := by decide +kernel
theorem dX4_sootBy_3 : decode cX4_sootBy 3 = .ok (.iconst 0, 1) := by decide +kernel
theorem dX4_sootBy_4 : decode cX4_sootBy 4 = .ok (.invokevirtual 78, 3) := by decide +kernel
theorem dX4_sootBy_7 : decode cX4_sootBy 7 = .ok (.istore_n 3, 1) := by decide +kernel
theorem dX4_sootBy_8 : decode cX4_sootBy 8 = .ok (.aload_n 0, 1) := by decide +kernel
theorem dX4_sootBy_9 : decode cX4_sootBy 9 = .ok (.aload_n 1, 1) := by decide +kernel
theorem dX4_sootBy_10 : decode cX4_sootBy 10 = .ok (.iload_n 2, 1) := by decide +kernel
theorem dX4_sootBy_11 : decode cX4_sootBy 11 = .ok (.iconst 1, 1) := by decide +kernel
theorem dX4_sootBy_12 : decode cX4_sootBy 12 = .ok (.invokevirtual 78, 3) := by decide +kernel
theorem dX4_sootBy_15 : decode cX4_sootBy 15 = .ok (.istore 4, 2) := by decide +kernel
theorem dX4_sootBy_17 : decode cX4_sootBy 17 = .ok (.aload_n 1, 1) := by decide +kernel
theorem dX4_sootBy_18 : decode cX4_sootBy 18 = .ok (.iload_n 3, 1) := by decide +kernel
theorem dX4_sootBy_19 : decode cX4_sootBy 19 = .ok (.iload 4, 2) := by decide +kernel
theorem dX4_sootBy_21 : decode cX4_sootBy 21 = .ok (.aload_n 1, 1) := by decide +kernel
theorem dX4_sootBy_22 : decode cX4_sootBy 22 = .ok (.aload_n 0, 1) := by decide +kernel
theorem dX4_sootBy_23 : decode cX4_sootBy 23 = .ok (.getfield 30, 3) := by decide +kernel
theorem dX4_sootBy_26 : decode cX4_sootBy 26 = .ok (.invokevirtual 67, 3) := by decide +kernel
theorem dX4_sootBy_29 : decode cX4_sootBy 29 = .ok (.invokevirtual 92, 3) := by decide +kernel
theorem dX4_sootBy_32 : decode cX4_sootBy 32 = .ok (.ireturn, 1) := by decide +kernel
theorem dX4_pass_0 : decode cX4_pass 0 = .ok (.iconst 0, 1) := by decide +kernel
theorem dX4_pass_1 : decode cX4_pass 1 = .ok (.istore_n 2, 1) := by decide +kernel
theorem dX4_pass_2 : decode cX4_pass 2 = .ok (.iload_n 2, 1) := by decide +kernel
theorem dX4_pass_3 : decode cX4_pass 3 = .ok (.aload_n 1, 1) := by decide +kernel
theorem dX4_pass_4 : decode cX4_pass 4 = .ok (.getfield 85, 3) := by decide +kernel
theorem dX4_pass_7 : decode cX4_pass 7 = .ok (.iconst 1, 1) := by decide +kernel
theorem dX4_pass_8 : decode cX4_pass 8 = .ok (.iaload, 1) := by decide +kernel
theorem dX4_pass_9 : decode cX4_pass 9 = .ok (.if_icmp .ge 38, 3) := by decide +kernel
theorem dX4_pass_12 : decode cX4_pass 12 = .ok (.aload_n 0, 1) := by decide +kernel
theorem dX4_pass_13 : decode cX4_pass 13 = .ok (.getfield 21, 3) := by decide +kernel
theorem dX4_pass_16 : decode cX4_pass 16 = .ok (.iload_n 2, 1) := by decide +kernel
theorem dX4_pass_17 : decode cX4_pass 17 = .ok (.aload_n 0, 1) := by decide +kernel
theorem dX4_pass_18 : decode cX4_pass 18 = .ok (.getfield 21, 3) := by decide +kernel
theorem dX4_pass_21 : decode cX4_pass 21 = .ok (.iload_n 2, 1) := by decide +kernel
theorem dX4_pass_22 : decode cX4_pass 22 = .ok (.iaload, 1) := by decide +kernel
theorem dX4_pass_23 : decode cX4_pass 23 = .ok (.aload_n 0, 1) := by decide +kernel
theorem dX4_pass_24 : decode cX4_pass 24 = .ok (.aload_n 1, 1) := by decide +kernel
theorem dX4_pass_25 : decode cX4_pass 25 = .ok (.aload_n 1, 1) := by decide +kernel
theorem dX4_pass_26 : decode cX4_pass 26 = .ok (.iload_n 2, 1) := by decide +kernel
theorem dX4_pass_27 : decode cX4_pass 27 = .ok (.invokevirtual 75, 3) := by decide +kernel
theorem dX4_pass_30 : decode cX4_pass 30 = .ok (.invokevirtual 96, 3) := by decide +kernel
theorem dX4_pass_33 : decode cX4_pass 33 = .ok (.iadd, 1) := by decide +kernel
theorem dX4_pass_34 : decode cX4_pass 34 = .ok (.sipush 9999, 3) := by decide +kernel
theorem dX4_pass_37 : decode cX4_pass 37 = .ok (.invokestatic 62, 3) := by decide +kernel
theorem dX4_pass_40 : decode cX4_pass 40 = .ok (.iastore, 1) := by decide +kernel
theorem dX4_pass_41 : decode cX4_pass 41 = .ok (.iinc 2 1, 3) := by decide +kernel
theorem dX4_pass_44 : decode cX4_pass 44 = .ok (.goto (-42), 3) := by decide +kernel
theorem dX4_pass_47 : decode cX4_pass 47 = .ok (.iconst 0, 1) := by decide +kernel
theorem dX4_pass_48 : decode cX4_pass 48 = .ok (.istore_n 2, 1) := by decide +kernel
theorem dX4_pass_49 : decode cX4_pass 49 = .ok (.iconst 0, 1) := by decide +kernel
theorem dX4_pass_50 : decode cX4_pass 50 = .ok (.istore_n 3, 1) := by decide +kernel
theorem dX4_pass_51 : decode cX4_pass 51 = .ok (.iload_n 3, 1) := by decide +kernel
theorem dX4_pass_52 : decode cX4_pass 52 = .ok (.iconst 4, 1) := by decide +kernel
theorem dX4_pass_53 : decode cX4_pass 53 = .ok (.if_icmp .ge 46, 3) := by decide +kernel
theorem dX4_pass_56 : decode cX4_pass 56 = .ok (.aload_n 0, 1) := by decide +kernel
theorem dX4_pass_57 : decode cX4_pass 57 = .ok (.iload_n 3, 1) := by decide +kernel
theorem dX4_pass_58 : decode cX4_pass 58 = .ok (.invokevirtual 43, 3) := by decide +kernel
theorem dX4_pass_61 : decode cX4_pass 61 = .ok (.ifCond .eq 32, 3) := by decide +kernel
theorem dX4_pass_64 : decode cX4_pass 64 = .ok (.aload_n 0, 1) := by decide +kernel
theorem dX4_pass_65 : decode cX4_pass 65 = .ok (.getfield 18, 3) := by decide +kernel
theorem dX4_pass_68 : decode cX4_pass 68 = .ok (.iload_n 3, 1) := by decide +kernel
theorem dX4_pass_69 : decode cX4_pass 69 = .ok (.dup2, 1) := by decide +kernel
theorem dX4_pass_70 : decode cX4_pass 70 = .ok (.iaload, 1) := by decide +kernel
theorem dX4_pass_71 : decode cX4_pass 71 = .ok (.iconst 1, 1) := by decide +kernel
theorem dX4_pass_72 : decode cX4_pass 72 = .ok (.isub, 1) := by decide +kernel
theorem dX4_pass_73 : decode cX4_pass 73 = .ok (.iastore, 1) := by decide +kernel
theorem dX4_pass_74 : decode cX4_pass 74 = .ok (.aload_n 0, 1) := by decide +kernel
theorem dX4_pass_75 : decode cX4_pass 75 = .ok (.getfield 18, 3) := by decide +kernel
theorem dX4_pass_78 : decode cX4_pass 78 = .ok (.iload_n 3, 1) := by decide +kernel
theorem dX4_pass_79 : decode cX4_pass 79 = .ok (.iaload, 1) := by decide +kernel
theorem dX4_pass_80 : decode cX4_pass 80 = .ok (.ifCond .ne 13, 3) := by decide +kernel
theorem dX4_pass_83 : decode cX4_pass 83 = .ok (.aload_n 0, 1) := by decide +kernel
theorem dX4_pass_84 : decode cX4_pass 84 = .ok (.getfield 15, 3) := by decide +kernel
theorem dX4_pass_87 : decode cX4_pass 87 = .ok (.iload_n 3, 1) := by decide +kernel
theorem dX4_pass_88 : decode cX4_pass 88 = .ok (.iconst (-1), 1) := by decide +kernel
theorem dX4_pass_89 : decode cX4_pass 89 = .ok (.iastore, 1) := by decide +kernel
theorem dX4_pass_90 : decode cX4_pass 90 = .ok (.iinc 2 1, 3) := by decide +kernel
theorem dX4_pass_93 : decode cX4_pass 93 = .ok (.iinc 3 1, 3) := by decide +kernel
theorem dX4_pass_96 : decode cX4_pass 96 = .ok (.goto (-45), 3) := by decide +kernel
theorem dX4_pass_99 : decode cX4_pass 99 = .ok (.aload_n 0, 1) := by decide +kernel
theorem dX4_pass_100 : decode cX4_pass 100 = .ok (.dup, 1) := by decide +kernel
theorem dX4_pass_101 : decode cX4_pass 101 = .ok (.getfield 30, 3) := by decide +kernel
theorem dX4_pass_104 : decode cX4_pass 104 = .ok (.iconst 1, 1) := by decide +kernel
theorem dX4_pass_105 : decode cX4_pass 105 = .ok (.iadd, 1) := by decide +kernel
theorem dX4_pass_106 : decode cX4_pass 106 = .ok (.putfield 30, 3) := by decide +kernel
theorem dX4_pass_109 : decode cX4_pass 109 = .ok (.iload_n 2, 1) := by decide +kernel
theorem dX4_pass_110 : decode cX4_pass 110 = .ok (.ireturn, 1) := by decide +kernel
theorem dX4_sootOfAll_0 : decode cX4_sootOfAll 0 = .ok (.iconst 0, 1) := by decide +kernel
theorem dX4_sootOfAll_1 : decode cX4_sootOfAll 1 = .ok (.istore_n 1, 1) := by decide +kernel
theorem dX4_sootOfAll_2 : decode cX4_sootOfAll 2 = .ok (.iconst 0, 1) := by decide +kernel
theorem dX4_sootOfAll_3 : decode cX4_sootOfAll 3 = .ok (.istore_n 2, 1) := by decide +kernel
theorem dX4_sootOfAll_4 : decode cX4_sootOfAll 4 = .ok (.iload_n 2, 1) := by decide +kernel
theorem dX4_sootOfAll_5 : decode cX4_sootOfAll 5 = .ok (.iconst 3, 1) := by decide +kernel
theorem dX4_sootOfAll_6 : decode cX4_sootOfAll 6 = .ok (.if_icmp .ge 18, 3) := by decide +kernel
theorem dX4_sootOfAll_9 : decode cX4_sootOfAll 9 = .ok (.iload_n 1, 1) := by decide +kernel
theorem dX4_sootOfAll_10 : decode cX4_sootOfAll 10 = .ok (.aload_n 0, 1) := by decide +kernel
theorem dX4_sootOfAll_11 : decode cX4_sootOfAll 11 = .ok (.getfield 21, 3) := by decide +kernel
theorem dX4_sootOfAll_14 : decode cX4_sootOfAll 14 = .ok (.iload_n 2, 1) := by decide +kernel
theorem dX4_sootOfAll_15 : decode cX4_sootOfAll 15 = .ok (.iaload, 1) := by decide +kernel
theorem dX4_sootOfAll_16 : decode cX4_sootOfAll 16 = .ok (.iadd, 1) := by decide +kernel
theorem dX4_sootOfAll_17 : decode cX4_sootOfAll 17 = .ok (.istore_n 1, 1) := by decide +kernel
theorem dX4_sootOfAll_18 : decode cX4_sootOfAll 18 = .ok (.iinc 2 1, 3) := by decide +kernel
theorem dX4_sootOfAll_21 : decode cX4_sootOfAll 21 = .ok (.goto (-17), 3) := by decide +kernel
theorem dX4_sootOfAll_24 : decode cX4_sootOfAll 24 = .ok (.iload_n 1, 1) := by decide +kernel
theorem dX4_sootOfAll_25 : decode cX4_sootOfAll 25 = .ok (.ireturn, 1) := by decide +kernel
theorem dX4_stockOfAll_0 : decode cX4_stockOfAll 0 = .ok (.iconst 0, 1) := by decide +kernel
theorem dX4_stockOfAll_1 : decode cX4_stockOfAll 1 = .ok (.istore_n 1, 1) := by decide +kernel
theorem dX4_stockOfAll_2 : decode cX4_stockOfAll 2 = .ok (.iconst 0, 1) := by decide +kernel
theorem dX4_stockOfAll_3 : decode cX4_stockOfAll 3 = .ok (.istore_n 2, 1) := by decide +kernel
theorem dX4_stockOfAll_4 : decode cX4_stockOfAll 4 = .ok (.iload_n 2, 1) := by decide +kernel
theorem dX4_stockOfAll_5 : decode cX4_stockOfAll 5 = .ok (.aload_n 0, 1) := by decide +kernel
theorem dX4_stockOfAll_6 : decode cX4_stockOfAll 6 = .ok (.getfield 9, 3) := by decide +kernel
theorem dX4_stockOfAll_9 : decode cX4_stockOfAll 9 = .ok (.arraylength, 1) := by decide +kernel
theorem dX4_stockOfAll_10 : decode cX4_stockOfAll 10 = .ok (.if_icmp .ge 18, 3) := by decide +kernel
theorem dX4_stockOfAll_13 : decode cX4_stockOfAll 13 = .ok (.iload_n 1, 1) := by decide +kernel
theorem dX4_stockOfAll_14 : decode cX4_stockOfAll 14 = .ok (.aload_n 0, 1) := by decide +kernel
theorem dX4_stockOfAll_15 : decode cX4_stockOfAll 15 = .ok (.getfield 9, 3) := by decide +kernel
theorem dX4_stockOfAll_18 : decode cX4_stockOfAll 18 = .ok (.iload_n 2, 1) := by decide +kernel
theorem dX4_stockOfAll_19 : decode cX4_stockOfAll 19 = .ok (.iaload, 1) := by decide +kernel
theorem dX4_stockOfAll_20 : decode cX4_stockOfAll 20 = .ok (.iadd, 1) := by decide +kernel
theorem dX4_stockOfAll_21 : decode cX4_stockOfAll 21 = .ok (.istore_n 1, 1) := by decide +kernel
theorem dX4_stockOfAll_22 : decode cX4_stockOfAll 22 = .ok (.iinc 2 1, 3) := by decide +kernel
theorem dX4_stockOfAll_25 : decode cX4_stockOfAll 25 = .ok (.goto (-21), 3) := by decide +kernel
theorem dX4_stockOfAll_28 : decode cX4_stockOfAll 28 = .ok (.iload_n 1, 1) := by decide +kernel
theorem dX4_stockOfAll_29 : decode cX4_stockOfAll 29 = .ok (.ireturn, 1) := by decide +kernel
theorem dX5_init_0 : decode cX5_init 0 = .ok (.aload_n 0, 1) := by decide +kernel
theorem dX5_init_1 : decode cX5_init 1 = .ok (.invokespecial 3, 3) := by decide +kernel
theorem dX5_init_4 : decode cX5_init 4 = .ok (.aload_n 0, 1) := by decide +kernel
theorem dX5_init_5 : decode cX5_init 5 = .ok (.sipush 1000, 3) := by decide +kernel
theorem dX5_init_8 : decode cX5_init 8 = .ok (.newarray .char, 2) := by decide +kernel
theorem dX5_init_10 : decode cX5_init 10 = .ok (.putfield 11, 3) := by decide +kernel
theorem dX5_init_13 : decode cX5_init 13 = .ok (.return_, 1) := by decide +kernel
theorem dX5_add_0 : decode cX5_add 0 = .ok (.bipush 56, 2) := by decide +kernel
theorem dX5_add_2 : decode cX5_add 2 = .ok (.istore_n 3, 1) := by decide +kernel
theorem dX5_add_3 : decode cX5_add 3 = .ok (.iload_n 3, 1) := by decide +kernel
theorem dX5_add_4 : decode cX5_add 4 = .ok (.ifCond .lt 72, 3) := by decide +kernel
theorem dX5_add_7 : decode cX5_add 7 = .ok (.lload_n 1, 1) := by decide +kernel
theorem dX5_add_8 : decode cX5_add 8 = .ok (.iload_n 3, 1) := by decide +kernel
theorem dX5_add_9 : decode cX5_add 9 = .ok (.lushr, 1) := by decide +kernel
theorem dX5_add_10 : decode cX5_add 10 = .ok (.l2i, 1) := by decide +kernel
theorem dX5_add_11 : decode cX5_add 11 = .ok (.sipush 255, 3) := by decide +kernel
theorem dX5_add_14 : decode cX5_add 14 = .ok (.iand, 1) := by decide +kernel
theorem dX5_add_15 : decode cX5_add 15 = .ok (.istore 4, 2) := by decide +kernel
theorem dX5_add_17 : decode cX5_add 17 = .ok (.iload 4, 2) := by decide +kernel
theorem dX5_add_19 : decode cX5_add 19 = .ok (.bipush 10, 2) := by decide +kernel
theorem dX5_add_21 : decode cX5_add 21 = .ok (.if_icmp .eq 17, 3) := by decide +kernel
theorem dX5_add_24 : decode cX5_add 24 = .ok (.iload 4, 2) := by decide +kernel
theorem dX5_add_26 : decode cX5_add 26 = .ok (.bipush 32, 2) := by decide +kernel
theorem dX5_add_28 : decode cX5_add 28 = .ok (.if_icmp .lt 42, 3) := by decide +kernel
theorem dX5_add_31 : decode cX5_add 31 = .ok (.iload 4, 2) := by decide +kernel
theorem dX5_add_33 : decode cX5_add 33 = .ok (.bipush 126, 2) := by decide +kernel
theorem dX5_add_35 : decode cX5_add 35 = .ok (.if_icmp .gt 35, 3) := by decide +kernel
theorem dX5_add_38 : decode cX5_add 38 = .ok (.aload_n 0, 1) := by decide +kernel
theorem dX5_add_39 : decode cX5_add 39 = .ok (.getfield 15, 3) := by decide +kernel
theorem dX5_add_42 : decode cX5_add 42 = .ok (.sipush 1000, 3) := by decide +kernel
theorem dX5_add_45 : decode cX5_add 45 = .ok (.if_icmp .ge 25, 3) := by decide +kernel
theorem dX5_add_48 : decode cX5_add 48 = .ok (.aload_n 0, 1) := by decide +kernel
theorem dX5_add_49 : decode cX5_add 49 = .ok (.getfield 11, 3) := by decide +kernel
theorem dX5_add_52 : decode cX5_add 52 = .ok (.aload_n 0, 1) := by decide +kernel
theorem dX5_add_53 : decode cX5_add 53 = .ok (.getfield 15, 3) := by decide +kernel
theorem dX5_add_56 : decode cX5_add 56 = .ok (.iload 4, 2) := by decide +kernel
theorem dX5_add_58 : decode cX5_add 58 = .ok (.i2c, 1) := by decide +kernel
theorem dX5_add_59 : decode cX5_add 59 = .ok (.castore, 1) := by decide +kernel
theorem dX5_add_60 : decode cX5_add 60 = .ok (.aload_n 0, 1) := by decide +kernel
theorem dX5_add_61 : decode cX5_add 61 = .ok (.dup, 1) := by decide +kernel
theorem dX5_add_62 : decode cX5_add 62 = .ok (.getfield 15, 3) := by decide +kernel
theorem dX5_add_65 : decode cX5_add 65 = .ok (.iconst 1, 1) := by decide +kernel
theorem dX5_add_66 : decode cX5_add 66 = .ok (.iadd, 1) := by decide +kernel
theorem dX5_add_67 : decode cX5_add 67 = .ok (.putfield 15, 3) := by decide +kernel
theorem dX5_add_70 : decode cX5_add 70 = .ok (.iinc 3 (-8), 3) := by decide +kernel
theorem dX5_add_73 : decode cX5_add 73 = .ok (.goto (-70), 3) := by decide +kernel
theorem dX5_add_76 : decode cX5_add 76 = .ok (.return_, 1) := by decide +kernel
theorem dX5_open_0 : decode cX5_open 0 = .ok (.aload_n 0, 1) := by decide +kernel
theorem dX5_open_1 : decode cX5_open 1 = .ok (.iconst 0, 1) := by decide +kernel
theorem dX5_open_2 : decode cX5_open 2 = .ok (.putfield 19, 3) := by decide +kernel
theorem dX5_open_5 : decode cX5_open 5 = .ok (.aload_n 0, 1) := by decide +kernel
theorem dX5_open_6 : decode cX5_open 6 = .ok (.iconst 0, 1) := by decide +kernel
theorem dX5_open_7 : decode cX5_open 7 = .ok (.putfield 22, 3) := by decide +kernel
theorem dX5_open_10 : decode cX5_open 10 = .ok (.aload_n 0, 1) := by decide +kernel
theorem dX5_open_11 : decode cX5_open 11 = .ok (.invokevirtual 25, 3) := by decide +kernel
theorem dX5_open_14 : decode cX5_open 14 = .ok (.return_, 1) := by decide +kernel
theorem dX5_close_0 : decode cX5_close 0 = .ok (.aload_n 0, 1) := by decide +kernel
theorem dX5_close_1 : decode cX5_close 1 = .ok (.iconst 0, 1) := by decide +kernel
theorem dX5_close_2 : decode cX5_close 2 = .ok (.putfield 15, 3) := by decide +kernel
theorem dX5_close_5 : decode cX5_close 5 = .ok (.aload_n 0, 1) := by decide +kernel
theorem dX5_close_6 : decode cX5_close 6 = .ok (.getfield 22, 3) := by decide +kernel
theorem dX5_close_9 : decode cX5_close 9 = .ok (.ireturn, 1) := by decide +kernel
theorem dX5_fail_0 : decode cX5_fail 0 = .ok (.aload_n 0, 1) := by decide +kernel
theorem dX5_fail_1 : decode cX5_fail 1 = .ok (.getfield 22, 3) := by decide +kernel
theorem dX5_fail_4 : decode cX5_fail 4 = .ok (.ifCond .ne 16, 3) := by decide +kernel
theorem dX5_fail_7 : decode cX5_fail 7 = .ok (.aload_n 0, 1) := by decide +kernel
theorem dX5_fail_8 : decode cX5_fail 8 = .ok (.iload_n 1, 1) := by decide +kernel
theorem dX5_fail_9 : decode cX5_fail 9 = .ok (.bipush 16, 2) := by decide +kernel
theorem dX5_fail_11 : decode cX5_fail 11 = .ok (.aload_n 0, 1) := by decide +kernel
theorem dX5_fail_12 : decode cX5_fail 12 = .ok (.getfield 28, 3) := by decide +kernel
theorem dX5_fail_15 : decode cX5_fail 15 = .ok (.imul, 1) := by decide +kernel
theorem dX5_fail_16 : decode cX5_fail 16 = .ok (.iadd, 1) := by decide +kernel
theorem dX5_fail_17 : decode cX5_fail 17 = .ok (.putfield 22, 3) := by decide +kernel
theorem dX5_fail_20 : decode cX5_fail 20 = .ok (.return_, 1) := by decide +kernel
theorem dX5_isSound_0 : decode cX5_isSound 0 = .ok (.aload_n 0, 1) := by decide +kernel
theorem dX5_isSound_1 : decode cX5_isSound 1 = .ok (.getfield 22, 3) := by decide +kernel
theorem dX5_isSound_4 : decode cX5_isSound 4 = .ok (.ifCond .ne 7, 3) := by decide +kernel
theorem dX5_isSound_7 : decode cX5_isSound 7 = .ok (.iconst 1, 1) := by decide +kernel
theorem dX5_isSound_8 : decode cX5_isSound 8 = .ok (.goto 4, 3) := by decide +kernel
theorem dX5_isSound_11 : decode cX5_isSound 11 = .ok (.iconst 0, 1) := by decide +kernel
theorem dX5_isSound_12 : decode cX5_isSound 12 = .ok (.ireturn, 1) := by decide +kernel
theorem dX5_isOver_0 : decode cX5_isOver 0 = .ok (.aload_n 0, 1) := by decide +kernel
theorem dX5_isOver_1 : decode cX5_isOver 1 = .ok (.getfield 22, 3) := by decide +kernel
theorem dX5_isOver_4 : decode cX5_isOver 4 = .ok (.ifCond .ne 11, 3) := by decide +kernel
theorem dX5_isOver_7 : decode cX5_isOver 7 = .ok (.aload_n 0, 1) := by decide +kernel
theorem dX5_isOver_8 : decode cX5_isOver 8 = .ok (.getfield 31, 3) := by decide +kernel
theorem dX5_isOver_11 : decode cX5_isOver 11 = .ok (.iconst 1, 1) := by decide +kernel
theorem dX5_isOver_12 : decode cX5_isOver 12 = .ok (.if_icmp .ne 7, 3) := by decide +kernel
theorem dX5_isOver_15 : decode cX5_isOver 15 = .ok (.iconst 1, 1) := by decide +kernel
theorem dX5_isOver_16 : decode cX5_isOver 16 = .ok (.goto 4, 3) := by decide +kernel
theorem dX5_isOver_19 : decode cX5_isOver 19 = .ok (.iconst 0, 1) := by decide +kernel
theorem dX5_isOver_20 : decode cX5_isOver 20 = .ok (.ireturn, 1) := by decide +kernel
theorem dX5_isAt_0 : decode cX5_isAt 0 = .ok (.aload_n 0, 1) := by decide +kernel
theorem dX5_isAt_1 : decode cX5_isAt 1 = .ok (.getfield 22, 3) := by decide +kernel
theorem dX5_isAt_4 : decode cX5_isAt 4 = .ok (.ifCond .ne 23, 3) := by decide +kernel
theorem dX5_isAt_7 : decode cX5_isAt 7 = .ok (.aload_n 0, 1) := by decide +kernel
theorem dX5_isAt_8 : decode cX5_isAt 8 = .ok (.getfield 31, 3) := by decide +kernel
theorem dX5_isAt_11 : decode cX5_isAt 11 = .ok (.iconst 2, 1) := by decide +kernel
theorem dX5_isAt_12 : decode cX5_isAt 12 = .ok (.if_icmp .ne 15, 3) := by decide +kernel
theorem dX5_isAt_15 : decode cX5_isAt 15 = .ok (.aload_n 0, 1) := by decide +kernel
theorem dX5_isAt_16 : decode cX5_isAt 16 = .ok (.getfield 34, 3) := by decide +kernel
theorem dX5_isAt_19 : decode cX5_isAt 19 = .ok (.aload_n 1, 1) := by decide +kernel
theorem dX5_isAt_20 : decode cX5_isAt 20 = .ok (.if_acmp .ne 7, 3) := by decide +kernel
theorem dX5_isAt_23 : decode cX5_isAt 23 = .ok (.iconst 1, 1) := by decide +kernel
theorem dX5_isAt_24 : decode cX5_isAt 24 = .ok (.goto 4, 3) := by decide +kernel
theorem dX5_isAt_27 : decode cX5_isAt 27 = .ok (.iconst 0, 1) := by decide +kernel
theorem dX5_isAt_28 : decode cX5_isAt 28 = .ok (.ireturn, 1) := by decide +kernel
theorem dX5_isAtSign_0 : decode cX5_isAtSign 0 = .ok (.aload_n 0, 1) := by decide +kernel
theorem dX5_isAtSign_1 : decode cX5_isAtSign 1 = .ok (.getfield 22, 3) := by decide +kernel
theorem dX5_isAtSign_4 : decode cX5_isAtSign 4 = .ok (.ifCond .ne 15, 3) := by decide +kernel
theorem dX5_isAtSign_7 : decode cX5_isAtSign 7 = .ok (.aload_n 0, 1) := by decide +kernel
theorem dX5_isAtSign_8 : decode cX5_isAtSign 8 = .ok (.getfield 31, 3) := by decide +kernel
theorem dX5_isAtSign_11 : decode cX5_isAtSign 11 = .ok (.iload_n 1, 1) := by decide +kernel
theorem dX5_isAtSign_12 : decode cX5_isAtSign 12 = .ok (.if_icmp .ne 7, 3) := by decide +kernel
theorem dX5_isAtSign_15 : decode cX5_isAtSign 15 = .ok (.iconst 1, 1) := by decide +kernel
theorem dX5_isAtSign_16 : decode cX5_isAtSign 16 = .ok (.goto 4, 3) := by decide +kernel
theorem dX5_isAtSign_19 : decode cX5_isAtSign 19 = .ok (.iconst 0, 1) := by decide +kernel
theorem dX5_isAtSign_20 : decode cX5_isAtSign 20 = .ok (.ireturn, 1) := by decide +kernel
theorem dX5_isAtNumber_0 : decode cX5_isAtNumber 0 = .ok (.aload_n 0, 1) := by decide +kernel
theorem dX5_isAtNumber_1 : decode cX5_isAtNumber 1 = .ok (.getfield 22, 3) := by decide +kernel
theorem dX5_isAtNumber_4 : decode cX5_isAtNumber 4 = .ok (.ifCond .ne 15, 3) := by decide +kernel
theorem dX5_isAtNumber_7 : decode cX5_isAtNumber 7 = .ok (.aload_n 0, 1) := by decide +kernel
theorem dX5_isAtNumber_8 : decode cX5_isAtNumber 8 = .ok (.getfield 31, 3) := by decide +kernel
theorem dX5_isAtNumber_11 : decode cX5_isAtNumber 11 = .ok (.iconst 3, 1) := by decide +kernel
theorem dX5_isAtNumber_12 : decode cX5_isAtNumber 12 = .ok (.if_icmp .ne 7, 3) := by decide +kernel
theorem dX5_isAtNumber_15 : decode cX5_isAtNumber 15 = .ok (.iconst 1, 1) := by decide +kernel
theorem dX5_isAtNumber_16 : decode cX5_isAtNumber 16 = .ok (.goto 4, 3) := by decide +kernel
theorem dX5_isAtNumber_19 : decode cX5_isAtNumber 19 = .ok (.iconst 0, 1) := by decide +kernel
theorem dX5_isAtNumber_20 : decode cX5_isAtNumber 20 = .ok (.ireturn, 1) := by decide +kernel
theorem dX5_isAtName_0 : decode cX5_isAtName 0 = .ok (.aload_n 0, 1) := by decide +kernel
theorem dX5_isAtName_1 : decode cX5_isAtName 1 = .ok (.getfield 22, 3) := by decide +kernel
theorem dX5_isAtName_4 : decode cX5_isAtName 4 = .ok (.ifCond .ne 32, 3) := by decide +kernel
theorem dX5_isAtName_7 : decode cX5_isAtName 7 = .ok (.aload_n 0, 1) := by decide +kernel
theorem dX5_isAtName_8 : decode cX5_isAtName 8 = .ok (.getfield 31, 3) := by decide +kernel
theorem dX5_isAtName_11 : decode cX5_isAtName 11 = .ok (.iconst 2, 1) := by decide +kernel
theorem dX5_isAtName_12 : decode cX5_isAtName 12 = .ok (.if_icmp .ne 24, 3) := by decide +kernel
theorem dX5_isAtName_15 : decode cX5_isAtName 15 = .ok (.aload_n 0, 1) := by decide +kernel
theorem dX5_isAtName_16 : decode cX5_isAtName 16 = .ok (.getfield 34, 3) := by decide +kernel
theorem dX5_isAtName_19 : decode cX5_isAtName 19 = .ok (.ifnull 13, 3) := by decide +kernel
theorem dX5_isAtName_22 : decode cX5_isAtName 22 = .ok (.aload_n 0, 1) := by decide +kernel
theorem dX5_isAtName_23 : decode cX5_isAtName 23 = .ok (.getfield 34, 3) := by decide +kernel
theorem dX5_isAtName_26 : decode cX5_isAtName 26 = .ok (.getfield 38, 3) := by decide +kernel
theorem dX5_isAtName_29 : decode cX5_isAtName 29 = .ok (.ifCond .ne 7, 3) := by decide +kernel
theorem dX5_isAtName_32 : decode cX5_isAtName 32 = .ok (.iconst 1, 1) := by decide +kernel
theorem dX5_isAtName_33 : decode cX5_isAtName 33 = .ok (.goto 4, 3) := by decide +kernel
theorem dX5_isAtName_36 : decode cX5_isAtName 36 = .ok (.iconst 0, 1) := by decide +kernel
theorem dX5_isAtName_37 : decode cX5_isAtName 37 = .ok (.ireturn, 1) := by decide +kernel
theorem dX5_expect_0 : decode cX5_expect 0 = .ok (.aload_n 0, 1) := by decide +kernel
theorem dX5_expect_1 : decode cX5_expect 1 = .ok (.aload_n 1, 1) := by decide +kernel
theorem dX5_expect_2 : decode cX5_expect 2 = .ok (.invokevirtual 44, 3) := by decide +kernel
theorem dX5_expect_5 : decode cX5_expect 5 = .ok (.ifCond .ne 8, 3) := by decide +kernel
theorem dX5_expect_8 : decode cX5_expect 8 = .ok (.aload_n 0, 1) := by decide +kernel
theorem dX5_expect_9 : decode cX5_expect 9 = .ok (.iconst 1, 1) := by decide +kernel
theorem dX5_expect_10 : decode cX5_expect 10 = .ok (.invokevirtual 48, 3) := by decide +kernel
theorem dX5_expect_13 : decode cX5_expect 13 = .ok (.aload_n 0, 1) := by decide +kernel
theorem dX5_expect_14 : decode cX5_expect 14 = .ok (.invokevirtual 25, 3) := by decide +kernel
theorem dX5_expect_17 : decode cX5_expect 17 = .ok (.return_, 1) := by decide +kernel
theorem dX5_expectSign_0 : decode cX5_expectSign 0 = .ok (.aload_n 0, 1) := by decide +kernel
theorem dX5_expectSign_1 : decode cX5_expectSign 1 = .ok (.iload_n 1, 1) := by decide +kernel
theorem dX5_expectSign_2 : decode cX5_expectSign 2 = .ok (.invokevirtual 52, 3) := by decide +kernel
theorem dX5_expectSign_5 : decode cX5_expectSign 5 = .ok (.ifCond .ne 8, 3) := by decide +kernel
theorem dX5_expectSign_8 : decode cX5_expectSign 8 = .ok (.aload_n 0, 1) := by decide +kernel
theorem dX5_expectSign_9 : decode cX5_expectSign 9 = .ok (.iconst 1, 1) := by decide +kernel
theorem dX5_expectSign_10 : decode cX5_expectSign 10 = .ok (.invokevirtual 48, 3) := by decide +kernel
theorem dX5_expectSign_13 : decode cX5_expectSign 13 = .ok (.aload_n 0, 1) := by decide +kernel
theorem dX5_expectSign_14 : decode cX5_expectSign 14 = .ok (.invokevirtual 25, 3) := by decide +kernel
theorem dX5_expectSign_17 : decode cX5_expectSign 17 = .ok (.return_, 1) := by decide +kernel
theorem dX5_expectNumber_0 : decode cX5_expectNumber 0 = .ok (.aload_n 0, 1) := by decide +kernel
theorem dX5_expectNumber_1 : decode cX5_expectNumber 1 = .ok (.invokevirtual 56, 3) := by decide +kernel
theorem dX5_expectNumber_4 : decode cX5_expectNumber 4 = .ok (.ifCond .ne 11, 3) := by decide +kernel
theorem dX5_expectNumber_7 : decode cX5_expectNumber 7 = .ok (.aload_n 0, 1) := by decide +kernel
theorem dX5_expectNumber_8 : decode cX5_expectNumber 8 = .ok (.iconst 1, 1) := by decide +kernel
theorem dX5_expectNumber_9 : decode cX5_expectNumber 9 = .ok (.invokevirtual 48, 3) := by decide +kernel
theorem dX5_expectNumber_12 : decode cX5_expectNumber 12 = .ok (.goto 24, 3) := by decide +kernel
theorem dX5_expectNumber_15 : decode cX5_expectNumber 15 = .ok (.aload_n 0, 1) := by decide +kernel
theorem dX5_expectNumber_16 : decode cX5_expectNumber 16 = .ok (.getfield 60, 3) := by decide +kernel
theorem dX5_expectNumber_19 : decode cX5_expectNumber 19 = .ok (.iload_n 1, 1) := by decide +kernel
theorem dX5_expectNumber_20 : decode cX5_expectNumber 20 = .ok (.if_icmp .lt 11, 3) := by decide +kernel
theorem dX5_expectNumber_23 : decode cX5_expectNumber 23 = .ok (.aload_n 0, 1) := by decide +kernel
theorem dX5_expectNumber_24 : decode cX5_expectNumber 24 = .ok (.getfield 60, 3) := by decide +kernel
theorem dX5_expectNumber_27 : decode cX5_expectNumber 27 = .ok (.iload_n 2, 1) := by decide +kernel
theorem dX5_expectNumber_28 : decode cX5_expectNumber 28 = .ok (.if_icmp .le 8, 3) := by decide +kernel
theorem dX5_expectNumber_31 : decode cX5_expectNumber 31 = .ok (.aload_n 0, 1) := by decide +kernel
theorem dX5_expectNumber_32 : decode cX5_expectNumber 32 = .ok (.iconst 4, 1) := by decide +kernel
theorem dX5_expectNumber_33 : decode cX5_expectNumber 33 = .ok (.invokevirtual 48, 3) := by decide +kernel
theorem dX5_expectNumber_36 : decode cX5_expectNumber 36 = .ok (.aload_n 0, 1) := by decide +kernel
theorem dX5_expectNumber_37 : decode cX5_expectNumber 37 = .ok (.getfield 60, 3) := by decide +kernel
theorem dX5_expectNumber_40 : decode cX5_expectNumber 40 = .ok (.istore_n 3, 1) := by decide +kernel
theorem dX5_expectNumber_41 : decode cX5_expectNumber 41 = .ok (.aload_n 0, 1) := by decide +kernel
theorem dX5_expectNumber_42 : decode cX5_expectNumber 42 = .ok (.invokevirtual 25, 3) := by decide +kernel
theorem dX5_expectNumber_45 : decode cX5_expectNumber 45 = .ok (.iload_n 3, 1) := by decide +kernel
theorem dX5_expectNumber_46 : decode cX5_expectNumber 46 = .ok (.ireturn, 1) := by decide +kernel
theorem dX5_toldHere_0 : decode cX5_toldHere 0 = .ok (.aload_n 0, 1) := by decide +kernel
theorem dX5_toldHere_1 : decode cX5_toldHere 1 = .ok (.invokevirtual 63, 3) := by decide +kernel
theorem dX5_toldHere_4 : decode cX5_toldHere 4 = .ok (.ifCond .ne 10, 3) := by decide +kernel
theorem dX5_toldHere_7 : decode cX5_toldHere 7 = .ok (.aload_n 0, 1) := by decide +kernel
theorem dX5_toldHere_8 : decode cX5_toldHere 8 = .ok (.iconst 1, 1) := by decide +kernel
theorem dX5_toldHere_9 : decode cX5_toldHere 9 = .ok (.invokevirtual 48, 3) := by decide +kernel
theorem dX5_toldHere_12 : decode cX5_toldHere 12 = .ok (.iconst (-1), 1) := by decide +kernel
theorem dX5_toldHere_13 : decode cX5_toldHere 13 = .ok (.ireturn, 1) := by decide +kernel
theorem dX5_toldHere_14 : decode cX5_toldHere 14 = .ok (.aload_n 1, 1) := by decide +kernel
theorem dX5_toldHere_15 : decode cX5_toldHere 15 = .ok (.iload_n 2, 1) := by decide +kernel
theorem dX5_toldHere_16 : decode cX5_toldHere 16 = .ok (.aload_n 0, 1) := by decide +kernel
theorem dX5_toldHere_17 : decode cX5_toldHere 17 = .ok (.getfield 66, 3) := by decide +kernel
theorem dX5_toldHere_20 : decode cX5_toldHere 20 = .ok (.invokevirtual 70, 3) := by decide +kernel
theorem dX5_toldHere_23 : decode cX5_toldHere 23 = .ok (.istore_n 3, 1) := by decide +kernel
theorem dX5_toldHere_24 : decode cX5_toldHere 24 = .ok (.iload_n 3, 1) := by decide +kernel
theorem dX5_toldHere_25 : decode cX5_toldHere 25 = .ok (.iconst (-1), 1) := by decide +kernel
theorem dX5_toldHere_26 : decode cX5_toldHere 26 = .ok (.if_icmp .ne 8, 3) := by decide +kernel
theorem dX5_toldHere_29 : decode cX5_toldHere 29 = .ok (.aload_n 0, 1) := by decide +kernel
theorem dX5_toldHere_30 : decode cX5_toldHere 30 = .ok (.iconst 2, 1) := by decide +kernel
theorem dX5_toldHere_31 : decode cX5_toldHere 31 = .ok (.invokevirtual 48, 3) := by decide +kernel
theorem dX5_toldHere_34 : decode cX5_toldHere 34 = .ok (.iload_n 3, 1) := by decide +kernel
theorem dX5_toldHere_35 : decode cX5_toldHere 35 = .ok (.ireturn, 1) := by decide +kernel
theorem dX5_step_0 : decode cX5_step 0 = .ok (.aload_n 0, 1) := by decide +kernel
theorem dX5_step_1 : decode cX5_step 1 = .ok (.getfield 22, 3) := by decide +kernel
theorem dX5_step_4 : decode cX5_step 4 = .ok (.ifCond .eq 4, 3) := by decide +kernel
theorem dX5_step_7 : decode cX5_step 7 = .ok (.return_, 1) := by decide +kernel
theorem dX5_step_8 : decode cX5_step 8 = .ok (.aload_n 0, 1) := by decide +kernel
theorem dX5_step_9 : decode cX5_step 9 = .ok (.getfield 19, 3) := by decide +kernel
theorem dX5_step_12 : decode cX5_step 12 = .ok (.aload_n 0, 1) := by decide +kernel
theorem dX5_step_13 : decode cX5_step 13 = .ok (.getfield 15, 3) := by decide +kernel
theorem dX5_step_16 : decode cX5_step 16 = .ok (.if_icmp .ge 44, 3) := by decide +kernel
theorem dX5_step_19 : decode cX5_step 19 = .ok (.aload_n 0, 1) := by decide +kernel
theorem dX5_step_20 : decode cX5_step 20 = .ok (.getfield 11, 3) := by decide +kernel
theorem dX5_step_23 : decode cX5_step 23 = .ok (.aload_n 0, 1) := by decide +kernel
theorem dX5_step_24 : decode cX5_step 24 = .ok (.getfield 19, 3) := by decide +kernel
theorem dX5_step_27 : decode cX5_step 27 = .ok (.caload, 1) := by decide +kernel
theorem dX5_step_28 : decode cX5_step 28 = .ok (.bipush 32, 2) := by decide +kernel
theorem dX5_step_30 : decode cX5_step 30 = .ok (.if_icmp .eq 17, 3) := by decide +kernel
theorem dX5_step_33 : decode cX5_step 33 = .ok (.aload_n 0, 1) := by decide +kernel
theorem dX5_step_34 : decode cX5_step 34 = .ok (.getfield 11, 3) := by decide +kernel
theorem dX5_step_37 : decode cX5_step 37 = .ok (.aload_n 0, 1) := by decide +kernel
theorem dX5_step_38 : decode cX5_step 38 = .ok (.getfield 19, 3) := by decide +kernel
theorem dX5_step_41 : decode cX5_step 41 = .ok (.caload, 1) := by decide +kernel
theorem dX5_step_42 : decode cX5_step 42 = .ok (.bipush 10, 2) := by decide +kernel
theorem dX5_step_44 : decode cX5_step 44 = .ok (.if_icmp .ne 16, 3) := by decide +kernel
theorem dX5_step_47 : decode cX5_step 47 = .ok (.aload_n 0, 1) := by decide +kernel
theorem dX5_step_48 : decode cX5_step 48 = .ok (.dup, 1) := by decide +kernel
theorem dX5_step_49 : decode cX5_step 49 = .ok (.getfield 19, 3) := by decide +kernel
theorem dX5_step_52 : decode cX5_step 52 = .ok (.iconst 1, 1) := by decide +kernel
theorem dX5_step_53 : decode cX5_step 53 = .ok (.iadd, 1) := by decide +kernel
theorem dX5_step_54 : decode cX5_step 54 = .ok (.putfield 19, 3) := by decide +kernel
theorem dX5_step_57 : decode cX5_step 57 = .ok (.goto (-49), 3) := by decide +kernel
theorem dX5_step_60 : decode cX5_step 60 = .ok (.aload_n 0, 1) := by decide +kernel
theorem dX5_step_61 : decode cX5_step 61 = .ok (.aload_n 0, 1) := by decide +kernel
theorem dX5_step_62 : decode cX5_step 62 = .ok (.getfield 19, 3) := by decide +kernel
theorem dX5_step_65 : decode cX5_step 65 = .ok (.putfield 28, 3) := by decide +kernel
theorem dX5_step_68 : decode cX5_step 68 = .ok (.aload_n 0, 1) := by decide +kernel
theorem dX5_step_69 : decode cX5_step 69 = .ok (.aconst_null, 1) := by decide +kernel
theorem dX5_step_70 : decode cX5_step 70 = .ok (.putfield 34, 3) := by decide +kernel
theorem dX5_step_73 : decode cX5_step 73 = .ok (.aload_n 0, 1) := by decide +kernel
theorem dX5_step_74 : decode cX5_step 74 = .ok (.getfield 19, 3) := by decide +kernel
theorem dX5_step_77 : decode cX5_step 77 = .ok (.aload_n 0, 1) := by decide +kernel
theorem dX5_step_78 : decode cX5_step 78 = .ok (.getfield 15, 3) := by decide +kernel
theorem dX5_step_81 : decode cX5_step 81 = .ok (.if_icmp .lt 11, 3) := by decide +kernel
theorem dX5_step_84 : decode cX5_step 84 = .ok (.aload_n 0, 1) := by decide +kernel
theorem dX5_step_85 : decode cX5_step 85 = .ok (.iconst 1, 1) := by decide +kernel
theorem dX5_step_86 : decode cX5_step 86 = .ok (.putfield 31, 3) := by decide +kernel
theorem dX5_step_89 : decode cX5_step 89 = .ok (.goto 91, 3) := by decide +kernel
theorem dX5_step_92 : decode cX5_step 92 = .ok (.aload_n 0, 1) := by decide +kernel
theorem dX5_step_93 : decode cX5_step 93 = .ok (.getfield 11, 3) := by decide +kernel
theorem dX5_step_96 : decode cX5_step 96 = .ok (.aload_n 0, 1) := by decide +kernel
theorem dX5_step_97 : decode cX5_step 97 = .ok (.getfield 19, 3) := by decide +kernel
theorem dX5_step_100 : decode cX5_step 100 = .ok (.caload, 1) := by decide +kernel
theorem dX5_step_101 : decode cX5_step 101 = .ok (.invokestatic 76, 3) := by decide +kernel
theorem dX5_step_104 : decode cX5_step 104 = .ok (.ifCond .eq 10, 3) := by decide +kernel
theorem dX5_step_107 : decode cX5_step 107 = .ok (.aload_n 0, 1) := by decide +kernel
theorem dX5_step_108 : decode cX5_step 108 = .ok (.invokevirtual 79, 3) := by decide +kernel
theorem dX5_step_111 : decode cX5_step 111 = .ok (.goto 69, 3) := by decide +kernel
theorem dX5_step_114 : decode cX5_step 114 = .ok (.aload_n 0, 1) := by decide +kernel
theorem dX5_step_115 : decode cX5_step 115 = .ok (.getfield 11, 3) := by decide +kernel
theorem dX5_step_118 : decode cX5_step 118 = .ok (.aload_n 0, 1) := by decide +kernel
theorem dX5_step_119 : decode cX5_step 119 = .ok (.getfield 19, 3) := by decide +kernel
theorem dX5_step_122 : decode cX5_step 122 = .ok (.caload, 1) := by decide +kernel
theorem dX5_step_123 : decode cX5_step 123 = .ok (.invokestatic 82, 3) := by decide +kernel
theorem dX5_step_126 : decode cX5_step 126 = .ok (.ifCond .eq 10, 3) := by decide +kernel
theorem dX5_step_129 : decode cX5_step 129 = .ok (.aload_n 0, 1) := by decide +kernel
theorem dX5_step_130 : decode cX5_step 130 = .ok (.invokevirtual 85, 3) := by decide +kernel
theorem dX5_step_133 : decode cX5_step 133 = .ok (.goto 47, 3) := by decide +kernel
theorem dX5_step_136 : decode cX5_step 136 = .ok (.aload_n 0, 1) := by decide +kernel
theorem dX5_step_137 : decode cX5_step 137 = .ok (.ldc 88, 2) := by decide +kernel
theorem dX5_step_139 : decode cX5_step 139 = .ok (.aload_n 0, 1) := by decide +kernel
theorem dX5_step_140 : decode cX5_step 140 = .ok (.getfield 11, 3) := by decide +kernel
theorem dX5_step_143 : decode cX5_step 143 = .ok (.aload_n 0, 1) := by decide +kernel
theorem dX5_step_144 : decode cX5_step 144 = .ok (.getfield 19, 3) := by decide +kernel
theorem dX5_step_147 : decode cX5_step 147 = .ok (.caload, 1) := by decide +kernel
theorem dX5_step_148 : decode cX5_step 148 = .ok (.invokevirtual 90, 3) := by decide +kernel
theorem dX5_step_151 : decode cX5_step 151 = .ok (.ifCond .lt 15, 3) := by decide +kernel
theorem dX5_step_154 : decode cX5_step 154 = .ok (.aload_n 0, 1) := by decide +kernel
theorem dX5_step_155 : decode cX5_step 155 = .ok (.getfield 11, 3) := by decide +kernel
theorem dX5_step_158 : decode cX5_step 158 = .ok (.aload_n 0, 1) := by decide +kernel
theorem dX5_step_159 : decode cX5_step 159 = .ok (.getfield 19, 3) := by decide +kernel
theorem dX5_step_162 : decode cX5_step 162 = .ok (.caload, 1) := by decide +kernel
theorem dX5_step_163 : decode cX5_step 163 = .ok (.goto 4, 3) := by decide +kernel
theorem dX5_step_166 : decode cX5_step 166 = .ok (.iconst 0, 1) := by decide +kernel
theorem dX5_step_167 : decode cX5_step 167 = .ok (.putfield 31, 3) := by decide +kernel
theorem dX5_step_170 : decode cX5_step 170 = .ok (.aload_n 0, 1) := by decide +kernel
theorem dX5_step_171 : decode cX5_step 171 = .ok (.dup, 1) := by decide +kernel
theorem dX5_step_172 : decode cX5_step 172 = .ok (.getfield 19, 3) := by decide +kernel
theorem dX5_step_175 : decode cX5_step 175 = .ok (.iconst 1, 1) := by decide +kernel
theorem dX5_step_176 : decode cX5_step 176 = .ok (.iadd, 1) := by decide +kernel
theorem dX5_step_177 : decode cX5_step 177 = .ok (.putfield 19, 3) := by decide +kernel
theorem dX5_step_180 : decode cX5_step 180 = .ok (.return_, 1) := by decide +kernel
theorem dX5_takeWord_0 : decode cX5_takeWord 0 = .ok (.aload_n 0, 1) := by decide +kernel
theorem dX5_takeWord_1 : decode cX5_takeWord 1 = .ok (.lconst 0, 1) := by decide +kernel
theorem dX5_takeWord_2 : decode cX5_takeWord 2 = .ok (.putfield 66, 3) := by decide +kernel
theorem dX5_takeWord_5 : decode cX5_takeWord 5 = .ok (.aload_n 0, 1) := by decide +kernel
theorem dX5_takeWord_6 : decode cX5_takeWord 6 = .ok (.getfield 19, 3) := by decide +kernel
theorem dX5_takeWord_9 : decode cX5_takeWord 9 = .ok (.aload_n 0, 1) := by decide +kernel
theorem dX5_takeWord_10 : decode cX5_takeWord 10 = .ok (.getfield 15, 3) := by decide +kernel
theorem dX5_takeWord_13 : decode cX5_takeWord 13 = .ok (.if_icmp .ge 59, 3) := by decide +kernel
theorem dX5_takeWord_16 : decode cX5_takeWord 16 = .ok (.aload_n 0, 1) := by decide +kernel
theorem dX5_takeWord_17 : decode cX5_takeWord 17 = .ok (.getfield 11, 3) := by decide +kernel
theorem dX5_takeWord_20 : decode cX5_takeWord 20 = .ok (.aload_n 0, 1) := by decide +kernel
theorem dX5_takeWord_21 : decode cX5_takeWord 21 = .ok (.getfield 19, 3) := by decide +kernel
theorem dX5_takeWord_24 : decode cX5_takeWord 24 = .ok (.caload, 1) := by decide +kernel
theorem dX5_takeWord_25 : decode cX5_takeWord 25 = .ok (.invokestatic 76, 3) := by decide +kernel
theorem dX5_takeWord_28 : decode cX5_takeWord 28 = .ok (.ifCond .eq 44, 3) := by decide +kernel
theorem dX5_takeWord_31 : decode cX5_takeWord 31 = .ok (.aload_n 0, 1) := by decide +kernel
theorem dX5_takeWord_32 : decode cX5_takeWord 32 = .ok (.aload_n 0, 1) := by decide +kernel
theorem dX5_takeWord_33 : decode cX5_takeWord 33 = .ok (.getfield 66, 3) := by decide +kernel
theorem dX5_takeWord_36 : decode cX5_takeWord 36 = .ok (.ldc2_w 96, 3) := by decide +kernel
theorem dX5_takeWord_39 : decode cX5_takeWord 39 = .ok (.lmul, 1) := by decide +kernel
theorem dX5_takeWord_40 : decode cX5_takeWord 40 = .ok (.aload_n 0, 1) := by decide +kernel
theorem dX5_takeWord_41 : decode cX5_takeWord 41 = .ok (.getfield 11, 3) := by decide +kernel
theorem dX5_takeWord_44 : decode cX5_takeWord 44 = .ok (.aload_n 0, 1) := by decide +kernel
theorem dX5_takeWord_45 : decode cX5_takeWord 45 = .ok (.getfield 19, 3) := by decide +kernel
theorem dX5_takeWord_48 : decode cX5_takeWord 48 = .ok (.caload, 1) := by decide +kernel
theorem dX5_takeWord_49 : decode cX5_takeWord 49 = .ok (.bipush 97, 2) := by decide +kernel
theorem dX5_takeWord_51 : decode cX5_takeWord 51 = .ok (.isub, 1) := by decide +kernel
theorem dX5_takeWord_52 : decode cX5_takeWord 52 = .ok (.iconst 1, 1) := by decide +kernel
theorem dX5_takeWord_53 : decode cX5_takeWord 53 = .ok (.iadd, 1) := by decide +kernel
theorem dX5_takeWord_54 : decode cX5_takeWord 54 = .ok (.i2l, 1) := by decide +kernel
theorem dX5_takeWord_55 : decode cX5_takeWord 55 = .ok (.ladd, 1) := by decide +kernel
theorem dX5_takeWord_56 : decode cX5_takeWord 56 = .ok (.putfield 66, 3) := by decide +kernel
theorem dX5_takeWord_59 : decode cX5_takeWord 59 = .ok (.aload_n 0, 1) := by decide +kernel
theorem dX5_takeWord_60 : decode cX5_takeWord 60 = .ok (.dup, 1) := by decide +kernel
theorem dX5_takeWord_61 : decode cX5_takeWord 61 = .ok (.getfield 19, 3) := by decide +kernel
theorem dX5_takeWord_64 : decode cX5_takeWord 64 = .ok (.iconst 1, 1) := by decide +kernel
theorem dX5_takeWord_65 : decode cX5_takeWord 65 = .ok (.iadd, 1) := by decide +kernel
theorem dX5_takeWord_66 : decode cX5_takeWord 66 = .ok (.putfield 19, 3) := by decide +kernel
theorem dX5_takeWord_69 : decode cX5_takeWord 69 = .ok (.goto (-64), 3) := by decide +kernel
theorem dX5_takeWord_72 : decode cX5_takeWord 72 = .ok (.aload_n 0, 1) := by decide +kernel
theorem dX5_takeWord_73 : decode cX5_takeWord 73 = .ok (.getfield 19, 3) := by decide +kernel
theorem dX5_takeWord_76 : decode cX5_takeWord 76 = .ok (.aload_n 0, 1) := by decide +kernel
theorem dX5_takeWord_77 : decode cX5_takeWord 77 = .ok (.getfield 28, 3) := by decide +kernel
theorem dX5_takeWord_80 : decode cX5_takeWord 80 = .ok (.isub, 1) := by decide +kernel
theorem dX5_takeWord_81 : decode cX5_takeWord 81 = .ok (.bipush 8, 2) := by decide +kernel
theorem dX5_takeWord_83 : decode cX5_takeWord 83 = .ok (.if_icmp .le 11, 3) := by decide +kernel
theorem dX5_takeWord_86 : decode cX5_takeWord 86 = .ok (.aload_n 0, 1) := by decide +kernel
theorem dX5_takeWord_87 : decode cX5_takeWord 87 = .ok (.iconst 0, 1) := by decide +kernel
theorem dX5_takeWord_88 : decode cX5_takeWord 88 = .ok (.putfield 31, 3) := by decide +kernel
theorem dX5_takeWord_91 : decode cX5_takeWord 91 = .ok (.goto 19, 3) := by decide +kernel
theorem dX5_takeWord_94 : decode cX5_takeWord 94 = .ok (.aload_n 0, 1) := by decide +kernel
theorem dX5_takeWord_95 : decode cX5_takeWord 95 = .ok (.iconst 2, 1) := by decide +kernel
theorem dX5_takeWord_96 : decode cX5_takeWord 96 = .ok (.putfield 31, 3) := by decide +kernel
theorem dX5_takeWord_99 : decode cX5_takeWord 99 = .ok (.aload_n 0, 1) := by decide +kernel
theorem dX5_takeWord_100 : decode cX5_takeWord 100 = .ok (.aload_n 0, 1) := by decide +kernel
theorem dX5_takeWord_101 : decode cX5_takeWord 101 = .ok (.getfield 66, 3) := by decide +kernel
theorem dX5_takeWord_104 : decode cX5_takeWord 104 = .ok (.invokestatic 98, 3) := by decide +kernel
theorem dX5_takeWord_107 : decode cX5_takeWord 107 = .ok (.putfield 34, 3) := by decide +kernel
theorem dX5_takeWord_110 : decode cX5_takeWord 110 = .ok (.return_, 1) := by decide +kernel
theorem dX5_takeNumber_0 : decode cX5_takeNumber 0 = .ok (.aload_n 0, 1) := by decide +kernel
theorem dX5_takeNumber_1 : decode cX5_takeNumber 1 = .ok (.iconst 0, 1) := by decide +kernel
theorem dX5_takeNumber_2 : decode cX5_takeNumber 2 = .ok (.putfield 60, 3) := by decide +kernel
theorem dX5_takeNumber_5 : decode cX5_takeNumber 5 = .ok (.aload_n 0, 1) := by decide +kernel
theorem dX5_takeNumber_6 : decode cX5_takeNumber 6 = .ok (.getfield 19, 3) := by decide +kernel
theorem dX5_takeNumber_9 : decode cX5_takeNumber 9 = .ok (.aload_n 0, 1) := by decide +kernel
theorem dX5_takeNumber_10 : decode cX5_takeNumber 10 = .ok (.getfield 15, 3) := by decide +kernel
theorem dX5_takeNumber_13 : decode cX5_takeNumber 13 = .ok (.if_icmp .ge 55, 3) := by decide +kernel
theorem dX5_takeNumber_16 : decode cX5_takeNumber 16 = .ok (.aload_n 0, 1) := by decide +kernel
theorem dX5_takeNumber_17 : decode cX5_takeNumber 17 = .ok (.getfield 11, 3) := by decide +kernel
theorem dX5_takeNumber_20 : decode cX5_takeNumber 20 = .ok (.aload_n 0, 1) := by decide +kernel
theorem dX5_takeNumber_21 : decode cX5_takeNumber 21 = .ok (.getfield 19, 3) := by decide +kernel
theorem dX5_takeNumber_24 : decode cX5_takeNumber 24 = .ok (.caload, 1) := by decide +kernel
theorem dX5_takeNumber_25 : decode cX5_takeNumber 25 = .ok (.invokestatic 82, 3) := by decide +kernel
theorem dX5_takeNumber_28 : decode cX5_takeNumber 28 = .ok (.ifCond .eq 40, 3) := by decide +kernel
theorem dX5_takeNumber_31 : decode cX5_takeNumber 31 = .ok (.aload_n 0, 1) := by decide +kernel
theorem dX5_takeNumber_32 : decode cX5_takeNumber 32 = .ok (.aload_n 0, 1) := by decide +kernel
theorem dX5_takeNumber_33 : decode cX5_takeNumber 33 = .ok (.getfield 60, 3) := by decide +kernel
theorem dX5_takeNumber_36 : decode cX5_takeNumber 36 = .ok (.bipush 10, 2) := by decide +kernel
theorem dX5_takeNumber_38 : decode cX5_takeNumber 38 = .ok (.imul, 1) := by decide +kernel
theorem dX5_takeNumber_39 : decode cX5_takeNumber 39 = .ok (.aload_n 0, 1) := by decide +kernel
theorem dX5_takeNumber_40 : decode cX5_takeNumber 40 = .ok (.getfield 11, 3) := by decide +kernel
theorem dX5_takeNumber_43 : decode cX5_takeNumber 43 = .ok (.aload_n 0, 1) := by decide +kernel
theorem dX5_takeNumber_44 : decode cX5_takeNumber 44 = .ok (.getfield 19, 3) := by decide +kernel
theorem dX5_takeNumber_47 : decode cX5_takeNumber 47 = .ok (.caload, 1) := by decide +kernel
theorem dX5_takeNumber_48 : decode cX5_takeNumber 48 = .ok (.bipush 48, 2) := by decide +kernel
theorem dX5_takeNumber_50 : decode cX5_takeNumber 50 = .ok (.isub, 1) := by decide +kernel
theorem dX5_takeNumber_51 : decode cX5_takeNumber 51 = .ok (.iadd, 1) := by decide +kernel
theorem dX5_takeNumber_52 : decode cX5_takeNumber 52 = .ok (.putfield 60, 3) := by decide +kernel
theorem dX5_takeNumber_55 : decode cX5_takeNumber 55 = .ok (.aload_n 0, 1) := by decide +kernel
theorem dX5_takeNumber_56 : decode cX5_takeNumber 56 = .ok (.dup, 1) := by decide +kernel
theorem dX5_takeNumber_57 : decode cX5_takeNumber 57 = .ok (.getfield 19, 3) := by decide +kernel
theorem dX5_takeNumber_60 : decode cX5_takeNumber 60 = .ok (.iconst 1, 1) := by decide +kernel
theorem dX5_takeNumber_61 : decode cX5_takeNumber 61 = .ok (.iadd, 1) := by decide +kernel
theorem dX5_takeNumber_62 : decode cX5_takeNumber 62 = .ok (.putfield 19, 3) := by decide +kernel
theorem dX5_takeNumber_65 : decode cX5_takeNumber 65 = .ok (.goto (-60), 3) := by decide +kernel
theorem dX5_takeNumber_68 : decode cX5_takeNumber 68 = .ok (.aload_n 0, 1) := by decide +kernel
theorem dX5_takeNumber_69 : decode cX5_takeNumber 69 = .ok (.aload_n 0, 1) := by decide +kernel
theorem dX5_takeNumber_70 : decode cX5_takeNumber 70 = .ok (.getfield 19, 3) := by decide +kernel
theorem dX5_takeNumber_73 : decode cX5_takeNumber 73 = .ok (.aload_n 0, 1) := by decide +kernel
theorem dX5_takeNumber_74 : decode cX5_takeNumber 74 = .ok (.getfield 28, 3) := by decide +kernel
theorem dX5_takeNumber_77 : decode cX5_takeNumber 77 = .ok (.isub, 1) := by decide +kernel
theorem dX5_takeNumber_78 : decode cX5_takeNumber 78 = .ok (.iconst 4, 1) := by decide +kernel
theorem dX5_takeNumber_79 : decode cX5_takeNumber 79 = .ok (.if_icmp .le 7, 3) := by decide +kernel
theorem dX5_takeNumber_82 : decode cX5_takeNumber 82 = .ok (.iconst 0, 1) := by decide +kernel
theorem dX5_takeNumber_83 : decode cX5_takeNumber 83 = .ok (.goto 4, 3) := by decide +kernel
theorem dX5_takeNumber_86 : decode cX5_takeNumber 86 = .ok (.iconst 3, 1) := by decide +kernel
