theorem dX11_readsWatcher_1 : decode cX11_readsWatcher 1 = .ok (.aload_n 0, 1) := by decide +kernel
theorem dX11_readsWatcher_2 : decode cX11_readsWatcher 2 = .ok (.getfield 13, 3) := by decide +kernel
theorem dX11_readsWatcher_5 : decode cX11_readsWatcher 5 = .ok (.bipush 10, 2) := by decide +kernel
theorem dX11_readsWatcher_7 : decode cX11_readsWatcher 7 = .ok (.iaload, 1) := by decide +kernel
theorem dX11_readsWatcher_8 : decode cX11_readsWatcher 8 = .ok (.iadd, 1) := by decide +kernel
theorem dX11_readsWatcher_9 : decode cX11_readsWatcher 9 = .ok (.istore_n 1, 1) := by decide +kernel
theorem dX11_readsWatcher_10 : decode cX11_readsWatcher 10 = .ok (.iload_n 1, 1) := by decide +kernel
theorem dX11_readsWatcher_11 : decode cX11_readsWatcher 11 = .ok (.bipush 8, 2) := by decide +kernel
theorem dX11_readsWatcher_13 : decode cX11_readsWatcher 13 = .ok (.if_icmp .ne 9, 3) := by decide +kernel
theorem dX11_readsWatcher_16 : decode cX11_readsWatcher 16 = .ok (.aload_n 0, 1) := by decide +kernel
theorem dX11_readsWatcher_17 : decode cX11_readsWatcher 17 = .ok (.iconst 5, 1) := by decide +kernel
theorem dX11_readsWatcher_18 : decode cX11_readsWatcher 18 = .ok (.invokevirtual 225, 3) := by decide +kernel
theorem dX11_readsWatcher_21 : decode cX11_readsWatcher 21 = .ok (.ireturn, 1) := by decide +kernel
theorem dX11_readsWatcher_22 : decode cX11_readsWatcher 22 = .ok (.aload_n 0, 1) := by decide +kernel
theorem dX11_readsWatcher_23 : decode cX11_readsWatcher 23 = .ok (.invokevirtual 232, 3) := by decide +kernel
theorem dX11_readsWatcher_26 : decode cX11_readsWatcher 26 = .ok (.aload_n 0, 1) := by decide +kernel
theorem dX11_readsWatcher_27 : decode cX11_readsWatcher 27 = .ok (.invokevirtual 313, 3) := by decide +kernel
theorem dX11_readsWatcher_30 : decode cX11_readsWatcher 30 = .ok (.ifCond .eq 13, 3) := by decide +kernel
theorem dX11_readsWatcher_33 : decode cX11_readsWatcher 33 = .ok (.aload_n 0, 1) := by decide +kernel
theorem dX11_readsWatcher_34 : decode cX11_readsWatcher 34 = .ok (.ldc2_w 270, 3) := by decide +kernel
theorem dX11_readsWatcher_37 : decode cX11_readsWatcher 37 = .ok (.invokevirtual 296, 3) := by decide +kernel
theorem dX11_readsWatcher_40 : decode cX11_readsWatcher 40 = .ok (.ifCond .ne 5, 3) := by decide +kernel
theorem dX11_readsWatcher_43 : decode cX11_readsWatcher 43 = .ok (.iconst 0, 1) := by decide +kernel
theorem dX11_readsWatcher_44 : decode cX11_readsWatcher 44 = .ok (.ireturn, 1) := by decide +kernel
theorem dX11_readsWatcher_45 : decode cX11_readsWatcher 45 = .ok (.aload_n 0, 1) := by decide +kernel
theorem dX11_readsWatcher_46 : decode cX11_readsWatcher 46 = .ok (.getfield 38, 3) := by decide +kernel
theorem dX11_readsWatcher_49 : decode cX11_readsWatcher 49 = .ok (.iload_n 1, 1) := by decide +kernel
theorem dX11_readsWatcher_50 : decode cX11_readsWatcher 50 = .ok (.aload_n 0, 1) := by decide +kernel
theorem dX11_readsWatcher_51 : decode cX11_readsWatcher 51 = .ok (.ldc2_w 250, 3) := by decide +kernel
theorem dX11_readsWatcher_54 : decode cX11_readsWatcher 54 = .ok (.invokevirtual 217, 3) := by decide +kernel
theorem dX11_readsWatcher_57 : decode cX11_readsWatcher 57 = .ok (.ifCond .eq 7, 3) := by decide +kernel
theorem dX11_readsWatcher_60 : decode cX11_readsWatcher 60 = .ok (.iconst 0, 1) := by decide +kernel
theorem dX11_readsWatcher_61 : decode cX11_readsWatcher 61 = .ok (.goto 32, 3) := by decide +kernel
theorem dX11_readsWatcher_64 : decode cX11_readsWatcher 64 = .ok (.aload_n 0, 1) := by decide +kernel
theorem dX11_readsWatcher_65 : decode cX11_readsWatcher 65 = .ok (.ldc2_w 252, 3) := by decide +kernel
theorem dX11_readsWatcher_68 : decode cX11_readsWatcher 68 = .ok (.invokevirtual 217, 3) := by decide +kernel
theorem dX11_readsWatcher_71 : decode cX11_readsWatcher 71 = .ok (.ifCond .eq 7, 3) := by decide +kernel
theorem dX11_readsWatcher_74 : decode cX11_readsWatcher 74 = .ok (.iconst 1, 1) := by decide +kernel
theorem dX11_readsWatcher_75 : decode cX11_readsWatcher 75 = .ok (.goto 18, 3) := by decide +kernel
theorem dX11_readsWatcher_78 : decode cX11_readsWatcher 78 = .ok (.aload_n 0, 1) := by decide +kernel
theorem dX11_readsWatcher_79 : decode cX11_readsWatcher 79 = .ok (.ldc2_w 272, 3) := by decide +kernel
theorem dX11_readsWatcher_82 : decode cX11_readsWatcher 82 = .ok (.invokevirtual 217, 3) := by decide +kernel
theorem dX11_readsWatcher_85 : decode cX11_readsWatcher 85 = .ok (.ifCond .eq 7, 3) := by decide +kernel
theorem dX11_readsWatcher_88 : decode cX11_readsWatcher 88 = .ok (.iconst 2, 1) := by decide +kernel
theorem dX11_readsWatcher_89 : decode cX11_readsWatcher 89 = .ok (.goto 4, 3) := by decide +kernel
theorem dX11_readsWatcher_92 : decode cX11_readsWatcher 92 = .ok (.iconst (-1), 1) := by decide +kernel
theorem dX11_readsWatcher_93 : decode cX11_readsWatcher 93 = .ok (.iastore, 1) := by decide +kernel
theorem dX11_readsWatcher_94 : decode cX11_readsWatcher 94 = .ok (.aload_n 0, 1) := by decide +kernel
theorem dX11_readsWatcher_95 : decode cX11_readsWatcher 95 = .ok (.getfield 38, 3) := by decide +kernel
theorem dX11_readsWatcher_98 : decode cX11_readsWatcher 98 = .ok (.iload_n 1, 1) := by decide +kernel
theorem dX11_readsWatcher_99 : decode cX11_readsWatcher 99 = .ok (.iaload, 1) := by decide +kernel
theorem dX11_readsWatcher_100 : decode cX11_readsWatcher 100 = .ok (.ifCond .ge 9, 3) := by decide +kernel
theorem dX11_readsWatcher_103 : decode cX11_readsWatcher 103 = .ok (.aload_n 0, 1) := by decide +kernel
theorem dX11_readsWatcher_104 : decode cX11_readsWatcher 104 = .ok (.iconst 1, 1) := by decide +kernel
theorem dX11_readsWatcher_105 : decode cX11_readsWatcher 105 = .ok (.invokevirtual 225, 3) := by decide +kernel
theorem dX11_readsWatcher_108 : decode cX11_readsWatcher 108 = .ok (.ireturn, 1) := by decide +kernel
theorem dX11_readsWatcher_109 : decode cX11_readsWatcher 109 = .ok (.aload_n 0, 1) := by decide +kernel
theorem dX11_readsWatcher_110 : decode cX11_readsWatcher 110 = .ok (.invokevirtual 232, 3) := by decide +kernel
theorem dX11_readsWatcher_113 : decode cX11_readsWatcher 113 = .ok (.aload_n 0, 1) := by decide +kernel
theorem dX11_readsWatcher_114 : decode cX11_readsWatcher 114 = .ok (.iconst 4, 1) := by decide +kernel
theorem dX11_readsWatcher_115 : decode cX11_readsWatcher 115 = .ok (.invokevirtual 320, 3) := by decide +kernel
theorem dX11_readsWatcher_118 : decode cX11_readsWatcher 118 = .ok (.aload_n 0, 1) := by decide +kernel
theorem dX11_readsWatcher_119 : decode cX11_readsWatcher 119 = .ok (.invokevirtual 323, 3) := by decide +kernel
theorem dX11_readsWatcher_122 : decode cX11_readsWatcher 122 = .ok (.ireturn, 1) := by decide +kernel
theorem dX11_readsWinds_0 : decode cX11_readsWinds 0 = .ok (.aload_n 0, 1) := by decide +kernel
theorem dX11_readsWinds_1 : decode cX11_readsWinds 1 = .ok (.getfield 13, 3) := by decide +kernel
theorem dX11_readsWinds_4 : decode cX11_readsWinds 4 = .ok (.bipush 11, 2) := by decide +kernel
theorem dX11_readsWinds_6 : decode cX11_readsWinds 6 = .ok (.iaload, 1) := by decide +kernel
theorem dX11_readsWinds_7 : decode cX11_readsWinds 7 = .ok (.ifCond .le 9, 3) := by decide +kernel
theorem dX11_readsWinds_10 : decode cX11_readsWinds 10 = .ok (.aload_n 0, 1) := by decide +kernel
theorem dX11_readsWinds_11 : decode cX11_readsWinds 11 = .ok (.iconst 3, 1) := by decide +kernel
theorem dX11_readsWinds_12 : decode cX11_readsWinds 12 = .ok (.invokevirtual 225, 3) := by decide +kernel
theorem dX11_readsWinds_15 : decode cX11_readsWinds 15 = .ok (.ireturn, 1) := by decide +kernel
theorem dX11_readsWinds_16 : decode cX11_readsWinds 16 = .ok (.aload_n 0, 1) := by decide +kernel
theorem dX11_readsWinds_17 : decode cX11_readsWinds 17 = .ok (.invokevirtual 232, 3) := by decide +kernel
theorem dX11_readsWinds_20 : decode cX11_readsWinds 20 = .ok (.iconst 0, 1) := by decide +kernel
theorem dX11_readsWinds_21 : decode cX11_readsWinds 21 = .ok (.istore_n 1, 1) := by decide +kernel
theorem dX11_readsWinds_22 : decode cX11_readsWinds 22 = .ok (.iload_n 1, 1) := by decide +kernel
theorem dX11_readsWinds_23 : decode cX11_readsWinds 23 = .ok (.ifCond .eq 12, 3) := by decide +kernel
theorem dX11_readsWinds_26 : decode cX11_readsWinds 26 = .ok (.aload_n 0, 1) := by decide +kernel
theorem dX11_readsWinds_27 : decode cX11_readsWinds 27 = .ok (.bipush 59, 2) := by decide +kernel
theorem dX11_readsWinds_29 : decode cX11_readsWinds 29 = .ok (.invokevirtual 221, 3) := by decide +kernel
theorem dX11_readsWinds_32 : decode cX11_readsWinds 32 = .ok (.ifCond .ne 67, 3) := by decide +kernel
theorem dX11_readsWinds_35 : decode cX11_readsWinds 35 = .ok (.aload_n 0, 1) := by decide +kernel
theorem dX11_readsWinds_36 : decode cX11_readsWinds 36 = .ok (.getfield 181, 3) := by decide +kernel
theorem dX11_readsWinds_39 : decode cX11_readsWinds 39 = .ok (.iconst 2, 1) := by decide +kernel
theorem dX11_readsWinds_40 : decode cX11_readsWinds 40 = .ok (.if_icmp .eq 9, 3) := by decide +kernel
theorem dX11_readsWinds_43 : decode cX11_readsWinds 43 = .ok (.aload_n 0, 1) := by decide +kernel
theorem dX11_readsWinds_44 : decode cX11_readsWinds 44 = .ok (.iconst 1, 1) := by decide +kernel
theorem dX11_readsWinds_45 : decode cX11_readsWinds 45 = .ok (.invokevirtual 225, 3) := by decide +kernel
theorem dX11_readsWinds_48 : decode cX11_readsWinds 48 = .ok (.ireturn, 1) := by decide +kernel
theorem dX11_readsWinds_49 : decode cX11_readsWinds 49 = .ok (.aload_n 0, 1) := by decide +kernel
theorem dX11_readsWinds_50 : decode cX11_readsWinds 50 = .ok (.getfield 178, 3) := by decide +kernel
theorem dX11_readsWinds_53 : decode cX11_readsWinds 53 = .ok (.bipush 9, 2) := by decide +kernel
theorem dX11_readsWinds_55 : decode cX11_readsWinds 55 = .ok (.if_icmp .le 9, 3) := by decide +kernel
theorem dX11_readsWinds_58 : decode cX11_readsWinds 58 = .ok (.aload_n 0, 1) := by decide +kernel
theorem dX11_readsWinds_59 : decode cX11_readsWinds 59 = .ok (.iconst 4, 1) := by decide +kernel
theorem dX11_readsWinds_60 : decode cX11_readsWinds 60 = .ok (.invokevirtual 225, 3) := by decide +kernel
theorem dX11_readsWinds_63 : decode cX11_readsWinds 63 = .ok (.ireturn, 1) := by decide +kernel
theorem dX11_readsWinds_64 : decode cX11_readsWinds 64 = .ok (.iload_n 1, 1) := by decide +kernel
theorem dX11_readsWinds_65 : decode cX11_readsWinds 65 = .ok (.bipush 12, 2) := by decide +kernel
theorem dX11_readsWinds_67 : decode cX11_readsWinds 67 = .ok (.if_icmp .ne 9, 3) := by decide +kernel
theorem dX11_readsWinds_70 : decode cX11_readsWinds 70 = .ok (.aload_n 0, 1) := by decide +kernel
theorem dX11_readsWinds_71 : decode cX11_readsWinds 71 = .ok (.iconst 5, 1) := by decide +kernel
theorem dX11_readsWinds_72 : decode cX11_readsWinds 72 = .ok (.invokevirtual 225, 3) := by decide +kernel
theorem dX11_readsWinds_75 : decode cX11_readsWinds 75 = .ok (.ireturn, 1) := by decide +kernel
theorem dX11_readsWinds_76 : decode cX11_readsWinds 76 = .ok (.aload_n 0, 1) := by decide +kernel
theorem dX11_readsWinds_77 : decode cX11_readsWinds 77 = .ok (.getfield 41, 3) := by decide +kernel
theorem dX11_readsWinds_80 : decode cX11_readsWinds 80 = .ok (.bipush 12, 2) := by decide +kernel
theorem dX11_readsWinds_82 : decode cX11_readsWinds 82 = .ok (.iload_n 1, 1) := by decide +kernel
theorem dX11_readsWinds_83 : decode cX11_readsWinds 83 = .ok (.iadd, 1) := by decide +kernel
theorem dX11_readsWinds_84 : decode cX11_readsWinds 84 = .ok (.aload_n 0, 1) := by decide +kernel
theorem dX11_readsWinds_85 : decode cX11_readsWinds 85 = .ok (.getfield 178, 3) := by decide +kernel
theorem dX11_readsWinds_88 : decode cX11_readsWinds 88 = .ok (.iastore, 1) := by decide +kernel
theorem dX11_readsWinds_89 : decode cX11_readsWinds 89 = .ok (.iinc 1 1, 3) := by decide +kernel
theorem dX11_readsWinds_92 : decode cX11_readsWinds 92 = .ok (.aload_n 0, 1) := by decide +kernel
theorem dX11_readsWinds_93 : decode cX11_readsWinds 93 = .ok (.invokevirtual 232, 3) := by decide +kernel
theorem dX11_readsWinds_96 : decode cX11_readsWinds 96 = .ok (.goto (-74), 3) := by decide +kernel
theorem dX11_readsWinds_99 : decode cX11_readsWinds 99 = .ok (.aload_n 0, 1) := by decide +kernel
theorem dX11_readsWinds_100 : decode cX11_readsWinds 100 = .ok (.getfield 13, 3) := by decide +kernel
theorem dX11_readsWinds_103 : decode cX11_readsWinds 103 = .ok (.bipush 11, 2) := by decide +kernel
theorem dX11_readsWinds_105 : decode cX11_readsWinds 105 = .ok (.iload_n 1, 1) := by decide +kernel
theorem dX11_readsWinds_106 : decode cX11_readsWinds 106 = .ok (.iastore, 1) := by decide +kernel
theorem dX11_readsWinds_107 : decode cX11_readsWinds 107 = .ok (.aload_n 0, 1) := by decide +kernel
theorem dX11_readsWinds_108 : decode cX11_readsWinds 108 = .ok (.invokevirtual 323, 3) := by decide +kernel
theorem dX11_readsWinds_111 : decode cX11_readsWinds 111 = .ok (.ireturn, 1) := by decide +kernel
theorem dX11_readsLaw_0 : decode cX11_readsLaw 0 = .ok (.aload_n 0, 1) := by decide +kernel
theorem dX11_readsLaw_1 : decode cX11_readsLaw 1 = .ok (.getfield 47, 3) := by decide +kernel
theorem dX11_readsLaw_4 : decode cX11_readsLaw 4 = .ok (.iconst 2, 1) := by decide +kernel
theorem dX11_readsLaw_5 : decode cX11_readsLaw 5 = .ok (.iload_n 1, 1) := by decide +kernel
theorem dX11_readsLaw_6 : decode cX11_readsLaw 6 = .ok (.iadd, 1) := by decide +kernel
theorem dX11_readsLaw_7 : decode cX11_readsLaw 7 = .ok (.iaload, 1) := by decide +kernel
theorem dX11_readsLaw_8 : decode cX11_readsLaw 8 = .ok (.aload_n 0, 1) := by decide +kernel
theorem dX11_readsLaw_9 : decode cX11_readsLaw 9 = .ok (.getfield 44, 3) := by decide +kernel
theorem dX11_readsLaw_12 : decode cX11_readsLaw 12 = .ok (.iconst 2, 1) := by decide +kernel
theorem dX11_readsLaw_13 : decode cX11_readsLaw 13 = .ok (.iload_n 1, 1) := by decide +kernel
theorem dX11_readsLaw_14 : decode cX11_readsLaw 14 = .ok (.iadd, 1) := by decide +kernel
theorem dX11_readsLaw_15 : decode cX11_readsLaw 15 = .ok (.iaload, 1) := by decide +kernel
theorem dX11_readsLaw_16 : decode cX11_readsLaw 16 = .ok (.if_icmp .le 9, 3) := by decide +kernel
theorem dX11_readsLaw_19 : decode cX11_readsLaw 19 = .ok (.aload_n 0, 1) := by decide +kernel
theorem dX11_readsLaw_20 : decode cX11_readsLaw 20 = .ok (.iconst 3, 1) := by decide +kernel
theorem dX11_readsLaw_21 : decode cX11_readsLaw 21 = .ok (.invokevirtual 225, 3) := by decide +kernel
theorem dX11_readsLaw_24 : decode cX11_readsLaw 24 = .ok (.ireturn, 1) := by decide +kernel
theorem dX11_readsLaw_25 : decode cX11_readsLaw 25 = .ok (.aload_n 0, 1) := by decide +kernel
theorem dX11_readsLaw_26 : decode cX11_readsLaw 26 = .ok (.iload_n 1, 1) := by decide +kernel
theorem dX11_readsLaw_27 : decode cX11_readsLaw 27 = .ok (.putfield 204, 3) := by decide +kernel
theorem dX11_readsLaw_30 : decode cX11_readsLaw 30 = .ok (.aload_n 0, 1) := by decide +kernel
theorem dX11_readsLaw_31 : decode cX11_readsLaw 31 = .ok (.invokevirtual 232, 3) := by decide +kernel
theorem dX11_readsLaw_34 : decode cX11_readsLaw 34 = .ok (.aload_n 0, 1) := by decide +kernel
theorem dX11_readsLaw_35 : decode cX11_readsLaw 35 = .ok (.getfield 44, 3) := by decide +kernel
theorem dX11_readsLaw_38 : decode cX11_readsLaw 38 = .ok (.iconst 2, 1) := by decide +kernel
theorem dX11_readsLaw_39 : decode cX11_readsLaw 39 = .ok (.iload_n 1, 1) := by decide +kernel
theorem dX11_readsLaw_40 : decode cX11_readsLaw 40 = .ok (.iadd, 1) := by decide +kernel
theorem dX11_readsLaw_41 : decode cX11_readsLaw 41 = .ok (.aload_n 0, 1) := by decide +kernel
theorem dX11_readsLaw_42 : decode cX11_readsLaw 42 = .ok (.getfield 195, 3) := by decide +kernel
theorem dX11_readsLaw_45 : decode cX11_readsLaw 45 = .ok (.iastore, 1) := by decide +kernel
theorem dX11_readsLaw_46 : decode cX11_readsLaw 46 = .ok (.aload_n 0, 1) := by decide +kernel
theorem dX11_readsLaw_47 : decode cX11_readsLaw 47 = .ok (.invokevirtual 333, 3) := by decide +kernel
theorem dX11_readsLaw_50 : decode cX11_readsLaw 50 = .ok (.ifCond .ne 5, 3) := by decide +kernel
theorem dX11_readsLaw_53 : decode cX11_readsLaw 53 = .ok (.iconst 0, 1) := by decide +kernel
theorem dX11_readsLaw_54 : decode cX11_readsLaw 54 = .ok (.ireturn, 1) := by decide +kernel
theorem dX11_readsLaw_55 : decode cX11_readsLaw 55 = .ok (.aload_n 0, 1) := by decide +kernel
theorem dX11_readsLaw_56 : decode cX11_readsLaw 56 = .ok (.getfield 47, 3) := by decide +kernel
theorem dX11_readsLaw_59 : decode cX11_readsLaw 59 = .ok (.iconst 2, 1) := by decide +kernel
theorem dX11_readsLaw_60 : decode cX11_readsLaw 60 = .ok (.iload_n 1, 1) := by decide +kernel
theorem dX11_readsLaw_61 : decode cX11_readsLaw 61 = .ok (.iadd, 1) := by decide +kernel
theorem dX11_readsLaw_62 : decode cX11_readsLaw 62 = .ok (.aload_n 0, 1) := by decide +kernel
theorem dX11_readsLaw_63 : decode cX11_readsLaw 63 = .ok (.getfield 195, 3) := by decide +kernel
theorem dX11_readsLaw_66 : decode cX11_readsLaw 66 = .ok (.iastore, 1) := by decide +kernel
theorem dX11_readsLaw_67 : decode cX11_readsLaw 67 = .ok (.iconst 1, 1) := by decide +kernel
theorem dX11_readsLaw_68 : decode cX11_readsLaw 68 = .ok (.ireturn, 1) := by decide +kernel
theorem dX11_begins_0 : decode cX11_begins 0 = .ok (.aload_n 0, 1) := by decide +kernel
theorem dX11_begins_1 : decode cX11_begins 1 = .ok (.aload_n 0, 1) := by decide +kernel
theorem dX11_begins_2 : decode cX11_begins 2 = .ok (.getfield 162, 3) := by decide +kernel
theorem dX11_begins_5 : decode cX11_begins 5 = .ok (.putfield 165, 3) := by decide +kernel
theorem dX11_begins_8 : decode cX11_begins 8 = .ok (.aload_n 0, 1) := by decide +kernel
theorem dX11_begins_9 : decode cX11_begins 9 = .ok (.iconst 0, 1) := by decide +kernel
theorem dX11_begins_10 : decode cX11_begins 10 = .ok (.putfield 162, 3) := by decide +kernel
theorem dX11_begins_13 : decode cX11_begins 13 = .ok (.aload_n 0, 1) := by decide +kernel
theorem dX11_begins_14 : decode cX11_begins 14 = .ok (.iconst 0, 1) := by decide +kernel
theorem dX11_begins_15 : decode cX11_begins 15 = .ok (.putfield 168, 3) := by decide +kernel
theorem dX11_begins_18 : decode cX11_begins 18 = .ok (.aload_n 0, 1) := by decide +kernel
theorem dX11_begins_19 : decode cX11_begins 19 = .ok (.invokevirtual 232, 3) := by decide +kernel
theorem dX11_begins_22 : decode cX11_begins 22 = .ok (.return_, 1) := by decide +kernel
theorem dX11_readsAll_0 : decode cX11_readsAll 0 = .ok (.bipush 6, 2) := by decide +kernel
theorem dX11_readsAll_2 : decode cX11_readsAll 2 = .ok (.istore_n 1, 1) := by decide +kernel
theorem dX11_readsAll_3 : decode cX11_readsAll 3 = .ok (.iload_n 1, 1) := by decide +kernel
theorem dX11_readsAll_4 : decode cX11_readsAll 4 = .ok (.bipush 12, 2) := by decide +kernel
theorem dX11_readsAll_6 : decode cX11_readsAll 6 = .ok (.if_icmp .ge 16, 3) := by decide +kernel
theorem dX11_readsAll_9 : decode cX11_readsAll 9 = .ok (.aload_n 0, 1) := by decide +kernel
theorem dX11_readsAll_10 : decode cX11_readsAll 10 = .ok (.getfield 13, 3) := by decide +kernel
theorem dX11_readsAll_13 : decode cX11_readsAll 13 = .ok (.iload_n 1, 1) := by decide +kernel
theorem dX11_readsAll_14 : decode cX11_readsAll 14 = .ok (.iconst 0, 1) := by decide +kernel
theorem dX11_readsAll_15 : decode cX11_readsAll 15 = .ok (.iastore, 1) := by decide +kernel
theorem dX11_readsAll_16 : decode cX11_readsAll 16 = .ok (.iinc 1 1, 3) := by decide +kernel
theorem dX11_readsAll_19 : decode cX11_readsAll 19 = .ok (.goto (-16), 3) := by decide +kernel
theorem dX11_readsAll_22 : decode cX11_readsAll 22 = .ok (.iconst 2, 1) := by decide +kernel
theorem dX11_readsAll_23 : decode cX11_readsAll 23 = .ok (.istore_n 1, 1) := by decide +kernel
theorem dX11_readsAll_24 : decode cX11_readsAll 24 = .ok (.iload_n 1, 1) := by decide +kernel
theorem dX11_readsAll_25 : decode cX11_readsAll 25 = .ok (.iconst 4, 1) := by decide +kernel
theorem dX11_readsAll_26 : decode cX11_readsAll 26 = .ok (.if_icmp .ge 27, 3) := by decide +kernel
theorem dX11_readsAll_29 : decode cX11_readsAll 29 = .ok (.aload_n 0, 1) := by decide +kernel
theorem dX11_readsAll_30 : decode cX11_readsAll 30 = .ok (.getfield 44, 3) := by decide +kernel
theorem dX11_readsAll_33 : decode cX11_readsAll 33 = .ok (.iload_n 1, 1) := by decide +kernel
theorem dX11_readsAll_34 : decode cX11_readsAll 34 = .ok (.sipush 1000, 3) := by decide +kernel
theorem dX11_readsAll_37 : decode cX11_readsAll 37 = .ok (.iastore, 1) := by decide +kernel
theorem dX11_readsAll_38 : decode cX11_readsAll 38 = .ok (.aload_n 0, 1) := by decide +kernel
theorem dX11_readsAll_39 : decode cX11_readsAll 39 = .ok (.getfield 47, 3) := by decide +kernel
theorem dX11_readsAll_42 : decode cX11_readsAll 42 = .ok (.iload_n 1, 1) := by decide +kernel
theorem dX11_readsAll_43 : decode cX11_readsAll 43 = .ok (.sipush 1000, 3) := by decide +kernel
theorem dX11_readsAll_46 : decode cX11_readsAll 46 = .ok (.iastore, 1) := by decide +kernel
theorem dX11_readsAll_47 : decode cX11_readsAll 47 = .ok (.iinc 1 1, 3) := by decide +kernel
theorem dX11_readsAll_50 : decode cX11_readsAll 50 = .ok (.goto (-26), 3) := by decide +kernel
theorem dX11_readsAll_53 : decode cX11_readsAll 53 = .ok (.aload_n 0, 1) := by decide +kernel
theorem dX11_readsAll_54 : decode cX11_readsAll 54 = .ok (.sipush 1000, 3) := by decide +kernel
theorem dX11_readsAll_57 : decode cX11_readsAll 57 = .ok (.putfield 195, 3) := by decide +kernel
theorem dX11_readsAll_60 : decode cX11_readsAll 60 = .ok (.aload_n 0, 1) := by decide +kernel
theorem dX11_readsAll_61 : decode cX11_readsAll 61 = .ok (.invokevirtual 336, 3) := by decide +kernel
theorem dX11_readsAll_64 : decode cX11_readsAll 64 = .ok (.aload_n 0, 1) := by decide +kernel
theorem dX11_readsAll_65 : decode cX11_readsAll 65 = .ok (.getfield 181, 3) := by decide +kernel
theorem dX11_readsAll_68 : decode cX11_readsAll 68 = .ok (.ifCond .eq 173, 3) := by decide +kernel
theorem dX11_readsAll_71 : decode cX11_readsAll 71 = .ok (.aload_n 0, 1) := by decide +kernel
theorem dX11_readsAll_72 : decode cX11_readsAll 72 = .ok (.ldc2_w 248, 3) := by decide +kernel
theorem dX11_readsAll_75 : decode cX11_readsAll 75 = .ok (.invokevirtual 217, 3) := by decide +kernel
theorem dX11_readsAll_78 : decode cX11_readsAll 78 = .ok (.ifCond .eq 10, 3) := by decide +kernel
theorem dX11_readsAll_81 : decode cX11_readsAll 81 = .ok (.aload_n 0, 1) := by decide +kernel
theorem dX11_readsAll_82 : decode cX11_readsAll 82 = .ok (.invokevirtual 339, 3) := by decide +kernel
theorem dX11_readsAll_85 : decode cX11_readsAll 85 = .ok (.goto 146, 3) := by decide +kernel
theorem dX11_readsAll_88 : decode cX11_readsAll 88 = .ok (.aload_n 0, 1) := by decide +kernel
theorem dX11_readsAll_89 : decode cX11_readsAll 89 = .ok (.ldc2_w 256, 3) := by decide +kernel
theorem dX11_readsAll_92 : decode cX11_readsAll 92 = .ok (.invokevirtual 217, 3) := by decide +kernel
theorem dX11_readsAll_95 : decode cX11_readsAll 95 = .ok (.ifCond .eq 10, 3) := by decide +kernel
theorem dX11_readsAll_98 : decode cX11_readsAll 98 = .ok (.aload_n 0, 1) := by decide +kernel
theorem dX11_readsAll_99 : decode cX11_readsAll 99 = .ok (.invokevirtual 342, 3) := by decide +kernel
theorem dX11_readsAll_102 : decode cX11_readsAll 102 = .ok (.goto 129, 3) := by decide +kernel
theorem dX11_readsAll_105 : decode cX11_readsAll 105 = .ok (.aload_n 0, 1) := by decide +kernel
theorem dX11_readsAll_106 : decode cX11_readsAll 106 = .ok (.ldc2_w 258, 3) := by decide +kernel
theorem dX11_readsAll_109 : decode cX11_readsAll 109 = .ok (.invokevirtual 217, 3) := by decide +kernel
theorem dX11_readsAll_112 : decode cX11_readsAll 112 = .ok (.ifCond .eq 10, 3) := by decide +kernel
theorem dX11_readsAll_115 : decode cX11_readsAll 115 = .ok (.aload_n 0, 1) := by decide +kernel
theorem dX11_readsAll_116 : decode cX11_readsAll 116 = .ok (.invokevirtual 345, 3) := by decide +kernel
theorem dX11_readsAll_119 : decode cX11_readsAll 119 = .ok (.goto 112, 3) := by decide +kernel
theorem dX11_readsAll_122 : decode cX11_readsAll 122 = .ok (.aload_n 0, 1) := by decide +kernel
theorem dX11_readsAll_123 : decode cX11_readsAll 123 = .ok (.ldc2_w 262, 3) := by decide +kernel
theorem dX11_readsAll_126 : decode cX11_readsAll 126 = .ok (.invokevirtual 217, 3) := by decide +kernel
theorem dX11_readsAll_129 : decode cX11_readsAll 129 = .ok (.ifCond .eq 10, 3) := by decide +kernel
theorem dX11_readsAll_132 : decode cX11_readsAll 132 = .ok (.aload_n 0, 1) := by decide +kernel
theorem dX11_readsAll_133 : decode cX11_readsAll 133 = .ok (.invokevirtual 348, 3) := by decide +kernel
theorem dX11_readsAll_136 : decode cX11_readsAll 136 = .ok (.goto 95, 3) := by decide +kernel
theorem dX11_readsAll_139 : decode cX11_readsAll 139 = .ok (.aload_n 0, 1) := by decide +kernel
theorem dX11_readsAll_140 : decode cX11_readsAll 140 = .ok (.ldc2_w 264, 3) := by decide +kernel
theorem dX11_readsAll_143 : decode cX11_readsAll 143 = .ok (.invokevirtual 217, 3) := by decide +kernel
theorem dX11_readsAll_146 : decode cX11_readsAll 146 = .ok (.ifCond .eq 10, 3) := by decide +kernel
theorem dX11_readsAll_149 : decode cX11_readsAll 149 = .ok (.aload_n 0, 1) := by decide +kernel
theorem dX11_readsAll_150 : decode cX11_readsAll 150 = .ok (.invokevirtual 351, 3) := by decide +kernel
theorem dX11_readsAll_153 : decode cX11_readsAll 153 = .ok (.goto 78, 3) := by decide +kernel
theorem dX11_readsAll_156 : decode cX11_readsAll 156 = .ok (.aload_n 0, 1) := by decide +kernel
theorem dX11_readsAll_157 : decode cX11_readsAll 157 = .ok (.ldc2_w 268, 3) := by decide +kernel
theorem dX11_readsAll_160 : decode cX11_readsAll 160 = .ok (.invokevirtual 217, 3) := by decide +kernel
theorem dX11_readsAll_163 : decode cX11_readsAll 163 = .ok (.ifCond .eq 10, 3) := by decide +kernel
theorem dX11_readsAll_166 : decode cX11_readsAll 166 = .ok (.aload_n 0, 1) := by decide +kernel
theorem dX11_readsAll_167 : decode cX11_readsAll 167 = .ok (.invokevirtual 354, 3) := by decide +kernel
theorem dX11_readsAll_170 : decode cX11_readsAll 170 = .ok (.goto 61, 3) := by decide +kernel
theorem dX11_readsAll_173 : decode cX11_readsAll 173 = .ok (.aload_n 0, 1) := by decide +kernel
theorem dX11_readsAll_174 : decode cX11_readsAll 174 = .ok (.ldc2_w 274, 3) := by decide +kernel
theorem dX11_readsAll_177 : decode cX11_readsAll 177 = .ok (.invokevirtual 217, 3) := by decide +kernel
theorem dX11_readsAll_180 : decode cX11_readsAll 180 = .ok (.ifCond .eq 10, 3) := by decide +kernel
theorem dX11_readsAll_183 : decode cX11_readsAll 183 = .ok (.aload_n 0, 1) := by decide +kernel
theorem dX11_readsAll_184 : decode cX11_readsAll 184 = .ok (.invokevirtual 357, 3) := by decide +kernel
theorem dX11_readsAll_187 : decode cX11_readsAll 187 = .ok (.goto 44, 3) := by decide +kernel
theorem dX11_readsAll_190 : decode cX11_readsAll 190 = .ok (.aload_n 0, 1) := by decide +kernel
theorem dX11_readsAll_191 : decode cX11_readsAll 191 = .ok (.ldc2_w 276, 3) := by decide +kernel
theorem dX11_readsAll_194 : decode cX11_readsAll 194 = .ok (.invokevirtual 217, 3) := by decide +kernel
theorem dX11_readsAll_197 : decode cX11_readsAll 197 = .ok (.ifCond .eq 11, 3) := by decide +kernel
theorem dX11_readsAll_200 : decode cX11_readsAll 200 = .ok (.aload_n 0, 1) := by decide +kernel
theorem dX11_readsAll_201 : decode cX11_readsAll 201 = .ok (.iconst 0, 1) := by decide +kernel
theorem dX11_readsAll_202 : decode cX11_readsAll 202 = .ok (.invokevirtual 360, 3) := by decide +kernel
theorem dX11_readsAll_205 : decode cX11_readsAll 205 = .ok (.goto 26, 3) := by decide +kernel
theorem dX11_readsAll_208 : decode cX11_readsAll 208 = .ok (.aload_n 0, 1) := by decide +kernel
theorem dX11_readsAll_209 : decode cX11_readsAll 209 = .ok (.ldc2_w 278, 3) := by decide +kernel
theorem dX11_readsAll_212 : decode cX11_readsAll 212 = .ok (.invokevirtual 217, 3) := by decide +kernel
theorem dX11_readsAll_215 : decode cX11_readsAll 215 = .ok (.ifCond .eq 11, 3) := by decide +kernel
theorem dX11_readsAll_218 : decode cX11_readsAll 218 = .ok (.aload_n 0, 1) := by decide +kernel
theorem dX11_readsAll_219 : decode cX11_readsAll 219 = .ok (.iconst 1, 1) := by decide +kernel
theorem dX11_readsAll_220 : decode cX11_readsAll 220 = .ok (.invokevirtual 360, 3) := by decide +kernel
theorem dX11_readsAll_223 : decode cX11_readsAll 223 = .ok (.goto 8, 3) := by decide +kernel
theorem dX11_readsAll_226 : decode cX11_readsAll 226 = .ok (.aload_n 0, 1) := by decide +kernel
theorem dX11_readsAll_227 : decode cX11_readsAll 227 = .ok (.iconst 1, 1) := by decide +kernel
theorem dX11_readsAll_228 : decode cX11_readsAll 228 = .ok (.invokevirtual 225, 3) := by decide +kernel
theorem dX11_readsAll_231 : decode cX11_readsAll 231 = .ok (.istore_n 1, 1) := by decide +kernel
theorem dX11_readsAll_232 : decode cX11_readsAll 232 = .ok (.iload_n 1, 1) := by decide +kernel
theorem dX11_readsAll_233 : decode cX11_readsAll 233 = .ok (.ifCond .ne 5, 3) := by decide +kernel
theorem dX11_readsAll_236 : decode cX11_readsAll 236 = .ok (.iconst 0, 1) := by decide +kernel
theorem dX11_readsAll_237 : decode cX11_readsAll 237 = .ok (.ireturn, 1) := by decide +kernel
theorem dX11_readsAll_238 : decode cX11_readsAll 238 = .ok (.goto (-174), 3) := by decide +kernel
theorem dX11_readsAll_241 : decode cX11_readsAll 241 = .ok (.iconst 1, 1) := by decide +kernel
theorem dX11_readsAll_242 : decode cX11_readsAll 242 = .ok (.ireturn, 1) := by decide +kernel
theorem dX11_shifts_0 : decode cX11_shifts 0 = .ok (.iconst 0, 1) := by decide +kernel
theorem dX11_shifts_1 : decode cX11_shifts 1 = .ok (.istore_n 2, 1) := by decide +kernel
theorem dX11_shifts_2 : decode cX11_shifts 2 = .ok (.iload_n 2, 1) := by decide +kernel
theorem dX11_shifts_3 : decode cX11_shifts 3 = .ok (.iload_n 1, 1) := by decide +kernel
theorem dX11_shifts_4 : decode cX11_shifts 4 = .ok (.if_icmp .ge 17, 3) := by decide +kernel
theorem dX11_shifts_7 : decode cX11_shifts 7 = .ok (.aload_n 0, 1) := by decide +kernel
theorem dX11_shifts_8 : decode cX11_shifts 8 = .ok (.iload_n 2, 1) := by decide +kernel
theorem dX11_shifts_9 : decode cX11_shifts 9 = .ok (.aload_n 0, 1) := by decide +kernel
theorem dX11_shifts_10 : decode cX11_shifts 10 = .ok (.iload_n 1, 1) := by decide +kernel
theorem dX11_shifts_11 : decode cX11_shifts 11 = .ok (.iload_n 2, 1) := by decide +kernel
theorem dX11_shifts_12 : decode cX11_shifts 12 = .ok (.iadd, 1) := by decide +kernel
theorem dX11_shifts_13 : decode cX11_shifts 13 = .ok (.iaload, 1) := by decide +kernel
theorem dX11_shifts_14 : decode cX11_shifts 14 = .ok (.iastore, 1) := by decide +kernel
theorem dX11_shifts_15 : decode cX11_shifts 15 = .ok (.iinc 2 1, 3) := by decide +kernel
theorem dX11_shifts_18 : decode cX11_shifts 18 = .ok (.goto (-16), 3) := by decide +kernel
theorem dX11_shifts_21 : decode cX11_shifts 21 = .ok (.return_, 1) := by decide +kernel
theorem dX11_lays_0 : decode cX11_lays 0 = .ok (.aload_n 0, 1) := by decide +kernel
theorem dX11_lays_1 : decode cX11_lays 1 = .ok (.getfield 13, 3) := by decide +kernel
theorem dX11_lays_4 : decode cX11_lays 4 = .ok (.bipush 6, 2) := by decide +kernel
theorem dX11_lays_6 : decode cX11_lays 6 = .ok (.invokestatic 363, 3) := by decide +kernel
theorem dX11_lays_9 : decode cX11_lays 9 = .ok (.iconst 0, 1) := by decide +kernel
theorem dX11_lays_10 : decode cX11_lays 10 = .ok (.istore_n 1, 1) := by decide +kernel
theorem dX11_lays_11 : decode cX11_lays 11 = .ok (.iload_n 1, 1) := by decide +kernel
theorem dX11_lays_12 : decode cX11_lays 12 = .ok (.bipush 22, 2) := by decide +kernel
theorem dX11_lays_14 : decode cX11_lays 14 = .ok (.if_icmp .ge 24, 3) := by decide +kernel
theorem dX11_lays_17 : decode cX11_lays 17 = .ok (.aload_n 0, 1) := by decide +kernel
theorem dX11_lays_18 : decode cX11_lays 18 = .ok (.getfield 16, 3) := by decide +kernel
theorem dX11_lays_21 : decode cX11_lays 21 = .ok (.iload_n 1, 1) := by decide +kernel
theorem dX11_lays_22 : decode cX11_lays 22 = .ok (.aload_n 0, 1) := by decide +kernel
theorem dX11_lays_23 : decode cX11_lays 23 = .ok (.getfield 16, 3) := by decide +kernel
theorem dX11_lays_26 : decode cX11_lays 26 = .ok (.bipush 22, 2) := by decide +kernel
theorem dX11_lays_28 : decode cX11_lays 28 = .ok (.iload_n 1, 1) := by decide +kernel
theorem dX11_lays_29 : decode cX11_lays 29 = .ok (.iadd, 1) := by decide +kernel
theorem dX11_lays_30 : decode cX11_lays 30 = .ok (.laload, 1) := by decide +kernel
theorem dX11_lays_31 : decode cX11_lays 31 = .ok (.lastore, 1) := by decide +kernel
theorem dX11_lays_32 : decode cX11_lays 32 = .ok (.iinc 1 1, 3) := by decide +kernel
theorem dX11_lays_35 : decode cX11_lays 35 = .ok (.goto (-24), 3) := by decide +kernel
theorem dX11_lays_38 : decode cX11_lays 38 = .ok (.aload_n 0, 1) := by decide +kernel
theorem dX11_lays_39 : decode cX11_lays 39 = .ok (.getfield 20, 3) := by decide +kernel
theorem dX11_lays_42 : decode cX11_lays 42 = .ok (.iconst 5, 1) := by decide +kernel
theorem dX11_lays_43 : decode cX11_lays 43 = .ok (.invokestatic 363, 3) := by decide +kernel
theorem dX11_lays_46 : decode cX11_lays 46 = .ok (.aload_n 0, 1) := by decide +kernel
theorem dX11_lays_47 : decode cX11_lays 47 = .ok (.getfield 23, 3) := by decide +kernel
theorem dX11_lays_50 : decode cX11_lays 50 = .ok (.iconst 5, 1) := by decide +kernel
theorem dX11_lays_51 : decode cX11_lays 51 = .ok (.invokestatic 363, 3) := by decide +kernel
theorem dX11_lays_54 : decode cX11_lays 54 = .ok (.aload_n 0, 1) := by decide +kernel
theorem dX11_lays_55 : decode cX11_lays 55 = .ok (.getfield 26, 3) := by decide +kernel
theorem dX11_lays_58 : decode cX11_lays 58 = .ok (.iconst 5, 1) := by decide +kernel
theorem dX11_lays_59 : decode cX11_lays 59 = .ok (.invokestatic 363, 3) := by decide +kernel
theorem dX11_lays_62 : decode cX11_lays 62 = .ok (.aload_n 0, 1) := by decide +kernel
theorem dX11_lays_63 : decode cX11_lays 63 = .ok (.getfield 29, 3) := by decide +kernel
theorem dX11_lays_66 : decode cX11_lays 66 = .ok (.iconst 4, 1) := by decide +kernel
theorem dX11_lays_67 : decode cX11_lays 67 = .ok (.invokestatic 363, 3) := by decide +kernel
theorem dX11_lays_70 : decode cX11_lays 70 = .ok (.aload_n 0, 1) := by decide +kernel
theorem dX11_lays_71 : decode cX11_lays 71 = .ok (.getfield 32, 3) := by decide +kernel
theorem dX11_lays_74 : decode cX11_lays 74 = .ok (.bipush 20, 2) := by decide +kernel
theorem dX11_lays_76 : decode cX11_lays 76 = .ok (.invokestatic 363, 3) := by decide +kernel
theorem dX11_lays_79 : decode cX11_lays 79 = .ok (.aload_n 0, 1) := by decide +kernel
theorem dX11_lays_80 : decode cX11_lays 80 = .ok (.getfield 35, 3) := by decide +kernel
theorem dX11_lays_83 : decode cX11_lays 83 = .ok (.bipush 24, 2) := by decide +kernel
theorem dX11_lays_85 : decode cX11_lays 85 = .ok (.invokestatic 363, 3) := by decide +kernel
theorem dX11_lays_88 : decode cX11_lays 88 = .ok (.aload_n 0, 1) := by decide +kernel
theorem dX11_lays_89 : decode cX11_lays 89 = .ok (.getfield 38, 3) := by decide +kernel
theorem dX11_lays_92 : decode cX11_lays 92 = .ok (.iconst 4, 1) := by decide +kernel
theorem dX11_lays_93 : decode cX11_lays 93 = .ok (.invokestatic 363, 3) := by decide +kernel
theorem dX11_lays_96 : decode cX11_lays 96 = .ok (.aload_n 0, 1) := by decide +kernel
theorem dX11_lays_97 : decode cX11_lays 97 = .ok (.getfield 41, 3) := by decide +kernel
theorem dX11_lays_100 : decode cX11_lays 100 = .ok (.bipush 12, 2) := by decide +kernel
theorem dX11_lays_102 : decode cX11_lays 102 = .ok (.invokestatic 363, 3) := by decide +kernel
theorem dX11_lays_105 : decode cX11_lays 105 = .ok (.aload_n 0, 1) := by decide +kernel
theorem dX11_lays_106 : decode cX11_lays 106 = .ok (.getfield 50, 3) := by decide +kernel
theorem dX11_lays_109 : decode cX11_lays 109 = .ok (.sipush 1000, 3) := by decide +kernel
theorem dX11_lays_112 : decode cX11_lays 112 = .ok (.invokestatic 363, 3) := by decide +kernel
theorem dX11_lays_115 : decode cX11_lays 115 = .ok (.iconst 0, 1) := by decide +kernel
theorem dX11_lays_116 : decode cX11_lays 116 = .ok (.istore_n 1, 1) := by decide +kernel
theorem dX11_lays_117 : decode cX11_lays 117 = .ok (.iload_n 1, 1) := by decide +kernel
theorem dX11_lays_118 : decode cX11_lays 118 = .ok (.iconst 2, 1) := by decide +kernel
theorem dX11_lays_119 : decode cX11_lays 119 = .ok (.if_icmp .ge 45, 3) := by decide +kernel
theorem dX11_lays_122 : decode cX11_lays 122 = .ok (.aload_n 0, 1) := by decide +kernel
theorem dX11_lays_123 : decode cX11_lays 123 = .ok (.getfield 44, 3) := by decide +kernel
theorem dX11_lays_126 : decode cX11_lays 126 = .ok (.iload_n 1, 1) := by decide +kernel
theorem dX11_lays_127 : decode cX11_lays 127 = .ok (.aload_n 0, 1) := by decide +kernel
theorem dX11_lays_128 : decode cX11_lays 128 = .ok (.getfield 44, 3) := by decide +kernel
theorem dX11_lays_131 : decode cX11_lays 131 = .ok (.iconst 2, 1) := by decide +kernel
theorem dX11_lays_132 : decode cX11_lays 132 = .ok (.iload_n 1, 1) := by decide +kernel
theorem dX11_lays_133 : decode cX11_lays 133 = .ok (.iadd, 1) := by decide +kernel
theorem dX11_lays_134 : decode cX11_lays 134 = .ok (.iaload, 1) := by decide +kernel
theorem dX11_lays_135 : decode cX11_lays 135 = .ok (.sipush 1000, 3) := by decide +kernel
theorem dX11_lays_138 : decode cX11_lays 138 = .ok (.isub, 1) := by decide +kernel
theorem dX11_lays_139 : decode cX11_lays 139 = .ok (.iastore, 1) := by decide +kernel
theorem dX11_lays_140 : decode cX11_lays 140 = .ok (.aload_n 0, 1) := by decide +kernel
theorem dX11_lays_141 : decode cX11_lays 141 = .ok (.getfield 47, 3) := by decide +kernel
theorem dX11_lays_144 : decode cX11_lays 144 = .ok (.iload_n 1, 1) := by decide +kernel
theorem dX11_lays_145 : decode cX11_lays 145 = .ok (.aload_n 0, 1) := by decide +kernel
theorem dX11_lays_146 : decode cX11_lays 146 = .ok (.getfield 47, 3) := by decide +kernel
theorem dX11_lays_149 : decode cX11_lays 149 = .ok (.iconst 2, 1) := by decide +kernel
theorem dX11_lays_150 : decode cX11_lays 150 = .ok (.iload_n 1, 1) := by decide +kernel
theorem dX11_lays_151 : decode cX11_lays 151 = .ok (.iadd, 1) := by decide +kernel
theorem dX11_lays_152 : decode cX11_lays 152 = .ok (.iaload, 1) := by decide +kernel
theorem dX11_lays_153 : decode cX11_lays 153 = .ok (.sipush 1000, 3) := by decide +kernel
theorem dX11_lays_156 : decode cX11_lays 156 = .ok (.isub, 1) := by decide +kernel
theorem dX11_lays_157 : decode cX11_lays 157 = .ok (.iastore, 1) := by decide +kernel
theorem dX11_lays_158 : decode cX11_lays 158 = .ok (.iinc 1 1, 3) := by decide +kernel
theorem dX11_lays_161 : decode cX11_lays 161 = .ok (.goto (-44), 3) := by decide +kernel
theorem dX11_lays_164 : decode cX11_lays 164 = .ok (.return_, 1) := by decide +kernel
theorem dX11_copies_0 : decode cX11_copies 0 = .ok (.iconst 0, 1) := by decide +kernel
theorem dX11_copies_1 : decode cX11_copies 1 = .ok (.istore 4, 2) := by decide +kernel
theorem dX11_copies_3 : decode cX11_copies 3 = .ok (.iload 4, 2) := by decide +kernel
theorem dX11_copies_5 : decode cX11_copies 5 = .ok (.bipush 32, 2) := by decide +kernel
theorem dX11_copies_7 : decode cX11_copies 7 = .ok (.if_icmp .ge 21, 3) := by decide +kernel
theorem dX11_copies_10 : decode cX11_copies 10 = .ok (.aload_n 2, 1) := by decide +kernel
theorem dX11_copies_11 : decode cX11_copies 11 = .ok (.iload_n 3, 1) := by decide +kernel
theorem dX11_copies_12 : decode cX11_copies 12 = .ok (.iload 4, 2) := by decide +kernel
theorem dX11_copies_14 : decode cX11_copies 14 = .ok (.iadd, 1) := by decide +kernel
theorem dX11_copies_15 : decode cX11_copies 15 = .ok (.aload_n 0, 1) := by decide +kernel
theorem dX11_copies_16 : decode cX11_copies 16 = .ok (.iload_n 1, 1) := by decide +kernel
theorem dX11_copies_17 : decode cX11_copies 17 = .ok (.iload 4, 2) := by decide +kernel
theorem dX11_copies_19 : decode cX11_copies 19 = .ok (.iadd, 1) := by decide +kernel
theorem dX11_copies_20 : decode cX11_copies 20 = .ok (.iaload, 1) := by decide +kernel
theorem dX11_copies_21 : decode cX11_copies 21 = .ok (.iastore, 1) := by decide +kernel
theorem dX11_copies_22 : decode cX11_copies 22 = .ok (.iinc 4 1, 3) := by decide +kernel
theorem dX11_copies_25 : decode cX11_copies 25 = .ok (.goto (-22), 3) := by decide +kernel
theorem dX11_copies_28 : decode cX11_copies 28 = .ok (.return_, 1) := by decide +kernel
theorem dX11_readsBurn_0 : decode cX11_readsBurn 0 = .ok (.aload_n 0, 1) := by decide +kernel
theorem dX11_readsBurn_1 : decode cX11_readsBurn 1 = .ok (.iconst 0, 1) := by decide +kernel
theorem dX11_readsBurn_2 : decode cX11_readsBurn 2 = .ok (.iconst 2, 1) := by decide +kernel
theorem dX11_readsBurn_3 : decode cX11_readsBurn 3 = .ok (.invokevirtual 326, 3) := by decide +kernel
theorem dX11_readsBurn_6 : decode cX11_readsBurn 6 = .ok (.ifCond .ne 5, 3) := by decide +kernel
theorem dX11_readsBurn_9 : decode cX11_readsBurn 9 = .ok (.iconst 0, 1) := by decide +kernel
theorem dX11_readsBurn_10 : decode cX11_readsBurn 10 = .ok (.ireturn, 1) := by decide +kernel
theorem dX11_readsBurn_11 : decode cX11_readsBurn 11 = .ok (.aload_n 0, 1) := by decide +kernel
theorem dX11_readsBurn_12 : decode cX11_readsBurn 12 = .ok (.getfield 96, 3) := by decide +kernel
theorem dX11_readsBurn_15 : decode cX11_readsBurn 15 = .ok (.iload_n 1, 1) := by decide +kernel
theorem dX11_readsBurn_16 : decode cX11_readsBurn 16 = .ok (.aload_n 0, 1) := by decide +kernel
theorem dX11_readsBurn_17 : decode cX11_readsBurn 17 = .ok (.getfield 293, 3) := by decide +kernel
theorem dX11_readsBurn_20 : decode cX11_readsBurn 20 = .ok (.iastore, 1) := by decide +kernel
theorem dX11_readsBurn_21 : decode cX11_readsBurn 21 = .ok (.aload_n 0, 1) := by decide +kernel
theorem dX11_readsBurn_22 : decode cX11_readsBurn 22 = .ok (.invokevirtual 232, 3) := by decide +kernel
theorem dX11_readsBurn_25 : decode cX11_readsBurn 25 = .ok (.aload_n 0, 1) := by decide +kernel
theorem dX11_readsBurn_26 : decode cX11_readsBurn 26 = .ok (.iconst 0, 1) := by decide +kernel
theorem dX11_readsBurn_27 : decode cX11_readsBurn 27 = .ok (.iconst 0, 1) := by decide +kernel
theorem dX11_readsBurn_28 : decode cX11_readsBurn 28 = .ok (.invokevirtual 326, 3) := by decide +kernel
theorem dX11_readsBurn_31 : decode cX11_readsBurn 31 = .ok (.ifCond .ne 5, 3) := by decide +kernel
theorem dX11_readsBurn_34 : decode cX11_readsBurn 34 = .ok (.iconst 0, 1) := by decide +kernel
theorem dX11_readsBurn_35 : decode cX11_readsBurn 35 = .ok (.ireturn, 1) := by decide +kernel
theorem dX11_readsBurn_36 : decode cX11_readsBurn 36 = .ok (.aload_n 0, 1) := by decide +kernel
theorem dX11_readsBurn_37 : decode cX11_readsBurn 37 = .ok (.getfield 99, 3) := by decide +kernel
theorem dX11_readsBurn_40 : decode cX11_readsBurn 40 = .ok (.iload_n 1, 1) := by decide +kernel
theorem dX11_readsBurn_41 : decode cX11_readsBurn 41 = .ok (.aload_n 0, 1) := by decide +kernel
theorem dX11_readsBurn_42 : decode cX11_readsBurn 42 = .ok (.getfield 293, 3) := by decide +kernel
theorem dX11_readsBurn_45 : decode cX11_readsBurn 45 = .ok (.iastore, 1) := by decide +kernel
theorem dX11_readsBurn_46 : decode cX11_readsBurn 46 = .ok (.aload_n 0, 1) := by decide +kernel
theorem dX11_readsBurn_47 : decode cX11_readsBurn 47 = .ok (.invokevirtual 232, 3) := by decide +kernel
theorem dX11_readsBurn_50 : decode cX11_readsBurn 50 = .ok (.iconst 1, 1) := by decide +kernel
theorem dX11_readsBurn_51 : decode cX11_readsBurn 51 = .ok (.ireturn, 1) := by decide +kernel
theorem dX11_readsLend_0 : decode cX11_readsLend 0 = .ok (.aload_n 0, 1) := by decide +kernel
theorem dX11_readsLend_1 : decode cX11_readsLend 1 = .ok (.iconst 0, 1) := by decide +kernel
theorem dX11_readsLend_2 : decode cX11_readsLend 2 = .ok (.iconst 2, 1) := by decide +kernel
theorem dX11_readsLend_3 : decode cX11_readsLend 3 = .ok (.invokevirtual 326, 3) := by decide +kernel
theorem dX11_readsLend_6 : decode cX11_readsLend 6 = .ok (.ifCond .ne 5, 3) := by decide +kernel
theorem dX11_readsLend_9 : decode cX11_readsLend 9 = .ok (.iconst 0, 1) := by decide +kernel
theorem dX11_readsLend_10 : decode cX11_readsLend 10 = .ok (.ireturn, 1) := by decide +kernel
theorem dX11_readsLend_11 : decode cX11_readsLend 11 = .ok (.aload_n 0, 1) := by decide +kernel
theorem dX11_readsLend_12 : decode cX11_readsLend 12 = .ok (.getfield 96, 3) := by decide +kernel
theorem dX11_readsLend_15 : decode cX11_readsLend 15 = .ok (.iload_n 1, 1) := by decide +kernel
theorem dX11_readsLend_16 : decode cX11_readsLend 16 = .ok (.aload_n 0, 1) := by decide +kernel
theorem dX11_readsLend_17 : decode cX11_readsLend 17 = .ok (.getfield 293, 3) := by decide +kernel
theorem dX11_readsLend_20 : decode cX11_readsLend 20 = .ok (.iastore, 1) := by decide +kernel
theorem dX11_readsLend_21 : decode cX11_readsLend 21 = .ok (.aload_n 0, 1) := by decide +kernel
theorem dX11_readsLend_22 : decode cX11_readsLend 22 = .ok (.invokevirtual 232, 3) := by decide +kernel
theorem dX11_readsLend_25 : decode cX11_readsLend 25 = .ok (.aload_n 0, 1) := by decide +kernel
theorem dX11_readsLend_26 : decode cX11_readsLend 26 = .ok (.iconst 0, 1) := by decide +kernel
theorem dX11_readsLend_27 : decode cX11_readsLend 27 = .ok (.iconst 2, 1) := by decide +kernel
theorem dX11_readsLend_28 : decode cX11_readsLend 28 = .ok (.invokevirtual 326, 3) := by decide +kernel
theorem dX11_readsLend_31 : decode cX11_readsLend 31 = .ok (.ifCond .ne 5, 3) := by decide +kernel
theorem dX11_readsLend_34 : decode cX11_readsLend 34 = .ok (.iconst 0, 1) := by decide +kernel
theorem dX11_readsLend_35 : decode cX11_readsLend 35 = .ok (.ireturn, 1) := by decide +kernel
theorem dX11_readsLend_36 : decode cX11_readsLend 36 = .ok (.aload_n 0, 1) := by decide +kernel
theorem dX11_readsLend_37 : decode cX11_readsLend 37 = .ok (.getfield 293, 3) := by decide +kernel
theorem dX11_readsLend_40 : decode cX11_readsLend 40 = .ok (.aload_n 0, 1) := by decide +kernel
theorem dX11_readsLend_41 : decode cX11_readsLend 41 = .ok (.getfield 96, 3) := by decide +kernel
theorem dX11_readsLend_44 : decode cX11_readsLend 44 = .ok (.iload_n 1, 1) := by decide +kernel
theorem dX11_readsLend_45 : decode cX11_readsLend 45 = .ok (.iaload, 1) := by decide +kernel
theorem dX11_readsLend_46 : decode cX11_readsLend 46 = .ok (.if_icmp .ne 9, 3) := by decide +kernel
theorem dX11_readsLend_49 : decode cX11_readsLend 49 = .ok (.aload_n 0, 1) := by decide +kernel
theorem dX11_readsLend_50 : decode cX11_readsLend 50 = .ok (.iconst 3, 1) := by decide +kernel
theorem dX11_readsLend_51 : decode cX11_readsLend 51 = .ok (.invokevirtual 225, 3) := by decide +kernel
theorem dX11_readsLend_54 : decode cX11_readsLend 54 = .ok (.ireturn, 1) := by decide +kernel
theorem dX11_readsLend_55 : decode cX11_readsLend 55 = .ok (.aload_n 0, 1) := by decide +kernel
theorem dX11_readsLend_56 : decode cX11_readsLend 56 = .ok (.getfield 99, 3) := by decide +kernel
theorem dX11_readsLend_59 : decode cX11_readsLend 59 = .ok (.iload_n 1, 1) := by decide +kernel
theorem dX11_readsLend_60 : decode cX11_readsLend 60 = .ok (.aload_n 0, 1) := by decide +kernel
theorem dX11_readsLend_61 : decode cX11_readsLend 61 = .ok (.getfield 293, 3) := by decide +kernel
theorem dX11_readsLend_64 : decode cX11_readsLend 64 = .ok (.iastore, 1) := by decide +kernel
theorem dX11_readsLend_65 : decode cX11_readsLend 65 = .ok (.aload_n 0, 1) := by decide +kernel
theorem dX11_readsLend_66 : decode cX11_readsLend 66 = .ok (.invokevirtual 232, 3) := by decide +kernel
theorem dX11_readsLend_69 : decode cX11_readsLend 69 = .ok (.aload_n 0, 1) := by decide +kernel
theorem dX11_readsLend_70 : decode cX11_readsLend 70 = .ok (.iconst 0, 1) := by decide +kernel
theorem dX11_readsLend_71 : decode cX11_readsLend 71 = .ok (.iconst 0, 1) := by decide +kernel
theorem dX11_readsLend_72 : decode cX11_readsLend 72 = .ok (.invokevirtual 326, 3) := by decide +kernel
theorem dX11_readsLend_75 : decode cX11_readsLend 75 = .ok (.ifCond .ne 5, 3) := by decide +kernel
theorem dX11_readsLend_78 : decode cX11_readsLend 78 = .ok (.iconst 0, 1) := by decide +kernel
theorem dX11_readsLend_79 : decode cX11_readsLend 79 = .ok (.ireturn, 1) := by decide +kernel
theorem dX11_readsLend_80 : decode cX11_readsLend 80 = .ok (.aload_n 0, 1) := by decide +kernel
theorem dX11_readsLend_81 : decode cX11_readsLend 81 = .ok (.getfield 102, 3) := by decide +kernel
theorem dX11_readsLend_84 : decode cX11_readsLend 84 = .ok (.iload_n 1, 1) := by decide +kernel
theorem dX11_readsLend_85 : decode cX11_readsLend 85 = .ok (.aload_n 0, 1) := by decide +kernel
theorem dX11_readsLend_86 : decode cX11_readsLend 86 = .ok (.getfield 293, 3) := by decide +kernel
theorem dX11_readsLend_89 : decode cX11_readsLend 89 = .ok (.iastore, 1) := by decide +kernel
theorem dX11_readsLend_90 : decode cX11_readsLend 90 = .ok (.aload_n 0, 1) := by decide +kernel
theorem dX11_readsLend_91 : decode cX11_readsLend 91 = .ok (.invokevirtual 232, 3) := by decide +kernel
theorem dX11_readsLend_94 : decode cX11_readsLend 94 = .ok (.aload_n 0, 1) := by decide +kernel
theorem dX11_readsLend_95 : decode cX11_readsLend 95 = .ok (.iconst 1, 1) := by decide +kernel
theorem dX11_readsLend_96 : decode cX11_readsLend 96 = .ok (.bipush 99, 2) := by decide +kernel
theorem dX11_readsLend_98 : decode cX11_readsLend 98 = .ok (.invokevirtual 299, 3) := by decide +kernel
theorem dX11_readsLend_101 : decode cX11_readsLend 101 = .ok (.ifCond .ne 5, 3) := by decide +kernel
theorem dX11_readsLend_104 : decode cX11_readsLend 104 = .ok (.iconst 0, 1) := by decide +kernel
theorem dX11_readsLend_105 : decode cX11_readsLend 105 = .ok (.ireturn, 1) := by decide +kernel
theorem dX11_readsLend_106 : decode cX11_readsLend 106 = .ok (.aload_n 0, 1) := by decide +kernel
theorem dX11_readsLend_107 : decode cX11_readsLend 107 = .ok (.getfield 105, 3) := by decide +kernel
theorem dX11_readsLend_110 : decode cX11_readsLend 110 = .ok (.iload_n 1, 1) := by decide +kernel
theorem dX11_readsLend_111 : decode cX11_readsLend 111 = .ok (.aload_n 0, 1) := by decide +kernel
theorem dX11_readsLend_112 : decode cX11_readsLend 112 = .ok (.getfield 293, 3) := by decide +kernel
theorem dX11_readsLend_115 : decode cX11_readsLend 115 = .ok (.iastore, 1) := by decide +kernel
theorem dX11_readsLend_116 : decode cX11_readsLend 116 = .ok (.iconst 1, 1) := by decide +kernel
theorem dX11_readsLend_117 : decode cX11_readsLend 117 = .ok (.ireturn, 1) := by decide +kernel
theorem dX11_readsLine_0 : decode cX11_readsLine 0 = .ok (.aload_n 0, 1) := by decide +kernel
theorem dX11_readsLine_1 : decode cX11_readsLine 1 = .ok (.ldc2_w 280, 3) := by decide +kernel
theorem dX11_readsLine_4 : decode cX11_readsLine 4 = .ok (.invokevirtual 217, 3) := by decide +kernel
theorem dX11_readsLine_7 : decode cX11_readsLine 7 = .ok (.ifCond .eq 7, 3) := by decide +kernel
theorem dX11_readsLine_10 : decode cX11_readsLine 10 = .ok (.iconst 0, 1) := by decide +kernel
theorem dX11_readsLine_11 : decode cX11_readsLine 11 = .ok (.goto 32, 3) := by decide +kernel
theorem dX11_readsLine_14 : decode cX11_readsLine 14 = .ok (.aload_n 0, 1) := by decide +kernel
theorem dX11_readsLine_15 : decode cX11_readsLine 15 = .ok (.ldc2_w 282, 3) := by decide +kernel
theorem dX11_readsLine_18 : decode cX11_readsLine 18 = .ok (.invokevirtual 217, 3) := by decide +kernel
theorem dX11_readsLine_21 : decode cX11_readsLine 21 = .ok (.ifCond .eq 7, 3) := by decide +kernel
theorem dX11_readsLine_24 : decode cX11_readsLine 24 = .ok (.iconst 1, 1) := by decide +kernel
theorem dX11_readsLine_25 : decode cX11_readsLine 25 = .ok (.goto 18, 3) := by decide +kernel
theorem dX11_readsLine_28 : decode cX11_readsLine 28 = .ok (.aload_n 0, 1) := by decide +kernel
theorem dX11_readsLine_29 : decode cX11_readsLine 29 = .ok (.ldc2_w 284, 3) := by decide +kernel
theorem dX11_readsLine_32 : decode cX11_readsLine 32 = .ok (.invokevirtual 217, 3) := by decide +kernel
theorem dX11_readsLine_35 : decode cX11_readsLine 35 = .ok (.ifCond .eq 7, 3) := by decide +kernel
theorem dX11_readsLine_38 : decode cX11_readsLine 38 = .ok (.iconst 2, 1) := by decide +kernel
theorem dX11_readsLine_39 : decode cX11_readsLine 39 = .ok (.goto 4, 3) := by decide +kernel
theorem dX11_readsLine_42 : decode cX11_readsLine 42 = .ok (.iconst (-1), 1) := by decide +kernel
theorem dX11_readsLine_43 : decode cX11_readsLine 43 = .ok (.istore_n 1, 1) := by decide +kernel
theorem dX11_readsLine_44 : decode cX11_readsLine 44 = .ok (.iload_n 1, 1) := by decide +kernel
theorem dX11_readsLine_45 : decode cX11_readsLine 45 = .ok (.ifCond .ge 9, 3) := by decide +kernel
theorem dX11_readsLine_48 : decode cX11_readsLine 48 = .ok (.aload_n 0, 1) := by decide +kernel
theorem dX11_readsLine_49 : decode cX11_readsLine 49 = .ok (.iconst 1, 1) := by decide +kernel
theorem dX11_readsLine_50 : decode cX11_readsLine 50 = .ok (.invokevirtual 225, 3) := by decide +kernel
theorem dX11_readsLine_53 : decode cX11_readsLine 53 = .ok (.ireturn, 1) := by decide +kernel
theorem dX11_readsLine_54 : decode cX11_readsLine 54 = .ok (.aload_n 0, 1) := by decide +kernel
theorem dX11_readsLine_55 : decode cX11_readsLine 55 = .ok (.getfield 90, 3) := by decide +kernel
theorem dX11_readsLine_58 : decode cX11_readsLine 58 = .ok (.iconst 5, 1) := by decide +kernel
theorem dX11_readsLine_59 : decode cX11_readsLine 59 = .ok (.iaload, 1) := by decide +kernel
theorem dX11_readsLine_60 : decode cX11_readsLine 60 = .ok (.bipush 40, 2) := by decide +kernel
theorem dX11_readsLine_62 : decode cX11_readsLine 62 = .ok (.if_icmp .ne 9, 3) := by decide +kernel
theorem dX11_readsLine_65 : decode cX11_readsLine 65 = .ok (.aload_n 0, 1) := by decide +kernel
theorem dX11_readsLine_66 : decode cX11_readsLine 66 = .ok (.iconst 5, 1) := by decide +kernel
theorem dX11_readsLine_67 : decode cX11_readsLine 67 = .ok (.invokevirtual 225, 3) := by decide +kernel
theorem dX11_readsLine_70 : decode cX11_readsLine 70 = .ok (.ireturn, 1) := by decide +kernel
theorem dX11_readsLine_71 : decode cX11_readsLine 71 = .ok (.aload_n 0, 1) := by decide +kernel
theorem dX11_readsLine_72 : decode cX11_readsLine 72 = .ok (.invokevirtual 232, 3) := by decide +kernel
theorem dX11_readsLine_75 : decode cX11_readsLine 75 = .ok (.sipush 200, 3) := by decide +kernel
theorem dX11_readsLine_78 : decode cX11_readsLine 78 = .ok (.aload_n 0, 1) := by decide +kernel
theorem dX11_readsLine_79 : decode cX11_readsLine 79 = .ok (.getfield 90, 3) := by decide +kernel
theorem dX11_readsLine_82 : decode cX11_readsLine 82 = .ok (.iconst 5, 1) := by decide +kernel
theorem dX11_readsLine_83 : decode cX11_readsLine 83 = .ok (.iaload, 1) := by decide +kernel
theorem dX11_readsLine_84 : decode cX11_readsLine 84 = .ok (.iadd, 1) := by decide +kernel
theorem dX11_readsLine_85 : decode cX11_readsLine 85 = .ok (.istore_n 2, 1) := by decide +kernel
theorem dX11_readsLine_86 : decode cX11_readsLine 86 = .ok (.aload_n 0, 1) := by decide +kernel
theorem dX11_readsLine_87 : decode cX11_readsLine 87 = .ok (.getfield 93, 3) := by decide +kernel
theorem dX11_readsLine_90 : decode cX11_readsLine 90 = .ok (.iload_n 2, 1) := by decide +kernel
theorem dX11_readsLine_91 : decode cX11_readsLine 91 = .ok (.iload_n 1, 1) := by decide +kernel
theorem dX11_readsLine_92 : decode cX11_readsLine 92 = .ok (.iastore, 1) := by decide +kernel
theorem dX11_readsLine_93 : decode cX11_readsLine 93 = .ok (.iload_n 1, 1) := by decide +kernel
theorem dX11_readsLine_94 : decode cX11_readsLine 94 = .ok (.ifCond .ne 11, 3) := by decide +kernel
theorem dX11_readsLine_97 : decode cX11_readsLine 97 = .ok (.aload_n 0, 1) := by decide +kernel
theorem dX11_readsLine_98 : decode cX11_readsLine 98 = .ok (.iload_n 2, 1) := by decide +kernel
theorem dX11_readsLine_99 : decode cX11_readsLine 99 = .ok (.invokevirtual 367, 3) := by decide +kernel
theorem dX11_readsLine_102 : decode cX11_readsLine 102 = .ok (.ifCond .eq 16, 3) := by decide +kernel
theorem dX11_readsLine_105 : decode cX11_readsLine 105 = .ok (.iload_n 1, 1) := by decide +kernel
theorem dX11_readsLine_106 : decode cX11_readsLine 106 = .ok (.iconst 1, 1) := by decide +kernel
theorem dX11_readsLine_107 : decode cX11_readsLine 107 = .ok (.if_icmp .ne 13, 3) := by decide +kernel
theorem dX11_readsLine_110 : decode cX11_readsLine 110 = .ok (.aload_n 0, 1) := by decide +kernel
theorem dX11_readsLine_111 : decode cX11_readsLine 111 = .ok (.iload_n 2, 1) := by decide +kernel
theorem dX11_readsLine_112 : decode cX11_readsLine 112 = .ok (.invokevirtual 370, 3) := by decide +kernel
theorem dX11_readsLine_115 : decode cX11_readsLine 115 = .ok (.ifCond .ne 5, 3) := by decide +kernel
theorem dX11_readsLine_118 : decode cX11_readsLine 118 = .ok (.iconst 0, 1) := by decide +kernel
theorem dX11_readsLine_119 : decode cX11_readsLine 119 = .ok (.ireturn, 1) := by decide +kernel
theorem dX11_readsLine_120 : decode cX11_readsLine 120 = .ok (.aload_n 0, 1) := by decide +kernel
theorem dX11_readsLine_121 : decode cX11_readsLine 121 = .ok (.getfield 90, 3) := by decide +kernel
theorem dX11_readsLine_124 : decode cX11_readsLine 124 = .ok (.iconst 5, 1) := by decide +kernel
theorem dX11_readsLine_125 : decode cX11_readsLine 125 = .ok (.dup2, 1) := by decide +kernel
theorem dX11_readsLine_126 : decode cX11_readsLine 126 = .ok (.iaload, 1) := by decide +kernel
theorem dX11_readsLine_127 : decode cX11_readsLine 127 = .ok (.iconst 1, 1) := by decide +kernel
theorem dX11_readsLine_128 : decode cX11_readsLine 128 = .ok (.iadd, 1) := by decide +kernel
theorem dX11_readsLine_129 : decode cX11_readsLine 129 = .ok (.iastore, 1) := by decide +kernel
theorem dX11_readsLine_130 : decode cX11_readsLine 130 = .ok (.aload_n 0, 1) := by decide +kernel
theorem dX11_readsLine_131 : decode cX11_readsLine 131 = .ok (.invokevirtual 323, 3) := by decide +kernel
theorem dX11_readsLine_134 : decode cX11_readsLine 134 = .ok (.ireturn, 1) := by decide +kernel
theorem dX11_laysLines_0 : decode cX11_laysLines 0 = .ok (.aload_n 0, 1) := by decide +kernel
theorem dX11_laysLines_1 : decode cX11_laysLines 1 = .ok (.getfield 90, 3) := by decide +kernel
theorem dX11_laysLines_4 : decode cX11_laysLines 4 = .ok (.iload_n 2, 1) := by decide +kernel
theorem dX11_laysLines_5 : decode cX11_laysLines 5 = .ok (.aload_n 0, 1) := by decide +kernel
theorem dX11_laysLines_6 : decode cX11_laysLines 6 = .ok (.getfield 90, 3) := by decide +kernel
theorem dX11_laysLines_9 : decode cX11_laysLines 9 = .ok (.iload_n 1, 1) := by decide +kernel
theorem dX11_laysLines_10 : decode cX11_laysLines 10 = .ok (.iaload, 1) := by decide +kernel
theorem dX11_laysLines_11 : decode cX11_laysLines 11 = .ok (.iastore, 1) := by decide +kernel
theorem dX11_laysLines_12 : decode cX11_laysLines 12 = .ok (.iconst 0, 1) := by decide +kernel
theorem dX11_laysLines_13 : decode cX11_laysLines 13 = .ok (.istore_n 3, 1) := by decide +kernel
theorem dX11_laysLines_14 : decode cX11_laysLines 14 = .ok (.iload_n 3, 1) := by decide +kernel
theorem dX11_laysLines_15 : decode cX11_laysLines 15 = .ok (.bipush 40, 2) := by decide +kernel
theorem dX11_laysLines_17 : decode cX11_laysLines 17 = .ok (.if_icmp .ge 119, 3) := by decide +kernel
theorem dX11_laysLines_20 : decode cX11_laysLines 20 = .ok (.aload_n 0, 1) := by decide +kernel
theorem dX11_laysLines_21 : decode cX11_laysLines 21 = .ok (.getfield 93, 3) := by decide +kernel
theorem dX11_laysLines_24 : decode cX11_laysLines 24 = .ok (.bipush 40, 2) := by decide +kernel
theorem dX11_laysLines_26 : decode cX11_laysLines 26 = .ok (.iload_n 2, 1) := by decide +kernel
theorem dX11_laysLines_27 : decode cX11_laysLines 27 = .ok (.imul, 1) := by decide +kernel
theorem dX11_laysLines_28 : decode cX11_laysLines 28 = .ok (.iload_n 3, 1) := by decide +kernel
theorem dX11_laysLines_29 : decode cX11_laysLines 29 = .ok (.iadd, 1) := by decide +kernel
theorem dX11_laysLines_30 : decode cX11_laysLines 30 = .ok (.aload_n 0, 1) := by decide +kernel
theorem dX11_laysLines_31 : decode cX11_laysLines 31 = .ok (.getfield 93, 3) := by decide +kernel
theorem dX11_laysLines_34 : decode cX11_laysLines 34 = .ok (.bipush 40, 2) := by decide +kernel
theorem dX11_laysLines_36 : decode cX11_laysLines 36 = .ok (.iload_n 1, 1) := by decide +kernel
theorem dX11_laysLines_37 : decode cX11_laysLines 37 = .ok (.imul, 1) := by decide +kernel
theorem dX11_laysLines_38 : decode cX11_laysLines 38 = .ok (.iload_n 3, 1) := by decide +kernel
theorem dX11_laysLines_39 : decode cX11_laysLines 39 = .ok (.iadd, 1) := by decide +kernel
theorem dX11_laysLines_40 : decode cX11_laysLines 40 = .ok (.iaload, 1) := by decide +kernel
theorem dX11_laysLines_41 : decode cX11_laysLines 41 = .ok (.iastore, 1) := by decide +kernel
theorem dX11_laysLines_42 : decode cX11_laysLines 42 = .ok (.aload_n 0, 1) := by decide +kernel
theorem dX11_laysLines_43 : decode cX11_laysLines 43 = .ok (.getfield 96, 3) := by decide +kernel
theorem dX11_laysLines_46 : decode cX11_laysLines 46 = .ok (.bipush 40, 2) := by decide +kernel
theorem dX11_laysLines_48 : decode cX11_laysLines 48 = .ok (.iload_n 2, 1) := by decide +kernel
theorem dX11_laysLines_49 : decode cX11_laysLines 49 = .ok (.imul, 1) := by decide +kernel
theorem dX11_laysLines_50 : decode cX11_laysLines 50 = .ok (.iload_n 3, 1) := by decide +kernel
theorem dX11_laysLines_51 : decode cX11_laysLines 51 = .ok (.iadd, 1) := by decide +kernel
theorem dX11_laysLines_52 : decode cX11_laysLines 52 = .ok (.aload_n 0, 1) := by decide +kernel
theorem dX11_laysLines_53 : decode cX11_laysLines 53 = .ok (.getfield 96, 3) := by decide +kernel
theorem dX11_laysLines_56 : decode cX11_laysLines 56 = .ok (.bipush 40, 2) := by decide +kernel
theorem dX11_laysLines_58 : decode cX11_laysLines 58 = .ok (.iload_n 1, 1) := by decide +kernel
theorem dX11_laysLines_59 : decode cX11_laysLines 59 = .ok (.imul, 1) := by decide +kernel
theorem dX11_laysLines_60 : decode cX11_laysLines 60 = .ok (.iload_n 3, 1) := by decide +kernel
theorem dX11_laysLines_61 : decode cX11_laysLines 61 = .ok (.iadd, 1) := by decide +kernel
theorem dX11_laysLines_62 : decode cX11_laysLines 62 = .ok (.iaload, 1) := by decide +kernel
theorem dX11_laysLines_63 : decode cX11_laysLines 63 = .ok (.iastore, 1) := by decide +kernel
theorem dX11_laysLines_64 : decode cX11_laysLines 64 = .ok (.aload_n 0, 1) := by decide +kernel
theorem dX11_laysLines_65 : decode cX11_laysLines 65 = .ok (.getfield 99, 3) := by decide +kernel
theorem dX11_laysLines_68 : decode cX11_laysLines 68 = .ok (.bipush 40, 2) := by decide +kernel
theorem dX11_laysLines_70 : decode cX11_laysLines 70 = .ok (.iload_n 2, 1) := by decide +kernel
theorem dX11_laysLines_71 : decode cX11_laysLines 71 = .ok (.imul, 1) := by decide +kernel
theorem dX11_laysLines_72 : decode cX11_laysLines 72 = .ok (.iload_n 3, 1) := by decide +kernel
theorem dX11_laysLines_73 : decode cX11_laysLines 73 = .ok (.iadd, 1) := by decide +kernel
theorem dX11_laysLines_74 : decode cX11_laysLines 74 = .ok (.aload_n 0, 1) := by decide +kernel
theorem dX11_laysLines_75 : decode cX11_laysLines 75 = .ok (.getfield 99, 3) := by decide +kernel
theorem dX11_laysLines_78 : decode cX11_laysLines 78 = .ok (.bipush 40, 2) := by decide +kernel
theorem dX11_laysLines_80 : decode cX11_laysLines 80 = .ok (.iload_n 1, 1) := by decide +kernel
theorem dX11_laysLines_81 : decode cX11_laysLines 81 = .ok (.imul, 1) := by decide +kernel
theorem dX11_laysLines_82 : decode cX11_laysLines 82 = .ok (.iload_n 3, 1) := by decide +kernel
theorem dX11_laysLines_83 : decode cX11_laysLines 83 = .ok (.iadd, 1) := by decide +kernel
theorem dX11_laysLines_84 : decode cX11_laysLines 84 = .ok (.iaload, 1) := by decide +kernel
theorem dX11_laysLines_85 : decode cX11_laysLines 85 = .ok (.iastore, 1) := by decide +kernel
theorem dX11_laysLines_86 : decode cX11_laysLines 86 = .ok (.aload_n 0, 1) := by decide +kernel
theorem dX11_laysLines_87 : decode cX11_laysLines 87 = .ok (.getfield 102, 3) := by decide +kernel
theorem dX11_laysLines_90 : decode cX11_laysLines 90 = .ok (.bipush 40, 2) := by decide +kernel
theorem dX11_laysLines_92 : decode cX11_laysLines 92 = .ok (.iload_n 2, 1) := by decide +kernel
theorem dX11_laysLines_93 : decode cX11_laysLines 93 = .ok (.imul, 1) := by decide +kernel
theorem dX11_laysLines_94 : decode cX11_laysLines 94 = .ok (.iload_n 3, 1) := by decide +kernel
theorem dX11_laysLines_95 : decode cX11_laysLines 95 = .ok (.iadd, 1) := by decide +kernel
theorem dX11_laysLines_96 : decode cX11_laysLines 96 = .ok (.aload_n 0, 1) := by decide +kernel
theorem dX11_laysLines_97 : decode cX11_laysLines 97 = .ok (.getfield 102, 3) := by decide +kernel
theorem dX11_laysLines_100 : decode cX11_laysLines 100 = .ok (.bipush 40, 2) := by decide +kernel
theorem dX11_laysLines_102 : decode cX11_laysLines 102 = .ok (.iload_n 1, 1) := by decide +kernel
theorem dX11_laysLines_103 : decode cX11_laysLines 103 = .ok (.imul, 1) := by decide +kernel
theorem dX11_laysLines_104 : decode cX11_laysLines 104 = .ok (.iload_n 3, 1) := by decide +kernel
theorem dX11_laysLines_105 : decode cX11_laysLines 105 = .ok (.iadd, 1) := by decide +kernel
theorem dX11_laysLines_106 : decode cX11_laysLines 106 = .ok (.iaload, 1) := by decide +kernel
theorem dX11_laysLines_107 : decode cX11_laysLines 107 = .ok (.iastore, 1) := by decide +kernel
theorem dX11_laysLines_108 : decode cX11_laysLines 108 = .ok (.aload_n 0, 1) := by decide +kernel
theorem dX11_laysLines_109 : decode cX11_laysLines 109 = .ok (.getfield 105, 3) := by decide +kernel
theorem dX11_laysLines_112 : decode cX11_laysLines 112 = .ok (.bipush 40, 2) := by decide +kernel
theorem dX11_laysLines_114 : decode cX11_laysLines 114 = .ok (.iload_n 2, 1) := by decide +kernel
theorem dX11_laysLines_115 : decode cX11_laysLines 115 = .ok (.imul, 1) := by decide +kernel
theorem dX11_laysLines_116 : decode cX11_laysLines 116 = .ok (.iload_n 3, 1) := by decide +kernel
theorem dX11_laysLines_117 : decode cX11_laysLines 117 = .ok (.iadd, 1) := by decide +kernel
theorem dX11_laysLines_118 : decode cX11_laysLines 118 = .ok (.aload_n 0, 1) := by decide +kernel
theorem dX11_laysLines_119 : decode cX11_laysLines 119 = .ok (.getfield 105, 3) := by decide +kernel
theorem dX11_laysLines_122 : decode cX11_laysLines 122 = .ok (.bipush 40, 2) := by decide +kernel
theorem dX11_laysLines_124 : decode cX11_laysLines 124 = .ok (.iload_n 1, 1) := by decide +kernel
theorem dX11_laysLines_125 : decode cX11_laysLines 125 = .ok (.imul, 1) := by decide +kernel
theorem dX11_laysLines_126 : decode cX11_laysLines 126 = .ok (.iload_n 3, 1) := by decide +kernel
theorem dX11_laysLines_127 : decode cX11_laysLines 127 = .ok (.iadd, 1) := by decide +kernel
theorem dX11_laysLines_128 : decode cX11_laysLines 128 = .ok (.iaload, 1) := by decide +kernel
theorem dX11_laysLines_129 : decode cX11_laysLines 129 = .ok (.iastore, 1) := by decide +kernel
theorem dX11_laysLines_130 : decode cX11_laysLines 130 = .ok (.iinc 3 1, 3) := by decide +kernel
theorem dX11_laysLines_133 : decode cX11_laysLines 133 = .ok (.goto (-119), 3) := by decide +kernel
theorem dX11_laysLines_136 : decode cX11_laysLines 136 = .ok (.return_, 1) := by decide +kernel
theorem dX11_laysSeen_0 : decode cX11_laysSeen 0 = .ok (.aload_n 0, 1) := by decide +kernel
theorem dX11_laysSeen_1 : decode cX11_laysSeen 1 = .ok (.getfield 108, 3) := by decide +kernel
theorem dX11_laysSeen_4 : decode cX11_laysSeen 4 = .ok (.iload_n 2, 1) := by decide +kernel
theorem dX11_laysSeen_5 : decode cX11_laysSeen 5 = .ok (.aload_n 0, 1) := by decide +kernel
theorem dX11_laysSeen_6 : decode cX11_laysSeen 6 = .ok (.getfield 108, 3) := by decide +kernel
theorem dX11_laysSeen_9 : decode cX11_laysSeen 9 = .ok (.iload_n 1, 1) := by decide +kernel
theorem dX11_laysSeen_10 : decode cX11_laysSeen 10 = .ok (.iaload, 1) := by decide +kernel
theorem dX11_laysSeen_11 : decode cX11_laysSeen 11 = .ok (.iastore, 1) := by decide +kernel
theorem dX11_laysSeen_12 : decode cX11_laysSeen 12 = .ok (.iconst 0, 1) := by decide +kernel
theorem dX11_laysSeen_13 : decode cX11_laysSeen 13 = .ok (.istore_n 3, 1) := by decide +kernel
theorem dX11_laysSeen_14 : decode cX11_laysSeen 14 = .ok (.iload_n 3, 1) := by decide +kernel
theorem dX11_laysSeen_15 : decode cX11_laysSeen 15 = .ok (.bipush 8, 2) := by decide +kernel
theorem dX11_laysSeen_17 : decode cX11_laysSeen 17 = .ok (.if_icmp .ge 75, 3) := by decide +kernel
theorem dX11_laysSeen_20 : decode cX11_laysSeen 20 = .ok (.aload_n 0, 1) := by decide +kernel
theorem dX11_laysSeen_21 : decode cX11_laysSeen 21 = .ok (.getfield 111, 3) := by decide +kernel
theorem dX11_laysSeen_24 : decode cX11_laysSeen 24 = .ok (.bipush 8, 2) := by decide +kernel
theorem dX11_laysSeen_26 : decode cX11_laysSeen 26 = .ok (.iload_n 2, 1) := by decide +kernel
theorem dX11_laysSeen_27 : decode cX11_laysSeen 27 = .ok (.imul, 1) := by decide +kernel
theorem dX11_laysSeen_28 : decode cX11_laysSeen 28 = .ok (.iload_n 3, 1) := by decide +kernel
theorem dX11_laysSeen_29 : decode cX11_laysSeen 29 = .ok (.iadd, 1) := by decide +kernel
theorem dX11_laysSeen_30 : decode cX11_laysSeen 30 = .ok (.aload_n 0, 1) := by decide +kernel
theorem dX11_laysSeen_31 : decode cX11_laysSeen 31 = .ok (.getfield 111, 3) := by decide +kernel
theorem dX11_laysSeen_34 : decode cX11_laysSeen 34 = .ok (.bipush 8, 2) := by decide +kernel
theorem dX11_laysSeen_36 : decode cX11_laysSeen 36 = .ok (.iload_n 1, 1) := by decide +kernel
theorem dX11_laysSeen_37 : decode cX11_laysSeen 37 = .ok (.imul, 1) := by decide +kernel
theorem dX11_laysSeen_38 : decode cX11_laysSeen 38 = .ok (.iload_n 3, 1) := by decide +kernel
theorem dX11_laysSeen_39 : decode cX11_laysSeen 39 = .ok (.iadd, 1) := by decide +kernel
theorem dX11_laysSeen_40 : decode cX11_laysSeen 40 = .ok (.iaload, 1) := by decide +kernel
theorem dX11_laysSeen_41 : decode cX11_laysSeen 41 = .ok (.iastore, 1) := by decide +kernel
theorem dX11_laysSeen_42 : decode cX11_laysSeen 42 = .ok (.aload_n 0, 1) := by decide +kernel
theorem dX11_laysSeen_43 : decode cX11_laysSeen 43 = .ok (.getfield 114, 3) := by decide +kernel
theorem dX11_laysSeen_46 : decode cX11_laysSeen 46 = .ok (.bipush 8, 2) := by decide +kernel
theorem dX11_laysSeen_48 : decode cX11_laysSeen 48 = .ok (.iload_n 2, 1) := by decide +kernel
theorem dX11_laysSeen_49 : decode cX11_laysSeen 49 = .ok (.imul, 1) := by decide +kernel
theorem dX11_laysSeen_50 : decode cX11_laysSeen 50 = .ok (.iload_n 3, 1) := by decide +kernel
theorem dX11_laysSeen_51 : decode cX11_laysSeen 51 = .ok (.iadd, 1) := by decide +kernel
theorem dX11_laysSeen_52 : decode cX11_laysSeen 52 = .ok (.aload_n 0, 1) := by decide +kernel
theorem dX11_laysSeen_53 : decode cX11_laysSeen 53 = .ok (.getfield 114, 3) := by decide +kernel
theorem dX11_laysSeen_56 : decode cX11_laysSeen 56 = .ok (.bipush 8, 2) := by decide +kernel
theorem dX11_laysSeen_58 : decode cX11_laysSeen 58 = .ok (.iload_n 1, 1) := by decide +kernel
theorem dX11_laysSeen_59 : decode cX11_laysSeen 59 = .ok (.imul, 1) := by decide +kernel
theorem dX11_laysSeen_60 : decode cX11_laysSeen 60 = .ok (.iload_n 3, 1) := by decide +kernel
theorem dX11_laysSeen_61 : decode cX11_laysSeen 61 = .ok (.iadd, 1) := by decide +kernel
theorem dX11_laysSeen_62 : decode cX11_laysSeen 62 = .ok (.iaload, 1) := by decide +kernel
theorem dX11_laysSeen_63 : decode cX11_laysSeen 63 = .ok (.iastore, 1) := by decide +kernel
theorem dX11_laysSeen_64 : decode cX11_laysSeen 64 = .ok (.aload_n 0, 1) := by decide +kernel
theorem dX11_laysSeen_65 : decode cX11_laysSeen 65 = .ok (.getfield 117, 3) := by decide +kernel
theorem dX11_laysSeen_68 : decode cX11_laysSeen 68 = .ok (.bipush 8, 2) := by decide +kernel
theorem dX11_laysSeen_70 : decode cX11_laysSeen 70 = .ok (.iload_n 2, 1) := by decide +kernel
theorem dX11_laysSeen_71 : decode cX11_laysSeen 71 = .ok (.imul, 1) := by decide +kernel
theorem dX11_laysSeen_72 : decode cX11_laysSeen 72 = .ok (.iload_n 3, 1) := by decide +kernel
theorem dX11_laysSeen_73 : decode cX11_laysSeen 73 = .ok (.iadd, 1) := by decide +kernel
theorem dX11_laysSeen_74 : decode cX11_laysSeen 74 = .ok (.aload_n 0, 1) := by decide +kernel
theorem dX11_laysSeen_75 : decode cX11_laysSeen 75 = .ok (.getfield 117, 3) := by decide +kernel
theorem dX11_laysSeen_78 : decode cX11_laysSeen 78 = .ok (.bipush 8, 2) := by decide +kernel
theorem dX11_laysSeen_80 : decode cX11_laysSeen 80 = .ok (.iload_n 1, 1) := by decide +kernel
theorem dX11_laysSeen_81 : decode cX11_laysSeen 81 = .ok (.imul, 1) := by decide +kernel
theorem dX11_laysSeen_82 : decode cX11_laysSeen 82 = .ok (.iload_n 3, 1) := by decide +kernel
theorem dX11_laysSeen_83 : decode cX11_laysSeen 83 = .ok (.iadd, 1) := by decide +kernel
theorem dX11_laysSeen_84 : decode cX11_laysSeen 84 = .ok (.iaload, 1) := by decide +kernel
theorem dX11_laysSeen_85 : decode cX11_laysSeen 85 = .ok (.iastore, 1) := by decide +kernel
theorem dX11_laysSeen_86 : decode cX11_laysSeen 86 = .ok (.iinc 3 1, 3) := by decide +kernel
theorem dX11_laysSeen_89 : decode cX11_laysSeen 89 = .ok (.goto (-75), 3) := by decide +kernel
theorem dX11_laysSeen_92 : decode cX11_laysSeen 92 = .ok (.return_, 1) := by decide +kernel
theorem dX11_fresh_0 : decode cX11_fresh 0 = .ok (.iconst 0, 1) := by decide +kernel
theorem dX11_fresh_1 : decode cX11_fresh 1 = .ok (.istore_n 1, 1) := by decide +kernel
theorem dX11_fresh_2 : decode cX11_fresh 2 = .ok (.iload_n 1, 1) := by decide +kernel
theorem dX11_fresh_3 : decode cX11_fresh 3 = .ok (.bipush 32, 2) := by decide +kernel
theorem dX11_fresh_5 : decode cX11_fresh 5 = .ok (.if_icmp .ge 16, 3) := by decide +kernel
theorem dX11_fresh_8 : decode cX11_fresh 8 = .ok (.aload_n 0, 1) := by decide +kernel
theorem dX11_fresh_9 : decode cX11_fresh 9 = .ok (.getfield 120, 3) := by decide +kernel
theorem dX11_fresh_12 : decode cX11_fresh 12 = .ok (.iload_n 1, 1) := by decide +kernel
theorem dX11_fresh_13 : decode cX11_fresh 13 = .ok (.iconst 0, 1) := by decide +kernel
theorem dX11_fresh_14 : decode cX11_fresh 14 = .ok (.iastore, 1) := by decide +kernel
theorem dX11_fresh_15 : decode cX11_fresh 15 = .ok (.iinc 1 1, 3) := by decide +kernel
theorem dX11_fresh_18 : decode cX11_fresh 18 = .ok (.goto (-16), 3) := by decide +kernel
theorem dX11_fresh_21 : decode cX11_fresh 21 = .ok (.iconst 0, 1) := by decide +kernel
theorem dX11_fresh_22 : decode cX11_fresh 22 = .ok (.istore_n 1, 1) := by decide +kernel
theorem dX11_fresh_23 : decode cX11_fresh 23 = .ok (.iload_n 1, 1) := by decide +kernel
theorem dX11_fresh_24 : decode cX11_fresh 24 = .ok (.iconst 4, 1) := by decide +kernel
theorem dX11_fresh_25 : decode cX11_fresh 25 = .ok (.if_icmp .ge 18, 3) := by decide +kernel
theorem dX11_fresh_28 : decode cX11_fresh 28 = .ok (.aload_n 0, 1) := by decide +kernel
theorem dX11_fresh_29 : decode cX11_fresh 29 = .ok (.getfield 120, 3) := by decide +kernel
theorem dX11_fresh_32 : decode cX11_fresh 32 = .ok (.iconst 1, 1) := by decide +kernel
theorem dX11_fresh_33 : decode cX11_fresh 33 = .ok (.iload_n 1, 1) := by decide +kernel
theorem dX11_fresh_34 : decode cX11_fresh 34 = .ok (.iadd, 1) := by decide +kernel
theorem dX11_fresh_35 : decode cX11_fresh 35 = .ok (.iconst (-1), 1) := by decide +kernel
theorem dX11_fresh_36 : decode cX11_fresh 36 = .ok (.iastore, 1) := by decide +kernel
theorem dX11_fresh_37 : decode cX11_fresh 37 = .ok (.iinc 1 1, 3) := by decide +kernel
theorem dX11_fresh_40 : decode cX11_fresh 40 = .ok (.goto (-17), 3) := by decide +kernel
theorem dX11_fresh_43 : decode cX11_fresh 43 = .ok (.iconst 0, 1) := by decide +kernel
theorem dX11_fresh_44 : decode cX11_fresh 44 = .ok (.istore_n 1, 1) := by decide +kernel
theorem dX11_fresh_45 : decode cX11_fresh 45 = .ok (.iload_n 1, 1) := by decide +kernel
theorem dX11_fresh_46 : decode cX11_fresh 46 = .ok (.aload_n 0, 1) := by decide +kernel
theorem dX11_fresh_47 : decode cX11_fresh 47 = .ok (.getfield 13, 3) := by decide +kernel
theorem dX11_fresh_50 : decode cX11_fresh 50 = .ok (.iconst 2, 1) := by decide +kernel
theorem dX11_fresh_51 : decode cX11_fresh 51 = .ok (.iaload, 1) := by decide +kernel
theorem dX11_fresh_52 : decode cX11_fresh 52 = .ok (.if_icmp .ge 49, 3) := by decide +kernel
theorem dX11_fresh_55 : decode cX11_fresh 55 = .ok (.iconst 0, 1) := by decide +kernel
theorem dX11_fresh_56 : decode cX11_fresh 56 = .ok (.istore_n 2, 1) := by decide +kernel
theorem dX11_fresh_57 : decode cX11_fresh 57 = .ok (.iload_n 2, 1) := by decide +kernel
theorem dX11_fresh_58 : decode cX11_fresh 58 = .ok (.iconst 5, 1) := by decide +kernel
theorem dX11_fresh_59 : decode cX11_fresh 59 = .ok (.if_icmp .ge 36, 3) := by decide +kernel
theorem dX11_fresh_62 : decode cX11_fresh 62 = .ok (.aload_n 0, 1) := by decide +kernel
theorem dX11_fresh_63 : decode cX11_fresh 63 = .ok (.getfield 120, 3) := by decide +kernel
theorem dX11_fresh_66 : decode cX11_fresh 66 = .ok (.bipush 9, 2) := by decide +kernel
theorem dX11_fresh_68 : decode cX11_fresh 68 = .ok (.iconst 5, 1) := by decide +kernel
theorem dX11_fresh_69 : decode cX11_fresh 69 = .ok (.iload_n 1, 1) := by decide +kernel
theorem dX11_fresh_70 : decode cX11_fresh 70 = .ok (.imul, 1) := by decide +kernel
theorem dX11_fresh_71 : decode cX11_fresh 71 = .ok (.iadd, 1) := by decide +kernel
theorem dX11_fresh_72 : decode cX11_fresh 72 = .ok (.iload_n 2, 1) := by decide +kernel
theorem dX11_fresh_73 : decode cX11_fresh 73 = .ok (.iadd, 1) := by decide +kernel
theorem dX11_fresh_74 : decode cX11_fresh 74 = .ok (.iconst 0, 1) := by decide +kernel
theorem dX11_fresh_75 : decode cX11_fresh 75 = .ok (.aload_n 0, 1) := by decide +kernel
theorem dX11_fresh_76 : decode cX11_fresh 76 = .ok (.getfield 32, 3) := by decide +kernel
theorem dX11_fresh_79 : decode cX11_fresh 79 = .ok (.iconst 5, 1) := by decide +kernel
theorem dX11_fresh_80 : decode cX11_fresh 80 = .ok (.iload_n 1, 1) := by decide +kernel
theorem dX11_fresh_81 : decode cX11_fresh 81 = .ok (.imul, 1) := by decide +kernel
theorem dX11_fresh_82 : decode cX11_fresh 82 = .ok (.iload_n 2, 1) := by decide +kernel
theorem dX11_fresh_83 : decode cX11_fresh 83 = .ok (.iadd, 1) := by decide +kernel
theorem dX11_fresh_84 : decode cX11_fresh 84 = .ok (.iaload, 1) := by decide +kernel
theorem dX11_fresh_85 : decode cX11_fresh 85 = .ok (.invokestatic 373, 3) := by decide +kernel
theorem dX11_fresh_88 : decode cX11_fresh 88 = .ok (.iastore, 1) := by decide +kernel
theorem dX11_fresh_89 : decode cX11_fresh 89 = .ok (.iinc 2 1, 3) := by decide +kernel
theorem dX11_fresh_92 : decode cX11_fresh 92 = .ok (.goto (-35), 3) := by decide +kernel
theorem dX11_fresh_95 : decode cX11_fresh 95 = .ok (.iinc 1 1, 3) := by decide +kernel
theorem dX11_fresh_98 : decode cX11_fresh 98 = .ok (.goto (-53), 3) := by decide +kernel
theorem dX11_fresh_101 : decode cX11_fresh 101 = .ok (.return_, 1) := by decide +kernel
theorem dX11_valley_0 : decode cX11_valley 0 = .ok (.aload_n 0, 1) := by decide +kernel
theorem dX11_valley_1 : decode cX11_valley 1 = .ok (.iconst 0, 1) := by decide +kernel
theorem dX11_valley_2 : decode cX11_valley 2 = .ok (.putfield 156, 3) := by decide +kernel
theorem dX11_valley_5 : decode cX11_valley 5 = .ok (.aload_n 0, 1) := by decide +kernel
theorem dX11_valley_6 : decode cX11_valley 6 = .ok (.invokevirtual 378, 3) := by decide +kernel
theorem dX11_valley_9 : decode cX11_valley 9 = .ok (.ifCond .ne 8, 3) := by decide +kernel
theorem dX11_valley_12 : decode cX11_valley 12 = .ok (.aload_n 0, 1) := by decide +kernel
theorem dX11_valley_13 : decode cX11_valley 13 = .ok (.getfield 192, 3) := by decide +kernel
theorem dX11_valley_16 : decode cX11_valley 16 = .ok (.ireturn, 1) := by decide +kernel
theorem dX11_valley_17 : decode cX11_valley 17 = .ok (.aload_n 0, 1) := by decide +kernel
theorem dX11_valley_18 : decode cX11_valley 18 = .ok (.invokevirtual 381, 3) := by decide +kernel
theorem dX11_valley_21 : decode cX11_valley 21 = .ok (.aload_n 0, 1) := by decide +kernel
theorem dX11_valley_22 : decode cX11_valley 22 = .ok (.invokevirtual 153, 3) := by decide +kernel
theorem dX11_valley_25 : decode cX11_valley 25 = .ok (.aload_n 0, 1) := by decide +kernel
theorem dX11_valley_26 : decode cX11_valley 26 = .ok (.getfield 90, 3) := by decide +kernel
theorem dX11_valley_29 : decode cX11_valley 29 = .ok (.iconst 0, 1) := by decide +kernel
theorem dX11_valley_30 : decode cX11_valley 30 = .ok (.iconst 0, 1) := by decide +kernel
theorem dX11_valley_31 : decode cX11_valley 31 = .ok (.iastore, 1) := by decide +kernel
theorem dX11_valley_32 : decode cX11_valley 32 = .ok (.aload_n 0, 1) := by decide +kernel
theorem dX11_valley_33 : decode cX11_valley 33 = .ok (.getfield 108, 3) := by decide +kernel
theorem dX11_valley_36 : decode cX11_valley 36 = .ok (.iconst 0, 1) := by decide +kernel
theorem dX11_valley_37 : decode cX11_valley 37 = .ok (.iconst 0, 1) := by decide +kernel
theorem dX11_valley_38 : decode cX11_valley 38 = .ok (.iastore, 1) := by decide +kernel
theorem dX11_valley_39 : decode cX11_valley 39 = .ok (.aload_n 0, 1) := by decide +kernel
theorem dX11_valley_40 : decode cX11_valley 40 = .ok (.iconst 0, 1) := by decide +kernel
theorem dX11_valley_41 : decode cX11_valley 41 = .ok (.putfield 384, 3) := by decide +kernel
theorem dX11_valley_44 : decode cX11_valley 44 = .ok (.iconst 0, 1) := by decide +kernel
theorem dX11_valley_45 : decode cX11_valley 45 = .ok (.istore_n 1, 1) := by decide +kernel
theorem dX11_valley_46 : decode cX11_valley 46 = .ok (.iload_n 1, 1) := by decide +kernel
theorem dX11_valley_47 : decode cX11_valley 47 = .ok (.iconst 4, 1) := by decide +kernel
theorem dX11_valley_48 : decode cX11_valley 48 = .ok (.if_icmp .ge 16, 3) := by decide +kernel
theorem dX11_valley_51 : decode cX11_valley 51 = .ok (.aload_n 0, 1) := by decide +kernel
theorem dX11_valley_52 : decode cX11_valley 52 = .ok (.getfield 132, 3) := by decide +kernel
theorem dX11_valley_55 : decode cX11_valley 55 = .ok (.iload_n 1, 1) := by decide +kernel
theorem dX11_valley_56 : decode cX11_valley 56 = .ok (.iconst 0, 1) := by decide +kernel
theorem dX11_valley_57 : decode cX11_valley 57 = .ok (.bastore, 1) := by decide +kernel
theorem dX11_valley_58 : decode cX11_valley 58 = .ok (.iinc 1 1, 3) := by decide +kernel
theorem dX11_valley_61 : decode cX11_valley 61 = .ok (.goto (-15), 3) := by decide +kernel
theorem dX11_valley_64 : decode cX11_valley 64 = .ok (.iconst 0, 1) := by decide +kernel
theorem dX11_valley_65 : decode cX11_valley 65 = .ok (.ireturn, 1) := by decide +kernel
theorem dX11_day_0 : decode cX11_day 0 = .ok (.aload_n 0, 1) := by decide +kernel
theorem dX11_day_1 : decode cX11_day 1 = .ok (.iconst 0, 1) := by decide +kernel
theorem dX11_day_2 : decode cX11_day 2 = .ok (.putfield 156, 3) := by decide +kernel
theorem dX11_day_5 : decode cX11_day 5 = .ok (.aload_n 0, 1) := by decide +kernel
theorem dX11_day_6 : decode cX11_day 6 = .ok (.getfield 90, 3) := by decide +kernel
theorem dX11_day_9 : decode cX11_day 9 = .ok (.iconst 5, 1) := by decide +kernel
theorem dX11_day_10 : decode cX11_day 10 = .ok (.iconst 0, 1) := by decide +kernel
theorem dX11_day_11 : decode cX11_day 11 = .ok (.iastore, 1) := by decide +kernel
theorem dX11_day_12 : decode cX11_day 12 = .ok (.aload_n 0, 1) := by decide +kernel
theorem dX11_day_13 : decode cX11_day 13 = .ok (.invokevirtual 336, 3) := by decide +kernel
theorem dX11_day_16 : decode cX11_day 16 = .ok (.aload_n 0, 1) := by decide +kernel
theorem dX11_day_17 : decode cX11_day 17 = .ok (.getfield 181, 3) := by decide +kernel
theorem dX11_day_20 : decode cX11_day 20 = .ok (.ifCond .eq 15, 3) := by decide +kernel
theorem dX11_day_23 : decode cX11_day 23 = .ok (.aload_n 0, 1) := by decide +kernel
theorem dX11_day_24 : decode cX11_day 24 = .ok (.invokevirtual 387, 3) := by decide +kernel
theorem dX11_day_27 : decode cX11_day 27 = .ok (.ifCond .ne (-11), 3) := by decide +kernel
theorem dX11_day_30 : decode cX11_day 30 = .ok (.aload_n 0, 1) := by decide +kernel
theorem dX11_day_31 : decode cX11_day 31 = .ok (.getfield 192, 3) := by decide +kernel
theorem dX11_day_34 : decode cX11_day 34 = .ok (.ireturn, 1) := by decide +kernel
theorem dX11_day_35 : decode cX11_day 35 = .ok (.aload_n 0, 1) := by decide +kernel
theorem dX11_day_36 : decode cX11_day 36 = .ok (.iconst 5, 1) := by decide +kernel
theorem dX11_day_37 : decode cX11_day 37 = .ok (.iconst 0, 1) := by decide +kernel
theorem dX11_day_38 : decode cX11_day 38 = .ok (.invokevirtual 390, 3) := by decide +kernel
theorem dX11_day_41 : decode cX11_day 41 = .ok (.iconst 0, 1) := by decide +kernel
theorem dX11_day_42 : decode cX11_day 42 = .ok (.ireturn, 1) := by decide +kernel
theorem dX11_isFuel_0 : decode cX11_isFuel 0 = .ok (.iload_n 1, 1) := by decide +kernel
theorem dX11_isFuel_1 : decode cX11_isFuel 1 = .ok (.ifCond .lt 17, 3) := by decide +kernel
theorem dX11_isFuel_4 : decode cX11_isFuel 4 = .ok (.iload_n 1, 1) := by decide +kernel
theorem dX11_isFuel_5 : decode cX11_isFuel 5 = .ok (.aload_n 0, 1) := by decide +kernel
theorem dX11_isFuel_6 : decode cX11_isFuel 6 = .ok (.getfield 13, 3) := by decide +kernel
theorem dX11_isFuel_9 : decode cX11_isFuel 9 = .ok (.iconst 0, 1) := by decide +kernel
theorem dX11_isFuel_10 : decode cX11_isFuel 10 = .ok (.iaload, 1) := by decide +kernel
theorem dX11_isFuel_11 : decode cX11_isFuel 11 = .ok (.if_icmp .ge 7, 3) := by decide +kernel
theorem dX11_isFuel_14 : decode cX11_isFuel 14 = .ok (.iconst 1, 1) := by decide +kernel
theorem dX11_isFuel_15 : decode cX11_isFuel 15 = .ok (.goto 4, 3) := by decide +kernel
theorem dX11_isFuel_18 : decode cX11_isFuel 18 = .ok (.iconst 0, 1) := by decide +kernel
theorem dX11_isFuel_19 : decode cX11_isFuel 19 = .ok (.ireturn, 1) := by decide +kernel
theorem dX11_isFlue_0 : decode cX11_isFlue 0 = .ok (.iload_n 1, 1) := by decide +kernel
theorem dX11_isFlue_1 : decode cX11_isFlue 1 = .ok (.ifCond .lt 17, 3) := by decide +kernel
theorem dX11_isFlue_4 : decode cX11_isFlue 4 = .ok (.iload_n 1, 1) := by decide +kernel
theorem dX11_isFlue_5 : decode cX11_isFlue 5 = .ok (.aload_n 0, 1) := by decide +kernel
theorem dX11_isFlue_6 : decode cX11_isFlue 6 = .ok (.getfield 13, 3) := by decide +kernel
theorem dX11_isFlue_9 : decode cX11_isFlue 9 = .ok (.iconst 1, 1) := by decide +kernel
theorem dX11_isFlue_10 : decode cX11_isFlue 10 = .ok (.iaload, 1) := by decide +kernel
theorem dX11_isFlue_11 : decode cX11_isFlue 11 = .ok (.if_icmp .ge 7, 3) := by decide +kernel
theorem dX11_isFlue_14 : decode cX11_isFlue 14 = .ok (.iconst 1, 1) := by decide +kernel
theorem dX11_isFlue_15 : decode cX11_isFlue 15 = .ok (.goto 4, 3) := by decide +kernel
theorem dX11_isFlue_18 : decode cX11_isFlue 18 = .ok (.iconst 0, 1) := by decide +kernel
theorem dX11_isFlue_19 : decode cX11_isFlue 19 = .ok (.ireturn, 1) := by decide +kernel
theorem dX11_isHouse_0 : decode cX11_isHouse 0 = .ok (.iload_n 1, 1) := by decide +kernel
theorem dX11_isHouse_1 : decode cX11_isHouse 1 = .ok (.ifCond .lt 17, 3) := by decide +kernel
theorem dX11_isHouse_4 : decode cX11_isHouse 4 = .ok (.iload_n 1, 1) := by decide +kernel
theorem dX11_isHouse_5 : decode cX11_isHouse 5 = .ok (.aload_n 0, 1) := by decide +kernel
theorem dX11_isHouse_6 : decode cX11_isHouse 6 = .ok (.getfield 13, 3) := by decide +kernel
theorem dX11_isHouse_9 : decode cX11_isHouse 9 = .ok (.iconst 2, 1) := by decide +kernel
theorem dX11_isHouse_10 : decode cX11_isHouse 10 = .ok (.iaload, 1) := by decide +kernel
theorem dX11_isHouse_11 : decode cX11_isHouse 11 = .ok (.if_icmp .ge 7, 3) := by decide +kernel
theorem dX11_isHouse_14 : decode cX11_isHouse 14 = .ok (.iconst 1, 1) := by decide +kernel
theorem dX11_isHouse_15 : decode cX11_isHouse 15 = .ok (.goto 4, 3) := by decide +kernel
theorem dX11_isHouse_18 : decode cX11_isHouse 18 = .ok (.iconst 0, 1) := by decide +kernel
theorem dX11_isHouse_19 : decode cX11_isHouse 19 = .ok (.ireturn, 1) := by decide +kernel
theorem dX11_isTold_0 : decode cX11_isTold 0 = .ok (.iload_n 1, 1) := by decide +kernel
theorem dX11_isTold_1 : decode cX11_isTold 1 = .ok (.ifCond .lt 17, 3) := by decide +kernel
theorem dX11_isTold_4 : decode cX11_isTold 4 = .ok (.iload_n 1, 1) := by decide +kernel
theorem dX11_isTold_5 : decode cX11_isTold 5 = .ok (.aload_n 0, 1) := by decide +kernel
theorem dX11_isTold_6 : decode cX11_isTold 6 = .ok (.getfield 13, 3) := by decide +kernel
theorem dX11_isTold_9 : decode cX11_isTold 9 = .ok (.iconst 3, 1) := by decide +kernel
theorem dX11_isTold_10 : decode cX11_isTold 10 = .ok (.iaload, 1) := by decide +kernel
theorem dX11_isTold_11 : decode cX11_isTold 11 = .ok (.if_icmp .ge 7, 3) := by decide +kernel
theorem dX11_isTold_14 : decode cX11_isTold 14 = .ok (.iconst 1, 1) := by decide +kernel
theorem dX11_isTold_15 : decode cX11_isTold 15 = .ok (.goto 4, 3) := by decide +kernel
theorem dX11_isTold_18 : decode cX11_isTold 18 = .ok (.iconst 0, 1) := by decide +kernel
theorem dX11_isTold_19 : decode cX11_isTold 19 = .ok (.ireturn, 1) := by decide +kernel
theorem dX11_windIn_0 : decode cX11_windIn 0 = .ok (.aload_n 0, 1) := by decide +kernel
theorem dX11_windIn_1 : decode cX11_windIn 1 = .ok (.getfield 13, 3) := by decide +kernel
theorem dX11_windIn_4 : decode cX11_windIn 4 = .ok (.iconst 5, 1) := by decide +kernel
theorem dX11_windIn_5 : decode cX11_windIn 5 = .ok (.iaload, 1) := by decide +kernel
theorem dX11_windIn_6 : decode cX11_windIn 6 = .ok (.ifCond .ne 7, 3) := by decide +kernel
theorem dX11_windIn_9 : decode cX11_windIn 9 = .ok (.iconst 0, 1) := by decide +kernel
theorem dX11_windIn_10 : decode cX11_windIn 10 = .ok (.goto 16, 3) := by decide +kernel
theorem dX11_windIn_13 : decode cX11_windIn 13 = .ok (.aload_n 0, 1) := by decide +kernel
theorem dX11_windIn_14 : decode cX11_windIn 14 = .ok (.getfield 41, 3) := by decide +kernel
theorem dX11_windIn_17 : decode cX11_windIn 17 = .ok (.iload_n 1, 1) := by decide +kernel
theorem dX11_windIn_18 : decode cX11_windIn 18 = .ok (.aload_n 0, 1) := by decide +kernel
theorem dX11_windIn_19 : decode cX11_windIn 19 = .ok (.getfield 13, 3) := by decide +kernel
theorem dX11_windIn_22 : decode cX11_windIn 22 = .ok (.iconst 5, 1) := by decide +kernel
theorem dX11_windIn_23 : decode cX11_windIn 23 = .ok (.iaload, 1) := by decide +kernel
theorem dX11_windIn_24 : decode cX11_windIn 24 = .ok (.irem, 1) := by decide +kernel
theorem dX11_windIn_25 : decode cX11_windIn 25 = .ok (.iaload, 1) := by decide +kernel
theorem dX11_windIn_26 : decode cX11_windIn 26 = .ok (.ireturn, 1) := by decide +kernel
theorem dX11_givesIn_0 : decode cX11_givesIn 0 = .ok (.iload 4, 2) := by decide +kernel
theorem dX11_givesIn_2 : decode cX11_givesIn 2 = .ok (.iconst 1, 1) := by decide +kernel
theorem dX11_givesIn_3 : decode cX11_givesIn 3 = .ok (.if_icmp .ne 12, 3) := by decide +kernel
theorem dX11_givesIn_6 : decode cX11_givesIn 6 = .ok (.aload_n 0, 1) := by decide +kernel
theorem dX11_givesIn_7 : decode cX11_givesIn 7 = .ok (.getfield 23, 3) := by decide +kernel
theorem dX11_givesIn_10 : decode cX11_givesIn 10 = .ok (.iload_n 1, 1) := by decide +kernel
theorem dX11_givesIn_11 : decode cX11_givesIn 11 = .ok (.iaload, 1) := by decide +kernel
theorem dX11_givesIn_12 : decode cX11_givesIn 12 = .ok (.goto 9, 3) := by decide +kernel
theorem dX11_givesIn_15 : decode cX11_givesIn 15 = .ok (.aload_n 0, 1) := by decide +kernel
theorem dX11_givesIn_16 : decode cX11_givesIn 16 = .ok (.getfield 20, 3) := by decide +kernel
theorem dX11_givesIn_19 : decode cX11_givesIn 19 = .ok (.iload_n 1, 1) := by decide +kernel
theorem dX11_givesIn_20 : decode cX11_givesIn 20 = .ok (.iaload, 1) := by decide +kernel
theorem dX11_givesIn_21 : decode cX11_givesIn 21 = .ok (.istore 5, 2) := by decide +kernel
theorem dX11_givesIn_23 : decode cX11_givesIn 23 = .ok (.aload_n 0, 1) := by decide +kernel
theorem dX11_givesIn_24 : decode cX11_givesIn 24 = .ok (.getfield 47, 3) := by decide +kernel
theorem dX11_givesIn_27 : decode cX11_givesIn 27 = .ok (.iconst 0, 1) := by decide +kernel
theorem dX11_givesIn_28 : decode cX11_givesIn 28 = .ok (.iaload, 1) := by decide +kernel
theorem dX11_givesIn_29 : decode cX11_givesIn 29 = .ok (.aload_n 0, 1) := by decide +kernel
theorem dX11_givesIn_30 : decode cX11_givesIn 30 = .ok (.getfield 44, 3) := by decide +kernel
theorem dX11_givesIn_33 : decode cX11_givesIn 33 = .ok (.iconst 0, 1) := by decide +kernel
theorem dX11_givesIn_34 : decode cX11_givesIn 34 = .ok (.iaload, 1) := by decide +kernel
theorem dX11_givesIn_35 : decode cX11_givesIn 35 = .ok (.if_icmp .le 60, 3) := by decide +kernel
theorem dX11_givesIn_38 : decode cX11_givesIn 38 = .ok (.aload_n 0, 1) := by decide +kernel
theorem dX11_givesIn_39 : decode cX11_givesIn 39 = .ok (.getfield 87, 3) := by decide +kernel
theorem dX11_givesIn_42 : decode cX11_givesIn 42 = .ok (.iconst 1, 1) := by decide +kernel
theorem dX11_givesIn_43 : decode cX11_givesIn 43 = .ok (.aload_n 0, 1) := by decide +kernel
theorem dX11_givesIn_44 : decode cX11_givesIn 44 = .ok (.getfield 20, 3) := by decide +kernel
theorem dX11_givesIn_47 : decode cX11_givesIn 47 = .ok (.iload_n 1, 1) := by decide +kernel
theorem dX11_givesIn_48 : decode cX11_givesIn 48 = .ok (.iaload, 1) := by decide +kernel
theorem dX11_givesIn_49 : decode cX11_givesIn 49 = .ok (.iastore, 1) := by decide +kernel
theorem dX11_givesIn_50 : decode cX11_givesIn 50 = .ok (.aload_n 0, 1) := by decide +kernel
theorem dX11_givesIn_51 : decode cX11_givesIn 51 = .ok (.getfield 87, 3) := by decide +kernel
theorem dX11_givesIn_54 : decode cX11_givesIn 54 = .ok (.iconst 2, 1) := by decide +kernel
theorem dX11_givesIn_55 : decode cX11_givesIn 55 = .ok (.aload_n 0, 1) := by decide +kernel
theorem dX11_givesIn_56 : decode cX11_givesIn 56 = .ok (.getfield 23, 3) := by decide +kernel
theorem dX11_givesIn_59 : decode cX11_givesIn 59 = .ok (.iload_n 1, 1) := by decide +kernel
theorem dX11_givesIn_60 : decode cX11_givesIn 60 = .ok (.iaload, 1) := by decide +kernel
theorem dX11_givesIn_61 : decode cX11_givesIn 61 = .ok (.iastore, 1) := by decide +kernel
theorem dX11_givesIn_62 : decode cX11_givesIn 62 = .ok (.aload_n 0, 1) := by decide +kernel
theorem dX11_givesIn_63 : decode cX11_givesIn 63 = .ok (.getfield 87, 3) := by decide +kernel
theorem dX11_givesIn_66 : decode cX11_givesIn 66 = .ok (.iconst 3, 1) := by decide +kernel
theorem dX11_givesIn_67 : decode cX11_givesIn 67 = .ok (.aload_n 0, 1) := by decide +kernel
theorem dX11_givesIn_68 : decode cX11_givesIn 68 = .ok (.iload_n 3, 1) := by decide +kernel
theorem dX11_givesIn_69 : decode cX11_givesIn 69 = .ok (.invokevirtual 394, 3) := by decide +kernel
theorem dX11_givesIn_72 : decode cX11_givesIn 72 = .ok (.iastore, 1) := by decide +kernel
theorem dX11_givesIn_73 : decode cX11_givesIn 73 = .ok (.aload_n 0, 1) := by decide +kernel
theorem dX11_givesIn_74 : decode cX11_givesIn 74 = .ok (.getfield 87, 3) := by decide +kernel
theorem dX11_givesIn_77 : decode cX11_givesIn 77 = .ok (.iconst 4, 1) := by decide +kernel
theorem dX11_givesIn_78 : decode cX11_givesIn 78 = .ok (.iload_n 2, 1) := by decide +kernel
theorem dX11_givesIn_79 : decode cX11_givesIn 79 = .ok (.iastore, 1) := by decide +kernel
theorem dX11_givesIn_80 : decode cX11_givesIn 80 = .ok (.aload_n 0, 1) := by decide +kernel
theorem dX11_givesIn_81 : decode cX11_givesIn 81 = .ok (.getfield 87, 3) := by decide +kernel
theorem dX11_givesIn_84 : decode cX11_givesIn 84 = .ok (.iconst 5, 1) := by decide +kernel
theorem dX11_givesIn_85 : decode cX11_givesIn 85 = .ok (.iload 4, 2) := by decide +kernel
theorem dX11_givesIn_87 : decode cX11_givesIn 87 = .ok (.iastore, 1) := by decide +kernel
theorem dX11_givesIn_88 : decode cX11_givesIn 88 = .ok (.aload_n 0, 1) := by decide +kernel
theorem dX11_givesIn_89 : decode cX11_givesIn 89 = .ok (.iconst 0, 1) := by decide +kernel
theorem dX11_givesIn_90 : decode cX11_givesIn 90 = .ok (.invokevirtual 397, 3) := by decide +kernel
theorem dX11_givesIn_93 : decode cX11_givesIn 93 = .ok (.istore 5, 2) := by decide +kernel
theorem dX11_givesIn_95 : decode cX11_givesIn 95 = .ok (.iload 5, 2) := by decide +kernel
theorem dX11_givesIn_97 : decode cX11_givesIn 97 = .ok (.iconst 0, 1) := by decide +kernel
theorem dX11_givesIn_98 : decode cX11_givesIn 98 = .ok (.sipush 999, 3) := by decide +kernel
theorem dX11_givesIn_101 : decode cX11_givesIn 101 = .ok (.invokestatic 400, 3) := by decide +kernel
theorem dX11_givesIn_104 : decode cX11_givesIn 104 = .ok (.ireturn, 1) := by decide +kernel
theorem dX11_sootBy_0 : decode cX11_sootBy 0 = .ok (.iload_n 1, 1) := by decide +kernel
theorem dX11_sootBy_1 : decode cX11_sootBy 1 = .ok (.istore_n 3, 1) := by decide +kernel
theorem dX11_sootBy_2 : decode cX11_sootBy 2 = .ok (.aload_n 0, 1) := by decide +kernel
theorem dX11_sootBy_3 : decode cX11_sootBy 3 = .ok (.getfield 47, 3) := by decide +kernel
theorem dX11_sootBy_6 : decode cX11_sootBy 6 = .ok (.iconst 1, 1) := by decide +kernel
theorem dX11_sootBy_7 : decode cX11_sootBy 7 = .ok (.iaload, 1) := by decide +kernel
theorem dX11_sootBy_8 : decode cX11_sootBy 8 = .ok (.aload_n 0, 1) := by decide +kernel
theorem dX11_sootBy_9 : decode cX11_sootBy 9 = .ok (.getfield 44, 3) := by decide +kernel
theorem dX11_sootBy_12 : decode cX11_sootBy 12 = .ok (.iconst 1, 1) := by decide +kernel
theorem dX11_sootBy_13 : decode cX11_sootBy 13 = .ok (.iaload, 1) := by decide +kernel
theorem dX11_sootBy_14 : decode cX11_sootBy 14 = .ok (.if_icmp .le 39, 3) := by decide +kernel
theorem dX11_sootBy_17 : decode cX11_sootBy 17 = .ok (.aload_n 0, 1) := by decide +kernel
theorem dX11_sootBy_18 : decode cX11_sootBy 18 = .ok (.getfield 87, 3) := by decide +kernel
theorem dX11_sootBy_21 : decode cX11_sootBy 21 = .ok (.iconst 1, 1) := by decide +kernel
theorem dX11_sootBy_22 : decode cX11_sootBy 22 = .ok (.iload_n 1, 1) := by decide +kernel
theorem dX11_sootBy_23 : decode cX11_sootBy 23 = .ok (.iastore, 1) := by decide +kernel
theorem dX11_sootBy_24 : decode cX11_sootBy 24 = .ok (.aload_n 0, 1) := by decide +kernel
theorem dX11_sootBy_25 : decode cX11_sootBy 25 = .ok (.getfield 87, 3) := by decide +kernel
theorem dX11_sootBy_28 : decode cX11_sootBy 28 = .ok (.iconst 2, 1) := by decide +kernel
theorem dX11_sootBy_29 : decode cX11_sootBy 29 = .ok (.iload_n 2, 1) := by decide +kernel
theorem dX11_sootBy_30 : decode cX11_sootBy 30 = .ok (.iastore, 1) := by decide +kernel
theorem dX11_sootBy_31 : decode cX11_sootBy 31 = .ok (.aload_n 0, 1) := by decide +kernel
theorem dX11_sootBy_32 : decode cX11_sootBy 32 = .ok (.getfield 87, 3) := by decide +kernel
theorem dX11_sootBy_35 : decode cX11_sootBy 35 = .ok (.iconst 3, 1) := by decide +kernel
theorem dX11_sootBy_36 : decode cX11_sootBy 36 = .ok (.aload_n 0, 1) := by decide +kernel
theorem dX11_sootBy_37 : decode cX11_sootBy 37 = .ok (.aload_n 0, 1) := by decide +kernel
theorem dX11_sootBy_38 : decode cX11_sootBy 38 = .ok (.getfield 120, 3) := by decide +kernel
theorem dX11_sootBy_41 : decode cX11_sootBy 41 = .ok (.iconst 0, 1) := by decide +kernel
theorem dX11_sootBy_42 : decode cX11_sootBy 42 = .ok (.iaload, 1) := by decide +kernel
theorem dX11_sootBy_43 : decode cX11_sootBy 43 = .ok (.invokevirtual 394, 3) := by decide +kernel
theorem dX11_sootBy_46 : decode cX11_sootBy 46 = .ok (.iastore, 1) := by decide +kernel
theorem dX11_sootBy_47 : decode cX11_sootBy 47 = .ok (.aload_n 0, 1) := by decide +kernel
theorem dX11_sootBy_48 : decode cX11_sootBy 48 = .ok (.iconst 1, 1) := by decide +kernel
theorem dX11_sootBy_49 : decode cX11_sootBy 49 = .ok (.invokevirtual 397, 3) := by decide +kernel
theorem dX11_sootBy_52 : decode cX11_sootBy 52 = .ok (.istore_n 3, 1) := by decide +kernel
theorem dX11_sootBy_53 : decode cX11_sootBy 53 = .ok (.iload_n 3, 1) := by decide +kernel
theorem dX11_sootBy_54 : decode cX11_sootBy 54 = .ok (.iconst 0, 1) := by decide +kernel
theorem dX11_sootBy_55 : decode cX11_sootBy 55 = .ok (.sipush 999, 3) := by decide +kernel
theorem dX11_sootBy_58 : decode cX11_sootBy 58 = .ok (.invokestatic 400, 3) := by decide +kernel
theorem dX11_sootBy_61 : decode cX11_sootBy 61 = .ok (.ireturn, 1) := by decide +kernel
theorem dX11_isFire_0 : decode cX11_isFire 0 = .ok (.aload_n 0, 1) := by decide +kernel
theorem dX11_isFire_1 : decode cX11_isFire 1 = .ok (.getfield 120, 3) := by decide +kernel
theorem dX11_isFire_4 : decode cX11_isFire 4 = .ok (.iconst 5, 1) := by decide +kernel
theorem dX11_isFire_5 : decode cX11_isFire 5 = .ok (.iload_n 1, 1) := by decide +kernel
theorem dX11_isFire_6 : decode cX11_isFire 6 = .ok (.iadd, 1) := by decide +kernel
theorem dX11_isFire_7 : decode cX11_isFire 7 = .ok (.iaload, 1) := by decide +kernel
theorem dX11_isFire_8 : decode cX11_isFire 8 = .ok (.ifCond .le 7, 3) := by decide +kernel
theorem dX11_isFire_11 : decode cX11_isFire 11 = .ok (.iconst 1, 1) := by decide +kernel
theorem dX11_isFire_12 : decode cX11_isFire 12 = .ok (.goto 4, 3) := by decide +kernel
theorem dX11_isFire_15 : decode cX11_isFire 15 = .ok (.iconst 0, 1) := by decide +kernel
theorem dX11_isFire_16 : decode cX11_isFire 16 = .ok (.ireturn, 1) := by decide +kernel
theorem dX11_fireGives_0 : decode cX11_fireGives 0 = .ok (.aload_n 0, 1) := by decide +kernel
theorem dX11_fireGives_1 : decode cX11_fireGives 1 = .ok (.iload_n 1, 1) := by decide +kernel
theorem dX11_fireGives_2 : decode cX11_fireGives 2 = .ok (.invokevirtual 404, 3) := by decide +kernel
theorem dX11_fireGives_5 : decode cX11_fireGives 5 = .ok (.ifCond .eq 33, 3) := by decide +kernel
theorem dX11_fireGives_8 : decode cX11_fireGives 8 = .ok (.aload_n 0, 1) := by decide +kernel
theorem dX11_fireGives_9 : decode cX11_fireGives 9 = .ok (.aload_n 0, 1) := by decide +kernel
theorem dX11_fireGives_10 : decode cX11_fireGives 10 = .ok (.getfield 120, 3) := by decide +kernel
theorem dX11_fireGives_13 : decode cX11_fireGives 13 = .ok (.iconst 1, 1) := by decide +kernel
theorem dX11_fireGives_14 : decode cX11_fireGives 14 = .ok (.iload_n 1, 1) := by decide +kernel
theorem dX11_fireGives_15 : decode cX11_fireGives 15 = .ok (.iadd, 1) := by decide +kernel
theorem dX11_fireGives_16 : decode cX11_fireGives 16 = .ok (.iaload, 1) := by decide +kernel
theorem dX11_fireGives_17 : decode cX11_fireGives 17 = .ok (.aload_n 0, 1) := by decide +kernel
theorem dX11_fireGives_18 : decode cX11_fireGives 18 = .ok (.getfield 120, 3) := by decide +kernel
theorem dX11_fireGives_21 : decode cX11_fireGives 21 = .ok (.iconst 5, 1) := by decide +kernel
theorem dX11_fireGives_22 : decode cX11_fireGives 22 = .ok (.iload_n 1, 1) := by decide +kernel
theorem dX11_fireGives_23 : decode cX11_fireGives 23 = .ok (.iadd, 1) := by decide +kernel
theorem dX11_fireGives_24 : decode cX11_fireGives 24 = .ok (.iaload, 1) := by decide +kernel
theorem dX11_fireGives_25 : decode cX11_fireGives 25 = .ok (.aload_n 0, 1) := by decide +kernel
theorem dX11_fireGives_26 : decode cX11_fireGives 26 = .ok (.getfield 120, 3) := by decide +kernel
theorem dX11_fireGives_29 : decode cX11_fireGives 29 = .ok (.iconst 0, 1) := by decide +kernel
theorem dX11_fireGives_30 : decode cX11_fireGives 30 = .ok (.iaload, 1) := by decide +kernel
theorem dX11_fireGives_31 : decode cX11_fireGives 31 = .ok (.iload_n 2, 1) := by decide +kernel
theorem dX11_fireGives_32 : decode cX11_fireGives 32 = .ok (.invokevirtual 407, 3) := by decide +kernel
theorem dX11_fireGives_35 : decode cX11_fireGives 35 = .ok (.goto 4, 3) := by decide +kernel
theorem dX11_fireGives_38 : decode cX11_fireGives 38 = .ok (.iconst 0, 1) := by decide +kernel
theorem dX11_fireGives_39 : decode cX11_fireGives 39 = .ok (.ireturn, 1) := by decide +kernel
theorem dX11_smokeOf_0 : decode cX11_smokeOf 0 = .ok (.iconst 0, 1) := by decide +kernel
theorem dX11_smokeOf_1 : decode cX11_smokeOf 1 = .ok (.istore_n 3, 1) := by decide +kernel
theorem dX11_smokeOf_2 : decode cX11_smokeOf 2 = .ok (.iconst 0, 1) := by decide +kernel
theorem dX11_smokeOf_3 : decode cX11_smokeOf 3 = .ok (.istore 4, 2) := by decide +kernel
theorem dX11_smokeOf_5 : decode cX11_smokeOf 5 = .ok (.iload 4, 2) := by decide +kernel
theorem dX11_smokeOf_7 : decode cX11_smokeOf 7 = .ok (.aload_n 0, 1) := by decide +kernel
theorem dX11_smokeOf_8 : decode cX11_smokeOf 8 = .ok (.getfield 13, 3) := by decide +kernel
theorem dX11_smokeOf_11 : decode cX11_smokeOf 11 = .ok (.iconst 2, 1) := by decide +kernel
theorem dX11_smokeOf_12 : decode cX11_smokeOf 12 = .ok (.iaload, 1) := by decide +kernel
theorem dX11_smokeOf_13 : decode cX11_smokeOf 13 = .ok (.if_icmp .ge 34, 3) := by decide +kernel
theorem dX11_smokeOf_16 : decode cX11_smokeOf 16 = .ok (.iload_n 3, 1) := by decide +kernel
theorem dX11_smokeOf_17 : decode cX11_smokeOf 17 = .ok (.aload_n 0, 1) := by decide +kernel
theorem dX11_smokeOf_18 : decode cX11_smokeOf 18 = .ok (.getfield 29, 3) := by decide +kernel
theorem dX11_smokeOf_21 : decode cX11_smokeOf 21 = .ok (.iload 4, 2) := by decide +kernel
theorem dX11_smokeOf_23 : decode cX11_smokeOf 23 = .ok (.iaload, 1) := by decide +kernel
theorem dX11_smokeOf_24 : decode cX11_smokeOf 24 = .ok (.iload_n 1, 1) := by decide +kernel
theorem dX11_smokeOf_25 : decode cX11_smokeOf 25 = .ok (.if_icmp .ne 13, 3) := by decide +kernel
theorem dX11_smokeOf_28 : decode cX11_smokeOf 28 = .ok (.aload_n 0, 1) := by decide +kernel
theorem dX11_smokeOf_29 : decode cX11_smokeOf 29 = .ok (.iload 4, 2) := by decide +kernel
theorem dX11_smokeOf_31 : decode cX11_smokeOf 31 = .ok (.iload_n 2, 1) := by decide +kernel
theorem dX11_smokeOf_32 : decode cX11_smokeOf 32 = .ok (.invokevirtual 411, 3) := by decide +kernel
theorem dX11_smokeOf_35 : decode cX11_smokeOf 35 = .ok (.goto 4, 3) := by decide +kernel
theorem dX11_smokeOf_38 : decode cX11_smokeOf 38 = .ok (.iconst 0, 1) := by decide +kernel
theorem dX11_smokeOf_39 : decode cX11_smokeOf 39 = .ok (.iadd, 1) := by decide +kernel
theorem dX11_smokeOf_40 : decode cX11_smokeOf 40 = .ok (.istore_n 3, 1) := by decide +kernel
theorem dX11_smokeOf_41 : decode cX11_smokeOf 41 = .ok (.iinc 4 1, 3) := by decide +kernel
theorem dX11_smokeOf_44 : decode cX11_smokeOf 44 = .ok (.goto (-39), 3) := by decide +kernel
theorem dX11_smokeOf_47 : decode cX11_smokeOf 47 = .ok (.sipush 999, 3) := by decide +kernel
theorem dX11_smokeOf_50 : decode cX11_smokeOf 50 = .ok (.iload_n 3, 1) := by decide +kernel
theorem dX11_smokeOf_51 : decode cX11_smokeOf 51 = .ok (.invokestatic 414, 3) := by decide +kernel
theorem dX11_smokeOf_54 : decode cX11_smokeOf 54 = .ok (.ireturn, 1) := by decide +kernel
theorem dX11_signOf_0 : decode cX11_signOf 0 = .ok (.iconst 0, 1) := by decide +kernel
theorem dX11_signOf_1 : decode cX11_signOf 1 = .ok (.istore_n 3, 1) := by decide +kernel
theorem dX11_signOf_2 : decode cX11_signOf 2 = .ok (.iload_n 3, 1) := by decide +kernel
theorem dX11_signOf_3 : decode cX11_signOf 3 = .ok (.aload_n 0, 1) := by decide +kernel
theorem dX11_signOf_4 : decode cX11_signOf 4 = .ok (.getfield 13, 3) := by decide +kernel
theorem dX11_signOf_7 : decode cX11_signOf 7 = .ok (.iconst 3, 1) := by decide +kernel
theorem dX11_signOf_8 : decode cX11_signOf 8 = .ok (.iaload, 1) := by decide +kernel
theorem dX11_signOf_9 : decode cX11_signOf 9 = .ok (.if_icmp .ge 63, 3) := by decide +kernel
theorem dX11_signOf_12 : decode cX11_signOf 12 = .ok (.iload_n 1, 1) := by decide +kernel
theorem dX11_signOf_13 : decode cX11_signOf 13 = .ok (.aload_n 0, 1) := by decide +kernel
theorem dX11_signOf_14 : decode cX11_signOf 14 = .ok (.getfield 35, 3) := by decide +kernel
theorem dX11_signOf_17 : decode cX11_signOf 17 = .ok (.iconst 4, 1) := by decide +kernel
theorem dX11_signOf_18 : decode cX11_signOf 18 = .ok (.iload_n 3, 1) := by decide +kernel
theorem dX11_signOf_19 : decode cX11_signOf 19 = .ok (.imul, 1) := by decide +kernel
theorem dX11_signOf_20 : decode cX11_signOf 20 = .ok (.iaload, 1) := by decide +kernel
theorem dX11_signOf_21 : decode cX11_signOf 21 = .ok (.aload_n 0, 1) := by decide +kernel
theorem dX11_signOf_22 : decode cX11_signOf 22 = .ok (.getfield 35, 3) := by decide +kernel
theorem dX11_signOf_25 : decode cX11_signOf 25 = .ok (.iconst 4, 1) := by decide +kernel
theorem dX11_signOf_26 : decode cX11_signOf 26 = .ok (.iload_n 3, 1) := by decide +kernel
theorem dX11_signOf_27 : decode cX11_signOf 27 = .ok (.imul, 1) := by decide +kernel
theorem dX11_signOf_28 : decode cX11_signOf 28 = .ok (.iconst 1, 1) := by decide +kernel
theorem dX11_signOf_29 : decode cX11_signOf 29 = .ok (.iadd, 1) := by decide +kernel
theorem dX11_signOf_30 : decode cX11_signOf 30 = .ok (.iaload, 1) := by decide +kernel
theorem dX11_signOf_31 : decode cX11_signOf 31 = .ok (.invokestatic 289, 3) := by decide +kernel
theorem dX11_signOf_34 : decode cX11_signOf 34 = .ok (.ifCond .eq 32, 3) := by decide +kernel
theorem dX11_signOf_37 : decode cX11_signOf 37 = .ok (.iload_n 2, 1) := by decide +kernel
theorem dX11_signOf_38 : decode cX11_signOf 38 = .ok (.aload_n 0, 1) := by decide +kernel
theorem dX11_signOf_39 : decode cX11_signOf 39 = .ok (.getfield 35, 3) := by decide +kernel
theorem dX11_signOf_42 : decode cX11_signOf 42 = .ok (.iconst 4, 1) := by decide +kernel
theorem dX11_signOf_43 : decode cX11_signOf 43 = .ok (.iload_n 3, 1) := by decide +kernel
theorem dX11_signOf_44 : decode cX11_signOf 44 = .ok (.imul, 1) := by decide +kernel
theorem dX11_signOf_45 : decode cX11_signOf 45 = .ok (.iconst 2, 1) := by decide +kernel
theorem dX11_signOf_46 : decode cX11_signOf 46 = .ok (.iadd, 1) := by decide +kernel
theorem dX11_signOf_47 : decode cX11_signOf 47 = .ok (.iaload, 1) := by decide +kernel
theorem dX11_signOf_48 : decode cX11_signOf 48 = .ok (.aload_n 0, 1) := by decide +kernel
theorem dX11_signOf_49 : decode cX11_signOf 49 = .ok (.getfield 35, 3) := by decide +kernel
theorem dX11_signOf_52 : decode cX11_signOf 52 = .ok (.iconst 4, 1) := by decide +kernel
theorem dX11_signOf_53 : decode cX11_signOf 53 = .ok (.iload_n 3, 1) := by decide +kernel
theorem dX11_signOf_54 : decode cX11_signOf 54 = .ok (.imul, 1) := by decide +kernel
theorem dX11_signOf_55 : decode cX11_signOf 55 = .ok (.iconst 3, 1) := by decide +kernel
theorem dX11_signOf_56 : decode cX11_signOf 56 = .ok (.iadd, 1) := by decide +kernel
theorem dX11_signOf_57 : decode cX11_signOf 57 = .ok (.iaload, 1) := by decide +kernel
theorem dX11_signOf_58 : decode cX11_signOf 58 = .ok (.invokestatic 289, 3) := by decide +kernel
theorem dX11_signOf_61 : decode cX11_signOf 61 = .ok (.ifCond .eq 5, 3) := by decide +kernel
theorem dX11_signOf_64 : decode cX11_signOf 64 = .ok (.iload_n 3, 1) := by decide +kernel
theorem dX11_signOf_65 : decode cX11_signOf 65 = .ok (.ireturn, 1) := by decide +kernel
theorem dX11_signOf_66 : decode cX11_signOf 66 = .ok (.iinc 3 1, 3) := by decide +kernel
theorem dX11_signOf_69 : decode cX11_signOf 69 = .ok (.goto (-67), 3) := by decide +kernel
theorem dX11_signOf_72 : decode cX11_signOf 72 = .ok (.iconst (-1), 1) := by decide +kernel
theorem dX11_signOf_73 : decode cX11_signOf 73 = .ok (.ireturn, 1) := by decide +kernel
theorem dX11_canBurn_0 : decode cX11_canBurn 0 = .ok (.aload_n 0, 1) := by decide +kernel
theorem dX11_canBurn_1 : decode cX11_canBurn 1 = .ok (.iload_n 1, 1) := by decide +kernel
theorem dX11_canBurn_2 : decode cX11_canBurn 2 = .ok (.invokevirtual 404, 3) := by decide +kernel
theorem dX11_canBurn_5 : decode cX11_canBurn 5 = .ok (.ifCond .ne 23, 3) := by decide +kernel
theorem dX11_canBurn_8 : decode cX11_canBurn 8 = .ok (.aload_n 0, 1) := by decide +kernel
theorem dX11_canBurn_9 : decode cX11_canBurn 9 = .ok (.getfield 120, 3) := by decide +kernel
theorem dX11_canBurn_12 : decode cX11_canBurn 12 = .ok (.bipush 9, 2) := by decide +kernel
theorem dX11_canBurn_14 : decode cX11_canBurn 14 = .ok (.iconst 5, 1) := by decide +kernel
theorem dX11_canBurn_15 : decode cX11_canBurn 15 = .ok (.iload_n 1, 1) := by decide +kernel
theorem dX11_canBurn_16 : decode cX11_canBurn 16 = .ok (.imul, 1) := by decide +kernel
theorem dX11_canBurn_17 : decode cX11_canBurn 17 = .ok (.iadd, 1) := by decide +kernel
theorem dX11_canBurn_18 : decode cX11_canBurn 18 = .ok (.iload_n 2, 1) := by decide +kernel
theorem dX11_canBurn_19 : decode cX11_canBurn 19 = .ok (.iadd, 1) := by decide +kernel
theorem dX11_canBurn_20 : decode cX11_canBurn 20 = .ok (.iaload, 1) := by decide +kernel
theorem dX11_canBurn_21 : decode cX11_canBurn 21 = .ok (.ifCond .le 7, 3) := by decide +kernel
theorem dX11_canBurn_24 : decode cX11_canBurn 24 = .ok (.iconst 1, 1) := by decide +kernel
theorem dX11_canBurn_25 : decode cX11_canBurn 25 = .ok (.goto 4, 3) := by decide +kernel
theorem dX11_canBurn_28 : decode cX11_canBurn 28 = .ok (.iconst 0, 1) := by decide +kernel
theorem dX11_canBurn_29 : decode cX11_canBurn 29 = .ok (.ireturn, 1) := by decide +kernel
theorem dX11_lights_0 : decode cX11_lights 0 = .ok (.aload_n 0, 1) := by decide +kernel
theorem dX11_lights_1 : decode cX11_lights 1 = .ok (.getfield 120, 3) := by decide +kernel
theorem dX11_lights_4 : decode cX11_lights 4 = .ok (.bipush 9, 2) := by decide +kernel
theorem dX11_lights_6 : decode cX11_lights 6 = .ok (.iconst 5, 1) := by decide +kernel
theorem dX11_lights_7 : decode cX11_lights 7 = .ok (.iload_n 1, 1) := by decide +kernel
theorem dX11_lights_8 : decode cX11_lights 8 = .ok (.imul, 1) := by decide +kernel
theorem dX11_lights_9 : decode cX11_lights 9 = .ok (.iadd, 1) := by decide +kernel
theorem dX11_lights_10 : decode cX11_lights 10 = .ok (.iload_n 2, 1) := by decide +kernel
theorem dX11_lights_11 : decode cX11_lights 11 = .ok (.iadd, 1) := by decide +kernel
theorem dX11_lights_12 : decode cX11_lights 12 = .ok (.dup2, 1) := by decide +kernel
theorem dX11_lights_13 : decode cX11_lights 13 = .ok (.iaload, 1) := by decide +kernel
theorem dX11_lights_14 : decode cX11_lights 14 = .ok (.iconst 1, 1) := by decide +kernel
theorem dX11_lights_15 : decode cX11_lights 15 = .ok (.isub, 1) := by decide +kernel
theorem dX11_lights_16 : decode cX11_lights 16 = .ok (.iastore, 1) := by decide +kernel
theorem dX11_lights_17 : decode cX11_lights 17 = .ok (.aload_n 0, 1) := by decide +kernel
theorem dX11_lights_18 : decode cX11_lights 18 = .ok (.getfield 120, 3) := by decide +kernel
theorem dX11_lights_21 : decode cX11_lights 21 = .ok (.iconst 1, 1) := by decide +kernel
theorem dX11_lights_22 : decode cX11_lights 22 = .ok (.iload_n 1, 1) := by decide +kernel
theorem dX11_lights_23 : decode cX11_lights 23 = .ok (.iadd, 1) := by decide +kernel
theorem dX11_lights_24 : decode cX11_lights 24 = .ok (.iload_n 2, 1) := by decide +kernel
theorem dX11_lights_25 : decode cX11_lights 25 = .ok (.iastore, 1) := by decide +kernel
theorem dX11_lights_26 : decode cX11_lights 26 = .ok (.aload_n 0, 1) := by decide +kernel
theorem dX11_lights_27 : decode cX11_lights 27 = .ok (.getfield 120, 3) := by decide +kernel
theorem dX11_lights_30 : decode cX11_lights 30 = .ok (.iconst 5, 1) := by decide +kernel
theorem dX11_lights_31 : decode cX11_lights 31 = .ok (.iload_n 1, 1) := by decide +kernel
theorem dX11_lights_32 : decode cX11_lights 32 = .ok (.iadd, 1) := by decide +kernel
theorem dX11_lights_33 : decode cX11_lights 33 = .ok (.aload_n 0, 1) := by decide +kernel
theorem dX11_lights_34 : decode cX11_lights 34 = .ok (.getfield 26, 3) := by decide +kernel
theorem dX11_lights_37 : decode cX11_lights 37 = .ok (.iload_n 2, 1) := by decide +kernel
theorem dX11_lights_38 : decode cX11_lights 38 = .ok (.iaload, 1) := by decide +kernel
theorem dX11_lights_39 : decode cX11_lights 39 = .ok (.iastore, 1) := by decide +kernel
theorem dX11_lights_40 : decode cX11_lights 40 = .ok (.return_, 1) := by decide +kernel
theorem dX11_passes_0 : decode cX11_passes 0 = .ok (.aload_n 0, 1) := by decide +kernel
theorem dX11_passes_1 : decode cX11_passes 1 = .ok (.iconst 0, 1) := by decide +kernel
theorem dX11_passes_2 : decode cX11_passes 2 = .ok (.putfield 417, 3) := by decide +kernel
theorem dX11_passes_5 : decode cX11_passes 5 = .ok (.aload_n 0, 1) := by decide +kernel
theorem dX11_passes_6 : decode cX11_passes 6 = .ok (.iconst 0, 1) := by decide +kernel
theorem dX11_passes_7 : decode cX11_passes 7 = .ok (.putfield 420, 3) := by decide +kernel
theorem dX11_passes_10 : decode cX11_passes 10 = .ok (.iconst 0, 1) := by decide +kernel
theorem dX11_passes_11 : decode cX11_passes 11 = .ok (.istore_n 1, 1) := by decide +kernel
theorem dX11_passes_12 : decode cX11_passes 12 = .ok (.iload_n 1, 1) := by decide +kernel
theorem dX11_passes_13 : decode cX11_passes 13 = .ok (.aload_n 0, 1) := by decide +kernel
theorem dX11_passes_14 : decode cX11_passes 14 = .ok (.getfield 13, 3) := by decide +kernel
theorem dX11_passes_17 : decode cX11_passes 17 = .ok (.iconst 1, 1) := by decide +kernel
theorem dX11_passes_18 : decode cX11_passes 18 = .ok (.iaload, 1) := by decide +kernel
theorem dX11_passes_19 : decode cX11_passes 19 = .ok (.if_icmp .ge 102, 3) := by decide +kernel
theorem dX11_passes_22 : decode cX11_passes 22 = .ok (.aload_n 0, 1) := by decide +kernel
theorem dX11_passes_23 : decode cX11_passes 23 = .ok (.iload_n 1, 1) := by decide +kernel
theorem dX11_passes_24 : decode cX11_passes 24 = .ok (.iconst 0, 1) := by decide +kernel
theorem dX11_passes_25 : decode cX11_passes 25 = .ok (.invokevirtual 423, 3) := by decide +kernel
theorem dX11_passes_28 : decode cX11_passes 28 = .ok (.istore_n 2, 1) := by decide +kernel
theorem dX11_passes_29 : decode cX11_passes 29 = .ok (.aload_n 0, 1) := by decide +kernel
theorem dX11_passes_30 : decode cX11_passes 30 = .ok (.iload_n 1, 1) := by decide +kernel
theorem dX11_passes_31 : decode cX11_passes 31 = .ok (.iconst 1, 1) := by decide +kernel
theorem dX11_passes_32 : decode cX11_passes 32 = .ok (.invokevirtual 423, 3) := by decide +kernel
theorem dX11_passes_35 : decode cX11_passes 35 = .ok (.istore_n 3, 1) := by decide +kernel
theorem dX11_passes_36 : decode cX11_passes 36 = .ok (.aload_n 0, 1) := by decide +kernel
theorem dX11_passes_37 : decode cX11_passes 37 = .ok (.dup, 1) := by decide +kernel
theorem dX11_passes_38 : decode cX11_passes 38 = .ok (.getfield 417, 3) := by decide +kernel
theorem dX11_passes_41 : decode cX11_passes 41 = .ok (.aload_n 0, 1) := by decide +kernel
theorem dX11_passes_42 : decode cX11_passes 42 = .ok (.iload_n 2, 1) := by decide +kernel
theorem dX11_passes_43 : decode cX11_passes 43 = .ok (.iload_n 3, 1) := by decide +kernel
theorem dX11_passes_44 : decode cX11_passes 44 = .ok (.invokevirtual 426, 3) := by decide +kernel
theorem dX11_passes_47 : decode cX11_passes 47 = .ok (.ifCond .lt 7, 3) := by decide +kernel
theorem dX11_passes_50 : decode cX11_passes 50 = .ok (.iconst 1, 1) := by decide +kernel
theorem dX11_passes_51 : decode cX11_passes 51 = .ok (.goto 4, 3) := by decide +kernel
theorem dX11_passes_54 : decode cX11_passes 54 = .ok (.iconst 0, 1) := by decide +kernel
theorem dX11_passes_55 : decode cX11_passes 55 = .ok (.iadd, 1) := by decide +kernel
theorem dX11_passes_56 : decode cX11_passes 56 = .ok (.putfield 417, 3) := by decide +kernel
theorem dX11_passes_59 : decode cX11_passes 59 = .ok (.aload_n 0, 1) := by decide +kernel
theorem dX11_passes_60 : decode cX11_passes 60 = .ok (.getfield 120, 3) := by decide +kernel
theorem dX11_passes_63 : decode cX11_passes 63 = .ok (.bipush 29, 2) := by decide +kernel
theorem dX11_passes_65 : decode cX11_passes 65 = .ok (.iload_n 1, 1) := by decide +kernel
theorem dX11_passes_66 : decode cX11_passes 66 = .ok (.iadd, 1) := by decide +kernel
theorem dX11_passes_67 : decode cX11_passes 67 = .ok (.iaload, 1) := by decide +kernel
theorem dX11_passes_68 : decode cX11_passes 68 = .ok (.istore 4, 2) := by decide +kernel
theorem dX11_passes_70 : decode cX11_passes 70 = .ok (.aload_n 0, 1) := by decide +kernel
theorem dX11_passes_71 : decode cX11_passes 71 = .ok (.getfield 120, 3) := by decide +kernel
theorem dX11_passes_74 : decode cX11_passes 74 = .ok (.bipush 29, 2) := by decide +kernel
theorem dX11_passes_76 : decode cX11_passes 76 = .ok (.iload_n 1, 1) := by decide +kernel
theorem dX11_passes_77 : decode cX11_passes 77 = .ok (.iadd, 1) := by decide +kernel
theorem dX11_passes_78 : decode cX11_passes 78 = .ok (.sipush 9999, 3) := by decide +kernel
theorem dX11_passes_81 : decode cX11_passes 81 = .ok (.iload 4, 2) := by decide +kernel
theorem dX11_passes_83 : decode cX11_passes 83 = .ok (.aload_n 0, 1) := by decide +kernel
theorem dX11_passes_84 : decode cX11_passes 84 = .ok (.iload_n 2, 1) := by decide +kernel
theorem dX11_passes_85 : decode cX11_passes 85 = .ok (.iload_n 3, 1) := by decide +kernel
theorem dX11_passes_86 : decode cX11_passes 86 = .ok (.invokevirtual 429, 3) := by decide +kernel
theorem dX11_passes_89 : decode cX11_passes 89 = .ok (.iadd, 1) := by decide +kernel
theorem dX11_passes_90 : decode cX11_passes 90 = .ok (.invokestatic 414, 3) := by decide +kernel
theorem dX11_passes_93 : decode cX11_passes 93 = .ok (.iastore, 1) := by decide +kernel
theorem dX11_passes_94 : decode cX11_passes 94 = .ok (.aload_n 0, 1) := by decide +kernel
theorem dX11_passes_95 : decode cX11_passes 95 = .ok (.dup, 1) := by decide +kernel
theorem dX11_passes_96 : decode cX11_passes 96 = .ok (.getfield 420, 3) := by decide +kernel
theorem dX11_passes_99 : decode cX11_passes 99 = .ok (.aload_n 0, 1) := by decide +kernel
theorem dX11_passes_100 : decode cX11_passes 100 = .ok (.getfield 120, 3) := by decide +kernel
theorem dX11_passes_103 : decode cX11_passes 103 = .ok (.bipush 29, 2) := by decide +kernel
theorem dX11_passes_105 : decode cX11_passes 105 = .ok (.iload_n 1, 1) := by decide +kernel
theorem dX11_passes_106 : decode cX11_passes 106 = .ok (.iadd, 1) := by decide +kernel
theorem dX11_passes_107 : decode cX11_passes 107 = .ok (.iaload, 1) := by decide +kernel
theorem dX11_passes_108 : decode cX11_passes 108 = .ok (.iload 4, 2) := by decide +kernel
theorem dX11_passes_110 : decode cX11_passes 110 = .ok (.isub, 1) := by decide +kernel
theorem dX11_passes_111 : decode cX11_passes 111 = .ok (.iadd, 1) := by decide +kernel
theorem dX11_passes_112 : decode cX11_passes 112 = .ok (.putfield 420, 3) := by decide +kernel
theorem dX11_passes_115 : decode cX11_passes 115 = .ok (.iinc 1 1, 3) := by decide +kernel
theorem dX11_passes_118 : decode cX11_passes 118 = .ok (.goto (-106), 3) := by decide +kernel
theorem dX11_passes_121 : decode cX11_passes 121 = .ok (.iconst 0, 1) := by decide +kernel
theorem dX11_passes_122 : decode cX11_passes 122 = .ok (.istore_n 1, 1) := by decide +kernel
theorem dX11_passes_123 : decode cX11_passes 123 = .ok (.iconst 0, 1) := by decide +kernel
theorem dX11_passes_124 : decode cX11_passes 124 = .ok (.istore_n 2, 1) := by decide +kernel
theorem dX11_passes_125 : decode cX11_passes 125 = .ok (.iload_n 2, 1) := by decide +kernel
theorem dX11_passes_126 : decode cX11_passes 126 = .ok (.aload_n 0, 1) := by decide +kernel
theorem dX11_passes_127 : decode cX11_passes 127 = .ok (.getfield 13, 3) := by decide +kernel
theorem dX11_passes_130 : decode cX11_passes 130 = .ok (.iconst 2, 1) := by decide +kernel
theorem dX11_passes_131 : decode cX11_passes 131 = .ok (.iaload, 1) := by decide +kernel
theorem dX11_passes_132 : decode cX11_passes 132 = .ok (.if_icmp .ge 58, 3) := by decide +kernel
theorem dX11_passes_135 : decode cX11_passes 135 = .ok (.aload_n 0, 1) := by decide +kernel
theorem dX11_passes_136 : decode cX11_passes 136 = .ok (.iload_n 2, 1) := by decide +kernel
theorem dX11_passes_137 : decode cX11_passes 137 = .ok (.invokevirtual 404, 3) := by decide +kernel
theorem dX11_passes_140 : decode cX11_passes 140 = .ok (.ifCond .ne 6, 3) := by decide +kernel
theorem dX11_passes_143 : decode cX11_passes 143 = .ok (.goto 41, 3) := by decide +kernel
theorem dX11_passes_146 : decode cX11_passes 146 = .ok (.aload_n 0, 1) := by decide +kernel
theorem dX11_passes_147 : decode cX11_passes 147 = .ok (.getfield 120, 3) := by decide +kernel
theorem dX11_passes_150 : decode cX11_passes 150 = .ok (.iconst 5, 1) := by decide +kernel
theorem dX11_passes_151 : decode cX11_passes 151 = .ok (.iload_n 2, 1) := by decide +kernel
theorem dX11_passes_152 : decode cX11_passes 152 = .ok (.iadd, 1) := by decide +kernel
theorem dX11_passes_153 : decode cX11_passes 153 = .ok (.dup2, 1) := by decide +kernel
theorem dX11_passes_154 : decode cX11_passes 154 = .ok (.iaload, 1) := by decide +kernel
theorem dX11_passes_155 : decode cX11_passes 155 = .ok (.iconst 1, 1) := by decide +kernel
theorem dX11_passes_156 : decode cX11_passes 156 = .ok (.isub, 1) := by decide +kernel
theorem dX11_passes_157 : decode cX11_passes 157 = .ok (.iastore, 1) := by decide +kernel
theorem dX11_passes_158 : decode cX11_passes 158 = .ok (.aload_n 0, 1) := by decide +kernel
theorem dX11_passes_159 : decode cX11_passes 159 = .ok (.getfield 120, 3) := by decide +kernel
theorem dX11_passes_162 : decode cX11_passes 162 = .ok (.iconst 5, 1) := by decide +kernel
theorem dX11_passes_163 : decode cX11_passes 163 = .ok (.iload_n 2, 1) := by decide +kernel
theorem dX11_passes_164 : decode cX11_passes 164 = .ok (.iadd, 1) := by decide +kernel
theorem dX11_passes_165 : decode cX11_passes 165 = .ok (.iaload, 1) := by decide +kernel
theorem dX11_passes_166 : decode cX11_passes 166 = .ok (.ifCond .le 6, 3) := by decide +kernel
theorem dX11_passes_169 : decode cX11_passes 169 = .ok (.goto 15, 3) := by decide +kernel
theorem dX11_passes_172 : decode cX11_passes 172 = .ok (.aload_n 0, 1) := by decide +kernel
theorem dX11_passes_173 : decode cX11_passes 173 = .ok (.getfield 120, 3) := by decide +kernel
theorem dX11_passes_176 : decode cX11_passes 176 = .ok (.iconst 1, 1) := by decide +kernel
theorem dX11_passes_177 : decode cX11_passes 177 = .ok (.iload_n 2, 1) := by decide +kernel
theorem dX11_passes_178 : decode cX11_passes 178 = .ok (.iadd, 1) := by decide +kernel
theorem dX11_passes_179 : decode cX11_passes 179 = .ok (.iconst (-1), 1) := by decide +kernel
theorem dX11_passes_180 : decode cX11_passes 180 = .ok (.iastore, 1) := by decide +kernel
theorem dX11_passes_181 : decode cX11_passes 181 = .ok (.iinc 1 1, 3) := by decide +kernel
theorem dX11_passes_184 : decode cX11_passes 184 = .ok (.iinc 2 1, 3) := by decide +kernel
theorem dX11_passes_187 : decode cX11_passes 187 = .ok (.goto (-62), 3) := by decide +kernel
theorem dX11_passes_190 : decode cX11_passes 190 = .ok (.aload_n 0, 1) := by decide +kernel
theorem dX11_passes_191 : decode cX11_passes 191 = .ok (.getfield 120, 3) := by decide +kernel
theorem dX11_passes_194 : decode cX11_passes 194 = .ok (.iconst 0, 1) := by decide +kernel
theorem dX11_passes_195 : decode cX11_passes 195 = .ok (.dup2, 1) := by decide +kernel
theorem dX11_passes_196 : decode cX11_passes 196 = .ok (.iaload, 1) := by decide +kernel
theorem dX11_passes_197 : decode cX11_passes 197 = .ok (.iconst 1, 1) := by decide +kernel
theorem dX11_passes_198 : decode cX11_passes 198 = .ok (.iadd, 1) := by decide +kernel
theorem dX11_passes_199 : decode cX11_passes 199 = .ok (.iastore, 1) := by decide +kernel
theorem dX11_passes_200 : decode cX11_passes 200 = .ok (.iload_n 1, 1) := by decide +kernel
theorem dX11_passes_201 : decode cX11_passes 201 = .ok (.ireturn, 1) := by decide +kernel
theorem dX11_lends_0 : decode cX11_lends 0 = .ok (.aload_n 0, 1) := by decide +kernel
theorem dX11_lends_1 : decode cX11_lends 1 = .ok (.getfield 120, 3) := by decide +kernel
theorem dX11_lends_4 : decode cX11_lends 4 = .ok (.bipush 9, 2) := by decide +kernel
theorem dX11_lends_6 : decode cX11_lends 6 = .ok (.iconst 5, 1) := by decide +kernel
theorem dX11_lends_7 : decode cX11_lends 7 = .ok (.iload_n 1, 1) := by decide +kernel
theorem dX11_lends_8 : decode cX11_lends 8 = .ok (.imul, 1) := by decide +kernel
theorem dX11_lends_9 : decode cX11_lends 9 = .ok (.iadd, 1) := by decide +kernel
theorem dX11_lends_10 : decode cX11_lends 10 = .ok (.iload_n 3, 1) := by decide +kernel
theorem dX11_lends_11 : decode cX11_lends 11 = .ok (.iadd, 1) := by decide +kernel
theorem dX11_lends_12 : decode cX11_lends 12 = .ok (.dup2, 1) := by decide +kernel
theorem dX11_lends_13 : decode cX11_lends 13 = .ok (.iaload, 1) := by decide +kernel
theorem dX11_lends_14 : decode cX11_lends 14 = .ok (.iload 4, 2) := by decide +kernel
theorem dX11_lends_16 : decode cX11_lends 16 = .ok (.isub, 1) := by decide +kernel
theorem dX11_lends_17 : decode cX11_lends 17 = .ok (.iastore, 1) := by decide +kernel
theorem dX11_lends_18 : decode cX11_lends 18 = .ok (.aload_n 0, 1) := by decide +kernel
theorem dX11_lends_19 : decode cX11_lends 19 = .ok (.getfield 120, 3) := by decide +kernel
theorem dX11_lends_22 : decode cX11_lends 22 = .ok (.bipush 9, 2) := by decide +kernel
theorem dX11_lends_24 : decode cX11_lends 24 = .ok (.iconst 5, 1) := by decide +kernel
theorem dX11_lends_25 : decode cX11_lends 25 = .ok (.iload_n 2, 1) := by decide +kernel
theorem dX11_lends_26 : decode cX11_lends 26 = .ok (.imul, 1) := by decide +kernel
theorem dX11_lends_27 : decode cX11_lends 27 = .ok (.iadd, 1) := by decide +kernel
theorem dX11_lends_28 : decode cX11_lends 28 = .ok (.iload_n 3, 1) := by decide +kernel
theorem dX11_lends_29 : decode cX11_lends 29 = .ok (.iadd, 1) := by decide +kernel
theorem dX11_lends_30 : decode cX11_lends 30 = .ok (.bipush 99, 2) := by decide +kernel
theorem dX11_lends_32 : decode cX11_lends 32 = .ok (.aload_n 0, 1) := by decide +kernel
theorem dX11_lends_33 : decode cX11_lends 33 = .ok (.getfield 120, 3) := by decide +kernel
theorem dX11_lends_36 : decode cX11_lends 36 = .ok (.bipush 9, 2) := by decide +kernel
theorem dX11_lends_38 : decode cX11_lends 38 = .ok (.iconst 5, 1) := by decide +kernel
theorem dX11_lends_39 : decode cX11_lends 39 = .ok (.iload_n 2, 1) := by decide +kernel
theorem dX11_lends_40 : decode cX11_lends 40 = .ok (.imul, 1) := by decide +kernel
theorem dX11_lends_41 : decode cX11_lends 41 = .ok (.iadd, 1) := by decide +kernel
theorem dX11_lends_42 : decode cX11_lends 42 = .ok (.iload_n 3, 1) := by decide +kernel
theorem dX11_lends_43 : decode cX11_lends 43 = .ok (.iadd, 1) := by decide +kernel
theorem dX11_lends_44 : decode cX11_lends 44 = .ok (.iaload, 1) := by decide +kernel
theorem dX11_lends_45 : decode cX11_lends 45 = .ok (.iload 4, 2) := by decide +kernel
theorem dX11_lends_47 : decode cX11_lends 47 = .ok (.iadd, 1) := by decide +kernel
theorem dX11_lends_48 : decode cX11_lends 48 = .ok (.invokestatic 414, 3) := by decide +kernel
theorem dX11_lends_51 : decode cX11_lends 51 = .ok (.iastore, 1) := by decide +kernel
theorem dX11_lends_52 : decode cX11_lends 52 = .ok (.return_, 1) := by decide +kernel
theorem dX11_house_0 : decode cX11_house 0 = .ok (.aload_n 0, 1) := by decide +kernel
theorem dX11_house_1 : decode cX11_house 1 = .ok (.iconst 0, 1) := by decide +kernel
theorem dX11_house_2 : decode cX11_house 2 = .ok (.putfield 156, 3) := by decide +kernel
theorem dX11_house_5 : decode cX11_house 5 = .ok (.aload_n 0, 1) := by decide +kernel
theorem dX11_house_6 : decode cX11_house 6 = .ok (.iload_n 1, 1) := by decide +kernel
theorem dX11_house_7 : decode cX11_house 7 = .ok (.invokevirtual 432, 3) := by decide +kernel
theorem dX11_house_10 : decode cX11_house 10 = .ok (.ifCond .eq 19, 3) := by decide +kernel
theorem dX11_house_13 : decode cX11_house 13 = .ok (.iload_n 2, 1) := by decide +kernel
theorem dX11_house_14 : decode cX11_house 14 = .ok (.ifCond .lt 15, 3) := by decide +kernel
theorem dX11_house_17 : decode cX11_house 17 = .ok (.iload_n 2, 1) := by decide +kernel
theorem dX11_house_18 : decode cX11_house 18 = .ok (.iconst 3, 1) := by decide +kernel
theorem dX11_house_19 : decode cX11_house 19 = .ok (.aload_n 0, 1) := by decide +kernel
theorem dX11_house_20 : decode cX11_house 20 = .ok (.getfield 13, 3) := by decide +kernel
theorem dX11_house_23 : decode cX11_house 23 = .ok (.iconst 0, 1) := by decide +kernel
theorem dX11_house_24 : decode cX11_house 24 = .ok (.iaload, 1) := by decide +kernel
theorem dX11_house_25 : decode cX11_house 25 = .ok (.iadd, 1) := by decide +kernel
theorem dX11_house_26 : decode cX11_house 26 = .ok (.if_icmp .lt 6, 3) := by decide +kernel
theorem dX11_house_29 : decode cX11_house 29 = .ok (.bipush (-2), 2) := by decide +kernel
theorem dX11_house_31 : decode cX11_house 31 = .ok (.ireturn, 1) := by decide +kernel
theorem dX11_house_32 : decode cX11_house 32 = .ok (.iload_n 2, 1) := by decide +kernel
theorem dX11_house_33 : decode cX11_house 33 = .ok (.iconst 3, 1) := by decide +kernel
theorem dX11_house_34 : decode cX11_house 34 = .ok (.if_icmp .ge 41, 3) := by decide +kernel
theorem dX11_house_37 : decode cX11_house 37 = .ok (.iload_n 2, 1) := by decide +kernel
theorem dX11_house_38 : decode cX11_house 38 = .ok (.ifCond .ne 12, 3) := by decide +kernel
theorem dX11_house_41 : decode cX11_house 41 = .ok (.aload_n 0, 1) := by decide +kernel
theorem dX11_house_42 : decode cX11_house 42 = .ok (.getfield 29, 3) := by decide +kernel
theorem dX11_house_45 : decode cX11_house 45 = .ok (.iload_n 1, 1) := by decide +kernel
theorem dX11_house_46 : decode cX11_house 46 = .ok (.iaload, 1) := by decide +kernel
theorem dX11_house_47 : decode cX11_house 47 = .ok (.goto 27, 3) := by decide +kernel
theorem dX11_house_50 : decode cX11_house 50 = .ok (.iload_n 2, 1) := by decide +kernel
theorem dX11_house_51 : decode cX11_house 51 = .ok (.iconst 1, 1) := by decide +kernel
theorem dX11_house_52 : decode cX11_house 52 = .ok (.if_icmp .ne 14, 3) := by decide +kernel
theorem dX11_house_55 : decode cX11_house 55 = .ok (.aload_n 0, 1) := by decide +kernel
theorem dX11_house_56 : decode cX11_house 56 = .ok (.getfield 120, 3) := by decide +kernel
theorem dX11_house_59 : decode cX11_house 59 = .ok (.iconst 1, 1) := by decide +kernel
theorem dX11_house_60 : decode cX11_house 60 = .ok (.iload_n 1, 1) := by decide +kernel
theorem dX11_house_61 : decode cX11_house 61 = .ok (.iadd, 1) := by decide +kernel
theorem dX11_house_62 : decode cX11_house 62 = .ok (.iaload, 1) := by decide +kernel
theorem dX11_house_63 : decode cX11_house 63 = .ok (.goto 11, 3) := by decide +kernel
theorem dX11_house_66 : decode cX11_house 66 = .ok (.aload_n 0, 1) := by decide +kernel
theorem dX11_house_67 : decode cX11_house 67 = .ok (.getfield 120, 3) := by decide +kernel
theorem dX11_house_70 : decode cX11_house 70 = .ok (.iconst 5, 1) := by decide +kernel
theorem dX11_house_71 : decode cX11_house 71 = .ok (.iload_n 1, 1) := by decide +kernel
theorem dX11_house_72 : decode cX11_house 72 = .ok (.iadd, 1) := by decide +kernel
theorem dX11_house_73 : decode cX11_house 73 = .ok (.iaload, 1) := by decide +kernel
theorem dX11_house_74 : decode cX11_house 74 = .ok (.ireturn, 1) := by decide +kernel
theorem dX11_house_75 : decode cX11_house 75 = .ok (.aload_n 0, 1) := by decide +kernel
theorem dX11_house_76 : decode cX11_house 76 = .ok (.getfield 120, 3) := by decide +kernel
theorem dX11_house_79 : decode cX11_house 79 = .ok (.bipush 9, 2) := by decide +kernel
theorem dX11_house_81 : decode cX11_house 81 = .ok (.iconst 5, 1) := by decide +kernel
theorem dX11_house_82 : decode cX11_house 82 = .ok (.iload_n 1, 1) := by decide +kernel
theorem dX11_house_83 : decode cX11_house 83 = .ok (.imul, 1) := by decide +kernel
theorem dX11_house_84 : decode cX11_house 84 = .ok (.iadd, 1) := by decide +kernel
theorem dX11_house_85 : decode cX11_house 85 = .ok (.iload_n 2, 1) := by decide +kernel
theorem dX11_house_86 : decode cX11_house 86 = .ok (.iadd, 1) := by decide +kernel
theorem dX11_house_87 : decode cX11_house 87 = .ok (.iconst 3, 1) := by decide +kernel
theorem dX11_house_88 : decode cX11_house 88 = .ok (.isub, 1) := by decide +kernel
theorem dX11_house_89 : decode cX11_house 89 = .ok (.iaload, 1) := by decide +kernel
theorem dX11_house_90 : decode cX11_house 90 = .ok (.ireturn, 1) := by decide +kernel
theorem dX11_housesOf_0 : decode cX11_housesOf 0 = .ok (.iconst 0, 1) := by decide +kernel
theorem dX11_housesOf_1 : decode cX11_housesOf 1 = .ok (.istore_n 2, 1) := by decide +kernel
theorem dX11_housesOf_2 : decode cX11_housesOf 2 = .ok (.iconst 0, 1) := by decide +kernel
theorem dX11_housesOf_3 : decode cX11_housesOf 3 = .ok (.istore_n 3, 1) := by decide +kernel
theorem dX11_housesOf_4 : decode cX11_housesOf 4 = .ok (.iload_n 3, 1) := by decide +kernel
theorem dX11_housesOf_5 : decode cX11_housesOf 5 = .ok (.aload_n 0, 1) := by decide +kernel
theorem dX11_housesOf_6 : decode cX11_housesOf 6 = .ok (.getfield 13, 3) := by decide +kernel
theorem dX11_housesOf_9 : decode cX11_housesOf 9 = .ok (.iconst 2, 1) := by decide +kernel
theorem dX11_housesOf_10 : decode cX11_housesOf 10 = .ok (.iaload, 1) := by decide +kernel
theorem dX11_housesOf_11 : decode cX11_housesOf 11 = .ok (.if_icmp .ge 29, 3) := by decide +kernel
theorem dX11_housesOf_14 : decode cX11_housesOf 14 = .ok (.iload_n 2, 1) := by decide +kernel
theorem dX11_housesOf_15 : decode cX11_housesOf 15 = .ok (.aload_n 0, 1) := by decide +kernel
theorem dX11_housesOf_16 : decode cX11_housesOf 16 = .ok (.getfield 29, 3) := by decide +kernel
theorem dX11_housesOf_19 : decode cX11_housesOf 19 = .ok (.iload_n 3, 1) := by decide +kernel
theorem dX11_housesOf_20 : decode cX11_housesOf 20 = .ok (.iaload, 1) := by decide +kernel
theorem dX11_housesOf_21 : decode cX11_housesOf 21 = .ok (.iload_n 1, 1) := by decide +kernel
theorem dX11_housesOf_22 : decode cX11_housesOf 22 = .ok (.if_icmp .ne 9, 3) := by decide +kernel
theorem dX11_housesOf_25 : decode cX11_housesOf 25 = .ok (.iconst 1, 1) := by decide +kernel
theorem dX11_housesOf_26 : decode cX11_housesOf 26 = .ok (.iload_n 3, 1) := by decide +kernel
theorem dX11_housesOf_27 : decode cX11_housesOf 27 = .ok (.ishl, 1) := by decide +kernel
theorem dX11_housesOf_28 : decode cX11_housesOf 28 = .ok (.goto 4, 3) := by decide +kernel
theorem dX11_housesOf_31 : decode cX11_housesOf 31 = .ok (.iconst 0, 1) := by decide +kernel
theorem dX11_housesOf_32 : decode cX11_housesOf 32 = .ok (.ior, 1) := by decide +kernel
theorem dX11_housesOf_33 : decode cX11_housesOf 33 = .ok (.istore_n 2, 1) := by decide +kernel
theorem dX11_housesOf_34 : decode cX11_housesOf 34 = .ok (.iinc 3 1, 3) := by decide +kernel
theorem dX11_housesOf_37 : decode cX11_housesOf 37 = .ok (.goto (-33), 3) := by decide +kernel
theorem dX11_housesOf_40 : decode cX11_housesOf 40 = .ok (.iload_n 2, 1) := by decide +kernel
theorem dX11_housesOf_41 : decode cX11_housesOf 41 = .ok (.ireturn, 1) := by decide +kernel
theorem dX11_flue_0 : decode cX11_flue 0 = .ok (.aload_n 0, 1) := by decide +kernel
theorem dX11_flue_1 : decode cX11_flue 1 = .ok (.iconst 0, 1) := by decide +kernel
theorem dX11_flue_2 : decode cX11_flue 2 = .ok (.putfield 156, 3) := by decide +kernel
theorem dX11_flue_5 : decode cX11_flue 5 = .ok (.aload_n 0, 1) := by decide +kernel
theorem dX11_flue_6 : decode cX11_flue 6 = .ok (.iload_n 1, 1) := by decide +kernel
theorem dX11_flue_7 : decode cX11_flue 7 = .ok (.invokevirtual 435, 3) := by decide +kernel
theorem dX11_flue_10 : decode cX11_flue 10 = .ok (.ifCond .eq 12, 3) := by decide +kernel
theorem dX11_flue_13 : decode cX11_flue 13 = .ok (.iload_n 2, 1) := by decide +kernel
theorem dX11_flue_14 : decode cX11_flue 14 = .ok (.iconst 0, 1) := by decide +kernel
theorem dX11_flue_15 : decode cX11_flue 15 = .ok (.iconst 4, 1) := by decide +kernel
theorem dX11_flue_16 : decode cX11_flue 16 = .ok (.invokestatic 289, 3) := by decide +kernel
theorem dX11_flue_19 : decode cX11_flue 19 = .ok (.ifCond .ne 6, 3) := by decide +kernel
theorem dX11_flue_22 : decode cX11_flue 22 = .ok (.bipush (-2), 2) := by decide +kernel
theorem dX11_flue_24 : decode cX11_flue 24 = .ok (.ireturn, 1) := by decide +kernel
theorem dX11_flue_25 : decode cX11_flue 25 = .ok (.iload_n 2, 1) := by decide +kernel
theorem dX11_flue_26 : decode cX11_flue 26 = .ok (.iconst 2, 1) := by decide +kernel
theorem dX11_flue_27 : decode cX11_flue 27 = .ok (.if_icmp .ge 10, 3) := by decide +kernel
theorem dX11_flue_30 : decode cX11_flue 30 = .ok (.aload_n 0, 1) := by decide +kernel
theorem dX11_flue_31 : decode cX11_flue 31 = .ok (.iload_n 1, 1) := by decide +kernel
theorem dX11_flue_32 : decode cX11_flue 32 = .ok (.iload_n 2, 1) := by decide +kernel
theorem dX11_flue_33 : decode cX11_flue 33 = .ok (.invokevirtual 423, 3) := by decide +kernel
theorem dX11_flue_36 : decode cX11_flue 36 = .ok (.ireturn, 1) := by decide +kernel
theorem dX11_flue_37 : decode cX11_flue 37 = .ok (.iload_n 2, 1) := by decide +kernel
theorem dX11_flue_38 : decode cX11_flue 38 = .ok (.iconst 2, 1) := by decide +kernel
theorem dX11_flue_39 : decode cX11_flue 39 = .ok (.if_icmp .ne 22, 3) := by decide +kernel
theorem dX11_flue_42 : decode cX11_flue 42 = .ok (.aload_n 0, 1) := by decide +kernel
theorem dX11_flue_43 : decode cX11_flue 43 = .ok (.aload_n 0, 1) := by decide +kernel
theorem dX11_flue_44 : decode cX11_flue 44 = .ok (.iload_n 1, 1) := by decide +kernel
theorem dX11_flue_45 : decode cX11_flue 45 = .ok (.iconst 0, 1) := by decide +kernel
theorem dX11_flue_46 : decode cX11_flue 46 = .ok (.invokevirtual 423, 3) := by decide +kernel
theorem dX11_flue_49 : decode cX11_flue 49 = .ok (.aload_n 0, 1) := by decide +kernel
theorem dX11_flue_50 : decode cX11_flue 50 = .ok (.iload_n 1, 1) := by decide +kernel
theorem dX11_flue_51 : decode cX11_flue 51 = .ok (.iconst 1, 1) := by decide +kernel
theorem dX11_flue_52 : decode cX11_flue 52 = .ok (.invokevirtual 423, 3) := by decide +kernel
theorem dX11_flue_55 : decode cX11_flue 55 = .ok (.invokevirtual 426, 3) := by decide +kernel
theorem dX11_flue_58 : decode cX11_flue 58 = .ok (.goto 25, 3) := by decide +kernel
theorem dX11_flue_61 : decode cX11_flue 61 = .ok (.iload_n 2, 1) := by decide +kernel
theorem dX11_flue_62 : decode cX11_flue 62 = .ok (.iconst 3, 1) := by decide +kernel
theorem dX11_flue_63 : decode cX11_flue 63 = .ok (.if_icmp .ne 15, 3) := by decide +kernel
theorem dX11_flue_66 : decode cX11_flue 66 = .ok (.aload_n 0, 1) := by decide +kernel
theorem dX11_flue_67 : decode cX11_flue 67 = .ok (.getfield 120, 3) := by decide +kernel
theorem dX11_flue_70 : decode cX11_flue 70 = .ok (.bipush 29, 2) := by decide +kernel
theorem dX11_flue_72 : decode cX11_flue 72 = .ok (.iload_n 1, 1) := by decide +kernel
theorem dX11_flue_73 : decode cX11_flue 73 = .ok (.iadd, 1) := by decide +kernel
theorem dX11_flue_74 : decode cX11_flue 74 = .ok (.iaload, 1) := by decide +kernel
theorem dX11_flue_75 : decode cX11_flue 75 = .ok (.goto 8, 3) := by decide +kernel
theorem dX11_flue_78 : decode cX11_flue 78 = .ok (.aload_n 0, 1) := by decide +kernel
theorem dX11_flue_79 : decode cX11_flue 79 = .ok (.iload_n 1, 1) := by decide +kernel
theorem dX11_flue_80 : decode cX11_flue 80 = .ok (.invokevirtual 438, 3) := by decide +kernel
theorem dX11_flue_83 : decode cX11_flue 83 = .ok (.ireturn, 1) := by decide +kernel
theorem dX11_keeps_0 : decode cX11_keeps 0 = .ok (.aload_n 0, 1) := by decide +kernel
theorem dX11_keeps_1 : decode cX11_keeps 1 = .ok (.getfield 384, 3) := by decide +kernel
theorem dX11_keeps_4 : decode cX11_keeps 4 = .ok (.bipush 16, 2) := by decide +kernel
theorem dX11_keeps_6 : decode cX11_keeps 6 = .ok (.if_icmp .ne 43, 3) := by decide +kernel
theorem dX11_keeps_9 : decode cX11_keeps 9 = .ok (.iconst 0, 1) := by decide +kernel
theorem dX11_keeps_10 : decode cX11_keeps 10 = .ok (.istore_n 1, 1) := by decide +kernel
theorem dX11_keeps_11 : decode cX11_keeps 11 = .ok (.iload_n 1, 1) := by decide +kernel
theorem dX11_keeps_12 : decode cX11_keeps 12 = .ok (.sipush 480, 3) := by decide +kernel
theorem dX11_keeps_15 : decode cX11_keeps 15 = .ok (.if_icmp .ge 24, 3) := by decide +kernel
theorem dX11_keeps_18 : decode cX11_keeps 18 = .ok (.aload_n 0, 1) := by decide +kernel
theorem dX11_keeps_19 : decode cX11_keeps 19 = .ok (.getfield 129, 3) := by decide +kernel
theorem dX11_keeps_22 : decode cX11_keeps 22 = .ok (.iload_n 1, 1) := by decide +kernel
theorem dX11_keeps_23 : decode cX11_keeps 23 = .ok (.aload_n 0, 1) := by decide +kernel
theorem dX11_keeps_24 : decode cX11_keeps 24 = .ok (.getfield 129, 3) := by decide +kernel
theorem dX11_keeps_27 : decode cX11_keeps 27 = .ok (.iload_n 1, 1) := by decide +kernel
theorem dX11_keeps_28 : decode cX11_keeps 28 = .ok (.bipush 32, 2) := by decide +kernel
theorem dX11_keeps_30 : decode cX11_keeps 30 = .ok (.iadd, 1) := by decide +kernel
theorem dX11_keeps_31 : decode cX11_keeps 31 = .ok (.iaload, 1) := by decide +kernel
theorem dX11_keeps_32 : decode cX11_keeps 32 = .ok (.iastore, 1) := by decide +kernel
theorem dX11_keeps_33 : decode cX11_keeps 33 = .ok (.iinc 1 1, 3) := by decide +kernel
theorem dX11_keeps_36 : decode cX11_keeps 36 = .ok (.goto (-25), 3) := by decide +kernel
theorem dX11_keeps_39 : decode cX11_keeps 39 = .ok (.aload_n 0, 1) := by decide +kernel
theorem dX11_keeps_40 : decode cX11_keeps 40 = .ok (.dup, 1) := by decide +kernel
theorem dX11_keeps_41 : decode cX11_keeps 41 = .ok (.getfield 384, 3) := by decide +kernel
theorem dX11_keeps_44 : decode cX11_keeps 44 = .ok (.iconst 1, 1) := by decide +kernel
theorem dX11_keeps_45 : decode cX11_keeps 45 = .ok (.isub, 1) := by decide +kernel
theorem dX11_keeps_46 : decode cX11_keeps 46 = .ok (.putfield 384, 3) := by decide +kernel
theorem dX11_keeps_49 : decode cX11_keeps 49 = .ok (.aload_n 0, 1) := by decide +kernel
theorem dX11_keeps_50 : decode cX11_keeps 50 = .ok (.getfield 120, 3) := by decide +kernel
theorem dX11_keeps_53 : decode cX11_keeps 53 = .ok (.iconst 0, 1) := by decide +kernel
theorem dX11_keeps_54 : decode cX11_keeps 54 = .ok (.aload_n 0, 1) := by decide +kernel
theorem dX11_keeps_55 : decode cX11_keeps 55 = .ok (.getfield 129, 3) := by decide +kernel
theorem dX11_keeps_58 : decode cX11_keeps 58 = .ok (.bipush 32, 2) := by decide +kernel
theorem dX11_keeps_60 : decode cX11_keeps 60 = .ok (.aload_n 0, 1) := by decide +kernel
theorem dX11_keeps_61 : decode cX11_keeps 61 = .ok (.getfield 384, 3) := by decide +kernel
theorem dX11_keeps_64 : decode cX11_keeps 64 = .ok (.imul, 1) := by decide +kernel
theorem dX11_keeps_65 : decode cX11_keeps 65 = .ok (.invokestatic 441, 3) := by decide +kernel
theorem dX11_keeps_68 : decode cX11_keeps 68 = .ok (.aload_n 0, 1) := by decide +kernel
theorem dX11_keeps_69 : decode cX11_keeps 69 = .ok (.dup, 1) := by decide +kernel
theorem dX11_keeps_70 : decode cX11_keeps 70 = .ok (.getfield 384, 3) := by decide +kernel
theorem dX11_keeps_73 : decode cX11_keeps 73 = .ok (.iconst 1, 1) := by decide +kernel
theorem dX11_keeps_74 : decode cX11_keeps 74 = .ok (.iadd, 1) := by decide +kernel
theorem dX11_keeps_75 : decode cX11_keeps 75 = .ok (.putfield 384, 3) := by decide +kernel
theorem dX11_keeps_78 : decode cX11_keeps 78 = .ok (.return_, 1) := by decide +kernel
theorem dX11_burn_0 : decode cX11_burn 0 = .ok (.aload_n 0, 1) := by decide +kernel
theorem dX11_burn_1 : decode cX11_burn 1 = .ok (.iconst 0, 1) := by decide +kernel
theorem dX11_burn_2 : decode cX11_burn 2 = .ok (.putfield 156, 3) := by decide +kernel
theorem dX11_burn_5 : decode cX11_burn 5 = .ok (.aload_n 0, 1) := by decide +kernel
theorem dX11_burn_6 : decode cX11_burn 6 = .ok (.iload_n 1, 1) := by decide +kernel
theorem dX11_burn_7 : decode cX11_burn 7 = .ok (.invokevirtual 432, 3) := by decide +kernel
theorem dX11_burn_10 : decode cX11_burn 10 = .ok (.ifCond .eq 20, 3) := by decide +kernel
theorem dX11_burn_13 : decode cX11_burn 13 = .ok (.aload_n 0, 1) := by decide +kernel
theorem dX11_burn_14 : decode cX11_burn 14 = .ok (.iload_n 2, 1) := by decide +kernel
theorem dX11_burn_15 : decode cX11_burn 15 = .ok (.invokevirtual 445, 3) := by decide +kernel
theorem dX11_burn_18 : decode cX11_burn 18 = .ok (.ifCond .eq 12, 3) := by decide +kernel
theorem dX11_burn_21 : decode cX11_burn 21 = .ok (.aload_n 0, 1) := by decide +kernel
theorem dX11_burn_22 : decode cX11_burn 22 = .ok (.iload_n 1, 1) := by decide +kernel
theorem dX11_burn_23 : decode cX11_burn 23 = .ok (.iload_n 2, 1) := by decide +kernel
theorem dX11_burn_24 : decode cX11_burn 24 = .ok (.invokevirtual 448, 3) := by decide +kernel
theorem dX11_burn_27 : decode cX11_burn 27 = .ok (.ifCond .ne 5, 3) := by decide +kernel
theorem dX11_burn_30 : decode cX11_burn 30 = .ok (.iconst 0, 1) := by decide +kernel
theorem dX11_burn_31 : decode cX11_burn 31 = .ok (.ireturn, 1) := by decide +kernel
theorem dX11_burn_32 : decode cX11_burn 32 = .ok (.aload_n 0, 1) := by decide +kernel
theorem dX11_burn_33 : decode cX11_burn 33 = .ok (.invokevirtual 451, 3) := by decide +kernel
theorem dX11_burn_36 : decode cX11_burn 36 = .ok (.aload_n 0, 1) := by decide +kernel
theorem dX11_burn_37 : decode cX11_burn 37 = .ok (.iload_n 1, 1) := by decide +kernel
theorem dX11_burn_38 : decode cX11_burn 38 = .ok (.iload_n 2, 1) := by decide +kernel
theorem dX11_burn_39 : decode cX11_burn 39 = .ok (.invokevirtual 454, 3) := by decide +kernel
theorem dX11_burn_42 : decode cX11_burn 42 = .ok (.iconst 1, 1) := by decide +kernel
theorem dX11_burn_43 : decode cX11_burn 43 = .ok (.ireturn, 1) := by decide +kernel
theorem dX11_lend_0 : decode cX11_lend 0 = .ok (.aload_n 0, 1) := by decide +kernel
theorem dX11_lend_1 : decode cX11_lend 1 = .ok (.iconst 0, 1) := by decide +kernel
theorem dX11_lend_2 : decode cX11_lend 2 = .ok (.putfield 156, 3) := by decide +kernel
theorem dX11_lend_5 : decode cX11_lend 5 = .ok (.aload_n 0, 1) := by decide +kernel
theorem dX11_lend_6 : decode cX11_lend 6 = .ok (.iload_n 1, 1) := by decide +kernel
theorem dX11_lend_7 : decode cX11_lend 7 = .ok (.invokevirtual 432, 3) := by decide +kernel
theorem dX11_lend_10 : decode cX11_lend 10 = .ok (.ifCond .eq 53, 3) := by decide +kernel
theorem dX11_lend_13 : decode cX11_lend 13 = .ok (.aload_n 0, 1) := by decide +kernel
theorem dX11_lend_14 : decode cX11_lend 14 = .ok (.iload_n 2, 1) := by decide +kernel
theorem dX11_lend_15 : decode cX11_lend 15 = .ok (.invokevirtual 432, 3) := by decide +kernel
theorem dX11_lend_18 : decode cX11_lend 18 = .ok (.ifCond .eq 45, 3) := by decide +kernel
theorem dX11_lend_21 : decode cX11_lend 21 = .ok (.iload_n 1, 1) := by decide +kernel
theorem dX11_lend_22 : decode cX11_lend 22 = .ok (.iload_n 2, 1) := by decide +kernel
theorem dX11_lend_23 : decode cX11_lend 23 = .ok (.if_icmp .eq 40, 3) := by decide +kernel
theorem dX11_lend_26 : decode cX11_lend 26 = .ok (.aload_n 0, 1) := by decide +kernel
theorem dX11_lend_27 : decode cX11_lend 27 = .ok (.iload_n 3, 1) := by decide +kernel
theorem dX11_lend_28 : decode cX11_lend 28 = .ok (.invokevirtual 445, 3) := by decide +kernel
theorem dX11_lend_31 : decode cX11_lend 31 = .ok (.ifCond .eq 32, 3) := by decide +kernel
theorem dX11_lend_34 : decode cX11_lend 34 = .ok (.iload 4, 2) := by decide +kernel
theorem dX11_lend_36 : decode cX11_lend 36 = .ok (.iconst 1, 1) := by decide +kernel
theorem dX11_lend_37 : decode cX11_lend 37 = .ok (.bipush 99, 2) := by decide +kernel
theorem dX11_lend_39 : decode cX11_lend 39 = .ok (.invokestatic 289, 3) := by decide +kernel
theorem dX11_lend_42 : decode cX11_lend 42 = .ok (.ifCond .eq 21, 3) := by decide +kernel
theorem dX11_lend_45 : decode cX11_lend 45 = .ok (.aload_n 0, 1) := by decide +kernel
theorem dX11_lend_46 : decode cX11_lend 46 = .ok (.getfield 120, 3) := by decide +kernel
theorem dX11_lend_49 : decode cX11_lend 49 = .ok (.bipush 9, 2) := by decide +kernel
theorem dX11_lend_51 : decode cX11_lend 51 = .ok (.iconst 5, 1) := by decide +kernel
theorem dX11_lend_52 : decode cX11_lend 52 = .ok (.iload_n 1, 1) := by decide +kernel
theorem dX11_lend_53 : decode cX11_lend 53 = .ok (.imul, 1) := by decide +kernel
theorem dX11_lend_54 : decode cX11_lend 54 = .ok (.iadd, 1) := by decide +kernel
theorem dX11_lend_55 : decode cX11_lend 55 = .ok (.iload_n 3, 1) := by decide +kernel
theorem dX11_lend_56 : decode cX11_lend 56 = .ok (.iadd, 1) := by decide +kernel
theorem dX11_lend_57 : decode cX11_lend 57 = .ok (.iaload, 1) := by decide +kernel
theorem dX11_lend_58 : decode cX11_lend 58 = .ok (.iload 4, 2) := by decide +kernel
theorem dX11_lend_60 : decode cX11_lend 60 = .ok (.if_icmp .ge 5, 3) := by decide +kernel
theorem dX11_lend_63 : decode cX11_lend 63 = .ok (.iconst (-1), 1) := by decide +kernel
theorem dX11_lend_64 : decode cX11_lend 64 = .ok (.ireturn, 1) := by decide +kernel
theorem dX11_lend_65 : decode cX11_lend 65 = .ok (.aload_n 0, 1) := by decide +kernel
theorem dX11_lend_66 : decode cX11_lend 66 = .ok (.invokevirtual 451, 3) := by decide +kernel
theorem dX11_lend_69 : decode cX11_lend 69 = .ok (.aload_n 0, 1) := by decide +kernel
theorem dX11_lend_70 : decode cX11_lend 70 = .ok (.iload_n 1, 1) := by decide +kernel
theorem dX11_lend_71 : decode cX11_lend 71 = .ok (.iload_n 2, 1) := by decide +kernel
theorem dX11_lend_72 : decode cX11_lend 72 = .ok (.iload_n 3, 1) := by decide +kernel
theorem dX11_lend_73 : decode cX11_lend 73 = .ok (.iload 4, 2) := by decide +kernel
theorem dX11_lend_75 : decode cX11_lend 75 = .ok (.invokevirtual 457, 3) := by decide +kernel
theorem dX11_lend_78 : decode cX11_lend 78 = .ok (.aload_n 0, 1) := by decide +kernel
theorem dX11_lend_79 : decode cX11_lend 79 = .ok (.getfield 120, 3) := by decide +kernel
theorem dX11_lend_82 : decode cX11_lend 82 = .ok (.bipush 9, 2) := by decide +kernel
theorem dX11_lend_84 : decode cX11_lend 84 = .ok (.iconst 5, 1) := by decide +kernel
theorem dX11_lend_85 : decode cX11_lend 85 = .ok (.iload_n 2, 1) := by decide +kernel
theorem dX11_lend_86 : decode cX11_lend 86 = .ok (.imul, 1) := by decide +kernel
theorem dX11_lend_87 : decode cX11_lend 87 = .ok (.iadd, 1) := by decide +kernel
theorem dX11_lend_88 : decode cX11_lend 88 = .ok (.iload_n 3, 1) := by decide +kernel
theorem dX11_lend_89 : decode cX11_lend 89 = .ok (.iadd, 1) := by decide +kernel
theorem dX11_lend_90 : decode cX11_lend 90 = .ok (.iaload, 1) := by decide +kernel
theorem dX11_lend_91 : decode cX11_lend 91 = .ok (.ireturn, 1) := by decide +kernel
theorem dX11_hour_0 : decode cX11_hour 0 = .ok (.aload_n 0, 1) := by decide +kernel
theorem dX11_hour_1 : decode cX11_hour 1 = .ok (.iconst 0, 1) := by decide +kernel
theorem dX11_hour_2 : decode cX11_hour 2 = .ok (.putfield 156, 3) := by decide +kernel
theorem dX11_hour_5 : decode cX11_hour 5 = .ok (.aload_n 0, 1) := by decide +kernel
theorem dX11_hour_6 : decode cX11_hour 6 = .ok (.invokevirtual 451, 3) := by decide +kernel
theorem dX11_hour_9 : decode cX11_hour 9 = .ok (.aload_n 0, 1) := by decide +kernel
theorem dX11_hour_10 : decode cX11_hour 10 = .ok (.getfield 108, 3) := by decide +kernel
theorem dX11_hour_13 : decode cX11_hour 13 = .ok (.iconst 0, 1) := by decide +kernel
theorem dX11_hour_14 : decode cX11_hour 14 = .ok (.iconst 0, 1) := by decide +kernel
theorem dX11_hour_15 : decode cX11_hour 15 = .ok (.iastore, 1) := by decide +kernel
theorem dX11_hour_16 : decode cX11_hour 16 = .ok (.aload_n 0, 1) := by decide +kernel
theorem dX11_hour_17 : decode cX11_hour 17 = .ok (.invokevirtual 461, 3) := by decide +kernel
theorem dX11_hour_20 : decode cX11_hour 20 = .ok (.ireturn, 1) := by decide +kernel
theorem dX11_undo_0 : decode cX11_undo 0 = .ok (.aload_n 0, 1) := by decide +kernel
theorem dX11_undo_1 : decode cX11_undo 1 = .ok (.iconst 0, 1) := by decide +kernel
theorem dX11_undo_2 : decode cX11_undo 2 = .ok (.putfield 156, 3) := by decide +kernel
theorem dX11_undo_5 : decode cX11_undo 5 = .ok (.aload_n 0, 1) := by decide +kernel
theorem dX11_undo_6 : decode cX11_undo 6 = .ok (.getfield 384, 3) := by decide +kernel
theorem dX11_undo_9 : decode cX11_undo 9 = .ok (.ifCond .ne 5, 3) := by decide +kernel
theorem dX11_undo_12 : decode cX11_undo 12 = .ok (.iconst 0, 1) := by decide +kernel
theorem dX11_undo_13 : decode cX11_undo 13 = .ok (.ireturn, 1) := by decide +kernel
theorem dX11_undo_14 : decode cX11_undo 14 = .ok (.aload_n 0, 1) := by decide +kernel
theorem dX11_undo_15 : decode cX11_undo 15 = .ok (.dup, 1) := by decide +kernel
theorem dX11_undo_16 : decode cX11_undo 16 = .ok (.getfield 384, 3) := by decide +kernel
theorem dX11_undo_19 : decode cX11_undo 19 = .ok (.iconst 1, 1) := by decide +kernel
theorem dX11_undo_20 : decode cX11_undo 20 = .ok (.isub, 1) := by decide +kernel
theorem dX11_undo_21 : decode cX11_undo 21 = .ok (.putfield 384, 3) := by decide +kernel
theorem dX11_undo_24 : decode cX11_undo 24 = .ok (.aload_n 0, 1) := by decide +kernel
theorem dX11_undo_25 : decode cX11_undo 25 = .ok (.getfield 129, 3) := by decide +kernel
theorem dX11_undo_28 : decode cX11_undo 28 = .ok (.bipush 32, 2) := by decide +kernel
theorem dX11_undo_30 : decode cX11_undo 30 = .ok (.aload_n 0, 1) := by decide +kernel
theorem dX11_undo_31 : decode cX11_undo 31 = .ok (.getfield 384, 3) := by decide +kernel
theorem dX11_undo_34 : decode cX11_undo 34 = .ok (.imul, 1) := by decide +kernel
theorem dX11_undo_35 : decode cX11_undo 35 = .ok (.aload_n 0, 1) := by decide +kernel
theorem dX11_undo_36 : decode cX11_undo 36 = .ok (.getfield 120, 3) := by decide +kernel
theorem dX11_undo_39 : decode cX11_undo 39 = .ok (.iconst 0, 1) := by decide +kernel
theorem dX11_undo_40 : decode cX11_undo 40 = .ok (.invokestatic 441, 3) := by decide +kernel
theorem dX11_undo_43 : decode cX11_undo 43 = .ok (.aload_n 0, 1) := by decide +kernel
theorem dX11_undo_44 : decode cX11_undo 44 = .ok (.getfield 108, 3) := by decide +kernel
theorem dX11_undo_47 : decode cX11_undo 47 = .ok (.iconst 0, 1) := by decide +kernel
theorem dX11_undo_48 : decode cX11_undo 48 = .ok (.iconst 0, 1) := by decide +kernel
theorem dX11_undo_49 : decode cX11_undo 49 = .ok (.iastore, 1) := by decide +kernel
theorem dX11_undo_50 : decode cX11_undo 50 = .ok (.iconst 1, 1) := by decide +kernel
theorem dX11_undo_51 : decode cX11_undo 51 = .ok (.ireturn, 1) := by decide +kernel
theorem dX11_goes_0 : decode cX11_goes 0 = .ok (.aload_n 0, 1) := by decide +kernel
theorem dX11_goes_1 : decode cX11_goes 1 = .ok (.getfield 96, 3) := by decide +kernel
theorem dX11_goes_4 : decode cX11_goes 4 = .ok (.iload_n 1, 1) := by decide +kernel
theorem dX11_goes_5 : decode cX11_goes 5 = .ok (.iaload, 1) := by decide +kernel
theorem dX11_goes_6 : decode cX11_goes 6 = .ok (.istore_n 2, 1) := by decide +kernel
theorem dX11_goes_7 : decode cX11_goes 7 = .ok (.aload_n 0, 1) := by decide +kernel
theorem dX11_goes_8 : decode cX11_goes 8 = .ok (.getfield 93, 3) := by decide +kernel
theorem dX11_goes_11 : decode cX11_goes 11 = .ok (.iload_n 1, 1) := by decide +kernel
theorem dX11_goes_12 : decode cX11_goes 12 = .ok (.iaload, 1) := by decide +kernel
theorem dX11_goes_13 : decode cX11_goes 13 = .ok (.ifCond .ne 32, 3) := by decide +kernel
theorem dX11_goes_16 : decode cX11_goes 16 = .ok (.aload_n 0, 1) := by decide +kernel
theorem dX11_goes_17 : decode cX11_goes 17 = .ok (.iload_n 2, 1) := by decide +kernel
theorem dX11_goes_18 : decode cX11_goes 18 = .ok (.aload_n 0, 1) := by decide +kernel
theorem dX11_goes_19 : decode cX11_goes 19 = .ok (.getfield 99, 3) := by decide +kernel
theorem dX11_goes_22 : decode cX11_goes 22 = .ok (.iload_n 1, 1) := by decide +kernel
theorem dX11_goes_23 : decode cX11_goes 23 = .ok (.iaload, 1) := by decide +kernel
theorem dX11_goes_24 : decode cX11_goes 24 = .ok (.invokevirtual 448, 3) := by decide +kernel
theorem dX11_goes_27 : decode cX11_goes 27 = .ok (.ifCond .ne 5, 3) := by decide +kernel
theorem dX11_goes_30 : decode cX11_goes 30 = .ok (.iconst 0, 1) := by decide +kernel
theorem dX11_goes_31 : decode cX11_goes 31 = .ok (.ireturn, 1) := by decide +kernel
theorem dX11_goes_32 : decode cX11_goes 32 = .ok (.aload_n 0, 1) := by decide +kernel
theorem dX11_goes_33 : decode cX11_goes 33 = .ok (.iload_n 2, 1) := by decide +kernel
theorem dX11_goes_34 : decode cX11_goes 34 = .ok (.aload_n 0, 1) := by decide +kernel
theorem dX11_goes_35 : decode cX11_goes 35 = .ok (.getfield 99, 3) := by decide +kernel
theorem dX11_goes_38 : decode cX11_goes 38 = .ok (.iload_n 1, 1) := by decide +kernel
theorem dX11_goes_39 : decode cX11_goes 39 = .ok (.iaload, 1) := by decide +kernel
theorem dX11_goes_40 : decode cX11_goes 40 = .ok (.invokevirtual 454, 3) := by decide +kernel
theorem dX11_goes_43 : decode cX11_goes 43 = .ok (.iconst 1, 1) := by decide +kernel
theorem dX11_goes_44 : decode cX11_goes 44 = .ok (.ireturn, 1) := by decide +kernel
theorem dX11_goes_45 : decode cX11_goes 45 = .ok (.aload_n 0, 1) := by decide +kernel
theorem dX11_goes_46 : decode cX11_goes 46 = .ok (.getfield 120, 3) := by decide +kernel
theorem dX11_goes_49 : decode cX11_goes 49 = .ok (.bipush 9, 2) := by decide +kernel
theorem dX11_goes_51 : decode cX11_goes 51 = .ok (.iconst 5, 1) := by decide +kernel
theorem dX11_goes_52 : decode cX11_goes 52 = .ok (.iload_n 2, 1) := by decide +kernel
theorem dX11_goes_53 : decode cX11_goes 53 = .ok (.imul, 1) := by decide +kernel
theorem dX11_goes_54 : decode cX11_goes 54 = .ok (.iadd, 1) := by decide +kernel
theorem dX11_goes_55 : decode cX11_goes 55 = .ok (.aload_n 0, 1) := by decide +kernel
theorem dX11_goes_56 : decode cX11_goes 56 = .ok (.getfield 102, 3) := by decide +kernel
theorem dX11_goes_59 : decode cX11_goes 59 = .ok (.iload_n 1, 1) := by decide +kernel
theorem dX11_goes_60 : decode cX11_goes 60 = .ok (.iaload, 1) := by decide +kernel
theorem dX11_goes_61 : decode cX11_goes 61 = .ok (.iadd, 1) := by decide +kernel
theorem dX11_goes_62 : decode cX11_goes 62 = .ok (.iaload, 1) := by decide +kernel
theorem dX11_goes_63 : decode cX11_goes 63 = .ok (.aload_n 0, 1) := by decide +kernel
theorem dX11_goes_64 : decode cX11_goes 64 = .ok (.getfield 105, 3) := by decide +kernel
theorem dX11_goes_67 : decode cX11_goes 67 = .ok (.iload_n 1, 1) := by decide +kernel
theorem dX11_goes_68 : decode cX11_goes 68 = .ok (.iaload, 1) := by decide +kernel
theorem dX11_goes_69 : decode cX11_goes 69 = .ok (.if_icmp .ge 5, 3) := by decide +kernel
theorem dX11_goes_72 : decode cX11_goes 72 = .ok (.iconst 0, 1) := by decide +kernel
theorem dX11_goes_73 : decode cX11_goes 73 = .ok (.ireturn, 1) := by decide +kernel
theorem dX11_goes_74 : decode cX11_goes 74 = .ok (.aload_n 0, 1) := by decide +kernel
theorem dX11_goes_75 : decode cX11_goes 75 = .ok (.iload_n 2, 1) := by decide +kernel
theorem dX11_goes_76 : decode cX11_goes 76 = .ok (.aload_n 0, 1) := by decide +kernel
theorem dX11_goes_77 : decode cX11_goes 77 = .ok (.getfield 99, 3) := by decide +kernel
theorem dX11_goes_80 : decode cX11_goes 80 = .ok (.iload_n 1, 1) := by decide +kernel
theorem dX11_goes_81 : decode cX11_goes 81 = .ok (.iaload, 1) := by decide +kernel
theorem dX11_goes_82 : decode cX11_goes 82 = .ok (.aload_n 0, 1) := by decide +kernel
theorem dX11_goes_83 : decode cX11_goes 83 = .ok (.getfield 102, 3) := by decide +kernel
theorem dX11_goes_86 : decode cX11_goes 86 = .ok (.iload_n 1, 1) := by decide +kernel
theorem dX11_goes_87 : decode cX11_goes 87 = .ok (.iaload, 1) := by decide +kernel
theorem dX11_goes_88 : decode cX11_goes 88 = .ok (.aload_n 0, 1) := by decide +kernel
theorem dX11_goes_89 : decode cX11_goes 89 = .ok (.getfield 105, 3) := by decide +kernel
theorem dX11_goes_92 : decode cX11_goes 92 = .ok (.iload_n 1, 1) := by decide +kernel
theorem dX11_goes_93 : decode cX11_goes 93 = .ok (.iaload, 1) := by decide +kernel
theorem dX11_goes_94 : decode cX11_goes 94 = .ok (.invokevirtual 457, 3) := by decide +kernel
theorem dX11_goes_97 : decode cX11_goes 97 = .ok (.iconst 1, 1) := by decide +kernel
theorem dX11_goes_98 : decode cX11_goes 98 = .ok (.ireturn, 1) := by decide +kernel
theorem dX11_sootOfAll_0 : decode cX11_sootOfAll 0 = .ok (.aload_n 0, 1) := by decide +kernel
theorem dX11_sootOfAll_1 : decode cX11_sootOfAll 1 = .ok (.getfield 120, 3) := by decide +kernel
theorem dX11_sootOfAll_4 : decode cX11_sootOfAll 4 = .ok (.bipush 29, 2) := by decide +kernel
theorem dX11_sootOfAll_6 : decode cX11_sootOfAll 6 = .ok (.iaload, 1) := by decide +kernel
theorem dX11_sootOfAll_7 : decode cX11_sootOfAll 7 = .ok (.aload_n 0, 1) := by decide +kernel
theorem dX11_sootOfAll_8 : decode cX11_sootOfAll 8 = .ok (.getfield 120, 3) := by decide +kernel
theorem dX11_sootOfAll_11 : decode cX11_sootOfAll 11 = .ok (.bipush 30, 2) := by decide +kernel
theorem dX11_sootOfAll_13 : decode cX11_sootOfAll 13 = .ok (.iaload, 1) := by decide +kernel
theorem dX11_sootOfAll_14 : decode cX11_sootOfAll 14 = .ok (.iadd, 1) := by decide +kernel
theorem dX11_sootOfAll_15 : decode cX11_sootOfAll 15 = .ok (.aload_n 0, 1) := by decide +kernel
theorem dX11_sootOfAll_16 : decode cX11_sootOfAll 16 = .ok (.getfield 120, 3) := by decide +kernel
theorem dX11_sootOfAll_19 : decode cX11_sootOfAll 19 = .ok (.bipush 31, 2) := by decide +kernel
theorem dX11_sootOfAll_21 : decode cX11_sootOfAll 21 = .ok (.iaload, 1) := by decide +kernel
theorem dX11_sootOfAll_22 : decode cX11_sootOfAll 22 = .ok (.iadd, 1) := by decide +kernel
theorem dX11_sootOfAll_23 : decode cX11_sootOfAll 23 = .ok (.ireturn, 1) := by decide +kernel
theorem dX11_judged_0 : decode cX11_judged 0 = .ok (.aload_n 0, 1) := by decide +kernel
theorem dX11_judged_1 : decode cX11_judged 1 = .ok (.iconst 0, 1) := by decide +kernel
theorem dX11_judged_2 : decode cX11_judged 2 = .ok (.putfield 156, 3) := by decide +kernel
theorem dX11_judged_5 : decode cX11_judged 5 = .ok (.iload_n 1, 1) := by decide +kernel
theorem dX11_judged_6 : decode cX11_judged 6 = .ok (.iconst 0, 1) := by decide +kernel
theorem dX11_judged_7 : decode cX11_judged 7 = .ok (.iconst 2, 1) := by decide +kernel
theorem dX11_judged_8 : decode cX11_judged 8 = .ok (.invokestatic 289, 3) := by decide +kernel
theorem dX11_judged_11 : decode cX11_judged 11 = .ok (.ifCond .ne 6, 3) := by decide +kernel
theorem dX11_judged_14 : decode cX11_judged 14 = .ok (.bipush (-2), 2) := by decide +kernel
theorem dX11_judged_16 : decode cX11_judged 16 = .ok (.ireturn, 1) := by decide +kernel
theorem dX11_judged_17 : decode cX11_judged 17 = .ok (.aload_n 0, 1) := by decide +kernel
theorem dX11_judged_18 : decode cX11_judged 18 = .ok (.getfield 120, 3) := by decide +kernel
theorem dX11_judged_21 : decode cX11_judged 21 = .ok (.iconst 0, 1) := by decide +kernel
theorem dX11_judged_22 : decode cX11_judged 22 = .ok (.aload_n 0, 1) := by decide +kernel
theorem dX11_judged_23 : decode cX11_judged 23 = .ok (.getfield 123, 3) := by decide +kernel
theorem dX11_judged_26 : decode cX11_judged 26 = .ok (.iconst 0, 1) := by decide +kernel
theorem dX11_judged_27 : decode cX11_judged 27 = .ok (.invokestatic 441, 3) := by decide +kernel
theorem dX11_judged_30 : decode cX11_judged 30 = .ok (.aload_n 0, 1) := by decide +kernel
theorem dX11_judged_31 : decode cX11_judged 31 = .ok (.invokevirtual 153, 3) := by decide +kernel
theorem dX11_judged_34 : decode cX11_judged 34 = .ok (.iconst (-1), 1) := by decide +kernel
theorem dX11_judged_35 : decode cX11_judged 35 = .ok (.istore_n 2, 1) := by decide +kernel
theorem dX11_judged_36 : decode cX11_judged 36 = .ok (.iconst 0, 1) := by decide +kernel
theorem dX11_judged_37 : decode cX11_judged 37 = .ok (.istore_n 3, 1) := by decide +kernel
theorem dX11_judged_38 : decode cX11_judged 38 = .ok (.iconst 0, 1) := by decide +kernel
theorem dX11_judged_39 : decode cX11_judged 39 = .ok (.istore 4, 2) := by decide +kernel
theorem dX11_judged_41 : decode cX11_judged 41 = .ok (.iload 4, 2) := by decide +kernel
theorem dX11_judged_43 : decode cX11_judged 43 = .ok (.aload_n 0, 1) := by decide +kernel
theorem dX11_judged_44 : decode cX11_judged 44 = .ok (.getfield 90, 3) := by decide +kernel
theorem dX11_judged_47 : decode cX11_judged 47 = .ok (.iconst 0, 1) := by decide +kernel
theorem dX11_judged_48 : decode cX11_judged 48 = .ok (.iaload, 1) := by decide +kernel
theorem dX11_judged_49 : decode cX11_judged 49 = .ok (.if_icmp .ge 51, 3) := by decide +kernel
theorem dX11_judged_52 : decode cX11_judged 52 = .ok (.aload_n 0, 1) := by decide +kernel
theorem dX11_judged_53 : decode cX11_judged 53 = .ok (.getfield 93, 3) := by decide +kernel
theorem dX11_judged_56 : decode cX11_judged 56 = .ok (.iload 4, 2) := by decide +kernel
theorem dX11_judged_58 : decode cX11_judged 58 = .ok (.iaload, 1) := by decide +kernel
theorem dX11_judged_59 : decode cX11_judged 59 = .ok (.iconst 2, 1) := by decide +kernel
theorem dX11_judged_60 : decode cX11_judged 60 = .ok (.if_icmp .ne 18, 3) := by decide +kernel
theorem dX11_judged_63 : decode cX11_judged 63 = .ok (.aload_n 0, 1) := by decide +kernel
theorem dX11_judged_64 : decode cX11_judged 64 = .ok (.invokevirtual 461, 3) := by decide +kernel
theorem dX11_judged_67 : decode cX11_judged 67 = .ok (.pop, 1) := by decide +kernel
theorem dX11_judged_68 : decode cX11_judged 68 = .ok (.iload_n 3, 1) := by decide +kernel
theorem dX11_judged_69 : decode cX11_judged 69 = .ok (.aload_n 0, 1) := by decide +kernel
theorem dX11_judged_70 : decode cX11_judged 70 = .ok (.getfield 417, 3) := by decide +kernel
theorem dX11_judged_73 : decode cX11_judged 73 = .ok (.iadd, 1) := by decide +kernel
theorem dX11_judged_74 : decode cX11_judged 74 = .ok (.istore_n 3, 1) := by decide +kernel
theorem dX11_judged_75 : decode cX11_judged 75 = .ok (.goto 19, 3) := by decide +kernel
theorem dX11_judged_78 : decode cX11_judged 78 = .ok (.aload_n 0, 1) := by decide +kernel
theorem dX11_judged_79 : decode cX11_judged 79 = .ok (.iload 4, 2) := by decide +kernel
theorem dX11_judged_81 : decode cX11_judged 81 = .ok (.invokevirtual 464, 3) := by decide +kernel
theorem dX11_judged_84 : decode cX11_judged 84 = .ok (.ifCond .ne 10, 3) := by decide +kernel
theorem dX11_judged_87 : decode cX11_judged 87 = .ok (.iload_n 2, 1) := by decide +kernel
theorem dX11_judged_88 : decode cX11_judged 88 = .ok (.ifCond .ge 6, 3) := by decide +kernel
theorem dX11_judged_91 : decode cX11_judged 91 = .ok (.iload 4, 2) := by decide +kernel
theorem dX11_judged_93 : decode cX11_judged 93 = .ok (.istore_n 2, 1) := by decide +kernel
theorem dX11_judged_94 : decode cX11_judged 94 = .ok (.iinc 4 1, 3) := by decide +kernel
theorem dX11_judged_97 : decode cX11_judged 97 = .ok (.goto (-56), 3) := by decide +kernel
theorem dX11_judged_100 : decode cX11_judged 100 = .ok (.aload_n 0, 1) := by decide +kernel
theorem dX11_judged_101 : decode cX11_judged 101 = .ok (.invokevirtual 467, 3) := by decide +kernel
theorem dX11_judged_104 : decode cX11_judged 104 = .ok (.istore 4, 2) := by decide +kernel
theorem dX11_judged_106 : decode cX11_judged 106 = .ok (.aload_n 0, 1) := by decide +kernel
theorem dX11_judged_107 : decode cX11_judged 107 = .ok (.getfield 123, 3) := by decide +kernel
theorem dX11_judged_110 : decode cX11_judged 110 = .ok (.iconst 0, 1) := by decide +kernel
theorem dX11_judged_111 : decode cX11_judged 111 = .ok (.aload_n 0, 1) := by decide +kernel
theorem dX11_judged_112 : decode cX11_judged 112 = .ok (.getfield 120, 3) := by decide +kernel
theorem dX11_judged_115 : decode cX11_judged 115 = .ok (.iconst 0, 1) := by decide +kernel
theorem dX11_judged_116 : decode cX11_judged 116 = .ok (.invokestatic 441, 3) := by decide +kernel
theorem dX11_judged_119 : decode cX11_judged 119 = .ok (.iload_n 1, 1) := by decide +kernel
theorem dX11_judged_120 : decode cX11_judged 120 = .ok (.ifCond .ne 7, 3) := by decide +kernel
theorem dX11_judged_123 : decode cX11_judged 123 = .ok (.iload_n 2, 1) := by decide +kernel
theorem dX11_judged_124 : decode cX11_judged 124 = .ok (.goto 14, 3) := by decide +kernel
theorem dX11_judged_127 : decode cX11_judged 127 = .ok (.iload_n 1, 1) := by decide +kernel
theorem dX11_judged_128 : decode cX11_judged 128 = .ok (.iconst 1, 1) := by decide +kernel
theorem dX11_judged_129 : decode cX11_judged 129 = .ok (.if_icmp .ne 7, 3) := by decide +kernel
theorem dX11_judged_132 : decode cX11_judged 132 = .ok (.iload_n 3, 1) := by decide +kernel
theorem dX11_judged_133 : decode cX11_judged 133 = .ok (.goto 5, 3) := by decide +kernel
theorem dX11_judged_136 : decode cX11_judged 136 = .ok (.iload 4, 2) := by decide +kernel
theorem dX11_judged_138 : decode cX11_judged 138 = .ok (.ireturn, 1) := by decide +kernel
theorem dX11_mayBurn_0 : decode cX11_mayBurn 0 = .ok (.iload_n 2, 1) := by decide +kernel
theorem dX11_mayBurn_1 : decode cX11_mayBurn 1 = .ok (.iconst 5, 1) := by decide +kernel
theorem dX11_mayBurn_2 : decode cX11_mayBurn 2 = .ok (.if_icmp .eq 20, 3) := by decide +kernel
theorem dX11_mayBurn_5 : decode cX11_mayBurn 5 = .ok (.aload_n 0, 1) := by decide +kernel
theorem dX11_mayBurn_6 : decode cX11_mayBurn 6 = .ok (.iload_n 2, 1) := by decide +kernel
theorem dX11_mayBurn_7 : decode cX11_mayBurn 7 = .ok (.invokevirtual 445, 3) := by decide +kernel
theorem dX11_mayBurn_10 : decode cX11_mayBurn 10 = .ok (.ifCond .eq 16, 3) := by decide +kernel
theorem dX11_mayBurn_13 : decode cX11_mayBurn 13 = .ok (.aload_n 0, 1) := by decide +kernel
theorem dX11_mayBurn_14 : decode cX11_mayBurn 14 = .ok (.iload_n 1, 1) := by decide +kernel
theorem dX11_mayBurn_15 : decode cX11_mayBurn 15 = .ok (.iload_n 2, 1) := by decide +kernel
theorem dX11_mayBurn_16 : decode cX11_mayBurn 16 = .ok (.invokevirtual 448, 3) := by decide +kernel
theorem dX11_mayBurn_19 : decode cX11_mayBurn 19 = .ok (.ifCond .eq 7, 3) := by decide +kernel
theorem dX11_mayBurn_22 : decode cX11_mayBurn 22 = .ok (.iconst 1, 1) := by decide +kernel
theorem dX11_mayBurn_23 : decode cX11_mayBurn 23 = .ok (.goto 4, 3) := by decide +kernel
theorem dX11_mayBurn_26 : decode cX11_mayBurn 26 = .ok (.iconst 0, 1) := by decide +kernel
theorem dX11_mayBurn_27 : decode cX11_mayBurn 27 = .ok (.ireturn, 1) := by decide +kernel
theorem dX11_givesBy_0 : decode cX11_givesBy 0 = .ok (.aload_n 0, 1) := by decide +kernel
theorem dX11_givesBy_1 : decode cX11_givesBy 1 = .ok (.iload_n 1, 1) := by decide +kernel
theorem dX11_givesBy_2 : decode cX11_givesBy 2 = .ok (.invokevirtual 404, 3) := by decide +kernel
theorem dX11_givesBy_5 : decode cX11_givesBy 5 = .ok (.ifCond .ne 13, 3) := by decide +kernel
theorem dX11_givesBy_8 : decode cX11_givesBy 8 = .ok (.aload_n 0, 1) := by decide +kernel
theorem dX11_givesBy_9 : decode cX11_givesBy 9 = .ok (.getfield 135, 3) := by decide +kernel
theorem dX11_givesBy_12 : decode cX11_givesBy 12 = .ok (.iload_n 1, 1) := by decide +kernel
theorem dX11_givesBy_13 : decode cX11_givesBy 13 = .ok (.iaload, 1) := by decide +kernel
theorem dX11_givesBy_14 : decode cX11_givesBy 14 = .ok (.iconst 5, 1) := by decide +kernel
theorem dX11_givesBy_15 : decode cX11_givesBy 15 = .ok (.if_icmp .ne 10, 3) := by decide +kernel
theorem dX11_givesBy_18 : decode cX11_givesBy 18 = .ok (.aload_n 0, 1) := by decide +kernel
theorem dX11_givesBy_19 : decode cX11_givesBy 19 = .ok (.iload_n 1, 1) := by decide +kernel
theorem dX11_givesBy_20 : decode cX11_givesBy 20 = .ok (.iload_n 2, 1) := by decide +kernel
theorem dX11_givesBy_21 : decode cX11_givesBy 21 = .ok (.invokevirtual 411, 3) := by decide +kernel
theorem dX11_givesBy_24 : decode cX11_givesBy 24 = .ok (.ireturn, 1) := by decide +kernel
theorem dX11_givesBy_25 : decode cX11_givesBy 25 = .ok (.aload_n 0, 1) := by decide +kernel
theorem dX11_givesBy_26 : decode cX11_givesBy 26 = .ok (.aload_n 0, 1) := by decide +kernel
theorem dX11_givesBy_27 : decode cX11_givesBy 27 = .ok (.getfield 135, 3) := by decide +kernel
theorem dX11_givesBy_30 : decode cX11_givesBy 30 = .ok (.iload_n 1, 1) := by decide +kernel
theorem dX11_givesBy_31 : decode cX11_givesBy 31 = .ok (.iaload, 1) := by decide +kernel
theorem dX11_givesBy_32 : decode cX11_givesBy 32 = .ok (.aload_n 0, 1) := by decide +kernel
theorem dX11_givesBy_33 : decode cX11_givesBy 33 = .ok (.getfield 26, 3) := by decide +kernel
theorem dX11_givesBy_36 : decode cX11_givesBy 36 = .ok (.aload_n 0, 1) := by decide +kernel
theorem dX11_givesBy_37 : decode cX11_givesBy 37 = .ok (.getfield 135, 3) := by decide +kernel
theorem dX11_givesBy_40 : decode cX11_givesBy 40 = .ok (.iload_n 1, 1) := by decide +kernel
theorem dX11_givesBy_41 : decode cX11_givesBy 41 = .ok (.iaload, 1) := by decide +kernel
theorem dX11_givesBy_42 : decode cX11_givesBy 42 = .ok (.iaload, 1) := by decide +kernel
theorem dX11_givesBy_43 : decode cX11_givesBy 43 = .ok (.aload_n 0, 1) := by decide +kernel
theorem dX11_givesBy_44 : decode cX11_givesBy 44 = .ok (.getfield 120, 3) := by decide +kernel
theorem dX11_givesBy_47 : decode cX11_givesBy 47 = .ok (.iconst 0, 1) := by decide +kernel
theorem dX11_givesBy_48 : decode cX11_givesBy 48 = .ok (.iaload, 1) := by decide +kernel
theorem dX11_givesBy_49 : decode cX11_givesBy 49 = .ok (.iload_n 2, 1) := by decide +kernel
theorem dX11_givesBy_50 : decode cX11_givesBy 50 = .ok (.invokevirtual 407, 3) := by decide +kernel
theorem dX11_givesBy_53 : decode cX11_givesBy 53 = .ok (.ireturn, 1) := by decide +kernel
theorem dX11_smokeBy_0 : decode cX11_smokeBy 0 = .ok (.iconst 0, 1) := by decide +kernel
theorem dX11_smokeBy_1 : decode cX11_smokeBy 1 = .ok (.istore_n 3, 1) := by decide +kernel
theorem dX11_smokeBy_2 : decode cX11_smokeBy 2 = .ok (.iconst 0, 1) := by decide +kernel
theorem dX11_smokeBy_3 : decode cX11_smokeBy 3 = .ok (.istore 4, 2) := by decide +kernel
theorem dX11_smokeBy_5 : decode cX11_smokeBy 5 = .ok (.iload 4, 2) := by decide +kernel
theorem dX11_smokeBy_7 : decode cX11_smokeBy 7 = .ok (.aload_n 0, 1) := by decide +kernel
theorem dX11_smokeBy_8 : decode cX11_smokeBy 8 = .ok (.getfield 13, 3) := by decide +kernel
theorem dX11_smokeBy_11 : decode cX11_smokeBy 11 = .ok (.iconst 2, 1) := by decide +kernel
theorem dX11_smokeBy_12 : decode cX11_smokeBy 12 = .ok (.iaload, 1) := by decide +kernel
theorem dX11_smokeBy_13 : decode cX11_smokeBy 13 = .ok (.if_icmp .ge 34, 3) := by decide +kernel
theorem dX11_smokeBy_16 : decode cX11_smokeBy 16 = .ok (.iload_n 3, 1) := by decide +kernel
theorem dX11_smokeBy_17 : decode cX11_smokeBy 17 = .ok (.aload_n 0, 1) := by decide +kernel
theorem dX11_smokeBy_18 : decode cX11_smokeBy 18 = .ok (.getfield 29, 3) := by decide +kernel
theorem dX11_smokeBy_21 : decode cX11_smokeBy 21 = .ok (.iload 4, 2) := by decide +kernel
theorem dX11_smokeBy_23 : decode cX11_smokeBy 23 = .ok (.iaload, 1) := by decide +kernel
theorem dX11_smokeBy_24 : decode cX11_smokeBy 24 = .ok (.iload_n 1, 1) := by decide +kernel
theorem dX11_smokeBy_25 : decode cX11_smokeBy 25 = .ok (.if_icmp .ne 13, 3) := by decide +kernel
theorem dX11_smokeBy_28 : decode cX11_smokeBy 28 = .ok (.aload_n 0, 1) := by decide +kernel
theorem dX11_smokeBy_29 : decode cX11_smokeBy 29 = .ok (.iload 4, 2) := by decide +kernel
theorem dX11_smokeBy_31 : decode cX11_smokeBy 31 = .ok (.iload_n 2, 1) := by decide +kernel
theorem dX11_smokeBy_32 : decode cX11_smokeBy 32 = .ok (.invokevirtual 470, 3) := by decide +kernel
theorem dX11_smokeBy_35 : decode cX11_smokeBy 35 = .ok (.goto 4, 3) := by decide +kernel
theorem dX11_smokeBy_38 : decode cX11_smokeBy 38 = .ok (.iconst 0, 1) := by decide +kernel
theorem dX11_smokeBy_39 : decode cX11_smokeBy 39 = .ok (.iadd, 1) := by decide +kernel
theorem dX11_smokeBy_40 : decode cX11_smokeBy 40 = .ok (.istore_n 3, 1) := by decide +kernel
theorem dX11_smokeBy_41 : decode cX11_smokeBy 41 = .ok (.iinc 4 1, 3) := by decide +kernel
theorem dX11_smokeBy_44 : decode cX11_smokeBy 44 = .ok (.goto (-39), 3) := by decide +kernel
theorem dX11_smokeBy_47 : decode cX11_smokeBy 47 = .ok (.sipush 999, 3) := by decide +kernel
theorem dX11_smokeBy_50 : decode cX11_smokeBy 50 = .ok (.iload_n 3, 1) := by decide +kernel
theorem dX11_smokeBy_51 : decode cX11_smokeBy 51 = .ok (.invokestatic 414, 3) := by decide +kernel
theorem dX11_smokeBy_54 : decode cX11_smokeBy 54 = .ok (.ireturn, 1) := by decide +kernel
theorem dX11_signBy_0 : decode cX11_signBy 0 = .ok (.aload_n 0, 1) := by decide +kernel
theorem dX11_signBy_1 : decode cX11_signBy 1 = .ok (.aload_n 0, 1) := by decide +kernel
theorem dX11_signBy_2 : decode cX11_signBy 2 = .ok (.iload_n 1, 1) := by decide +kernel
theorem dX11_signBy_3 : decode cX11_signBy 3 = .ok (.iconst 0, 1) := by decide +kernel
theorem dX11_signBy_4 : decode cX11_signBy 4 = .ok (.invokevirtual 473, 3) := by decide +kernel
theorem dX11_signBy_7 : decode cX11_signBy 7 = .ok (.aload_n 0, 1) := by decide +kernel
theorem dX11_signBy_8 : decode cX11_signBy 8 = .ok (.iload_n 1, 1) := by decide +kernel
theorem dX11_signBy_9 : decode cX11_signBy 9 = .ok (.iconst 1, 1) := by decide +kernel
theorem dX11_signBy_10 : decode cX11_signBy 10 = .ok (.invokevirtual 473, 3) := by decide +kernel
theorem dX11_signBy_13 : decode cX11_signBy 13 = .ok (.invokevirtual 426, 3) := by decide +kernel
theorem dX11_signBy_16 : decode cX11_signBy 16 = .ok (.ireturn, 1) := by decide +kernel
theorem dX11_noneBurns_0 : decode cX11_noneBurns 0 = .ok (.iconst 0, 1) := by decide +kernel
theorem dX11_noneBurns_1 : decode cX11_noneBurns 1 = .ok (.istore_n 1, 1) := by decide +kernel
theorem dX11_noneBurns_2 : decode cX11_noneBurns 2 = .ok (.iload_n 1, 1) := by decide +kernel
theorem dX11_noneBurns_3 : decode cX11_noneBurns 3 = .ok (.iconst 4, 1) := by decide +kernel
theorem dX11_noneBurns_4 : decode cX11_noneBurns 4 = .ok (.if_icmp .ge 16, 3) := by decide +kernel
theorem dX11_noneBurns_7 : decode cX11_noneBurns 7 = .ok (.aload_n 0, 1) := by decide +kernel
theorem dX11_noneBurns_8 : decode cX11_noneBurns 8 = .ok (.getfield 135, 3) := by decide +kernel
theorem dX11_noneBurns_11 : decode cX11_noneBurns 11 = .ok (.iload_n 1, 1) := by decide +kernel
theorem dX11_noneBurns_12 : decode cX11_noneBurns 12 = .ok (.iconst 5, 1) := by decide +kernel
theorem dX11_noneBurns_13 : decode cX11_noneBurns 13 = .ok (.iastore, 1) := by decide +kernel
theorem dX11_noneBurns_14 : decode cX11_noneBurns 14 = .ok (.iinc 1 1, 3) := by decide +kernel
theorem dX11_noneBurns_17 : decode cX11_noneBurns 17 = .ok (.goto (-15), 3) := by decide +kernel
theorem dX11_noneBurns_20 : decode cX11_noneBurns 20 = .ok (.return_, 1) := by decide +kernel
theorem dX11_nextWay_0 : decode cX11_nextWay 0 = .ok (.iconst 3, 1) := by decide +kernel
theorem dX11_nextWay_1 : decode cX11_nextWay 1 = .ok (.istore_n 2, 1) := by decide +kernel
theorem dX11_nextWay_2 : decode cX11_nextWay 2 = .ok (.iload_n 2, 1) := by decide +kernel
theorem dX11_nextWay_3 : decode cX11_nextWay 3 = .ok (.ifCond .lt 77, 3) := by decide +kernel
theorem dX11_nextWay_6 : decode cX11_nextWay 6 = .ok (.iload_n 1, 1) := by decide +kernel
theorem dX11_nextWay_7 : decode cX11_nextWay 7 = .ok (.iload_n 2, 1) := by decide +kernel
theorem dX11_nextWay_8 : decode cX11_nextWay 8 = .ok (.ishr, 1) := by decide +kernel
theorem dX11_nextWay_9 : decode cX11_nextWay 9 = .ok (.iconst 1, 1) := by decide +kernel
theorem dX11_nextWay_10 : decode cX11_nextWay 10 = .ok (.iand, 1) := by decide +kernel
theorem dX11_nextWay_11 : decode cX11_nextWay 11 = .ok (.ifCond .ne 6, 3) := by decide +kernel
theorem dX11_nextWay_14 : decode cX11_nextWay 14 = .ok (.goto 60, 3) := by decide +kernel
theorem dX11_nextWay_17 : decode cX11_nextWay 17 = .ok (.aload_n 0, 1) := by decide +kernel
theorem dX11_nextWay_18 : decode cX11_nextWay 18 = .ok (.getfield 135, 3) := by decide +kernel
theorem dX11_nextWay_21 : decode cX11_nextWay 21 = .ok (.iload_n 2, 1) := by decide +kernel
theorem dX11_nextWay_22 : decode cX11_nextWay 22 = .ok (.dup2, 1) := by decide +kernel
theorem dX11_nextWay_23 : decode cX11_nextWay 23 = .ok (.iaload, 1) := by decide +kernel
theorem dX11_nextWay_24 : decode cX11_nextWay 24 = .ok (.iconst 1, 1) := by decide +kernel
theorem dX11_nextWay_25 : decode cX11_nextWay 25 = .ok (.iadd, 1) := by decide +kernel
theorem dX11_nextWay_26 : decode cX11_nextWay 26 = .ok (.iastore, 1) := by decide +kernel
theorem dX11_nextWay_27 : decode cX11_nextWay 27 = .ok (.aload_n 0, 1) := by decide +kernel
theorem dX11_nextWay_28 : decode cX11_nextWay 28 = .ok (.getfield 135, 3) := by decide +kernel
theorem dX11_nextWay_31 : decode cX11_nextWay 31 = .ok (.iload_n 2, 1) := by decide +kernel
theorem dX11_nextWay_32 : decode cX11_nextWay 32 = .ok (.iaload, 1) := by decide +kernel
theorem dX11_nextWay_33 : decode cX11_nextWay 33 = .ok (.iconst 5, 1) := by decide +kernel
theorem dX11_nextWay_34 : decode cX11_nextWay 34 = .ok (.if_icmp .ge 17, 3) := by decide +kernel
theorem dX11_nextWay_37 : decode cX11_nextWay 37 = .ok (.aload_n 0, 1) := by decide +kernel
theorem dX11_nextWay_38 : decode cX11_nextWay 38 = .ok (.iload_n 2, 1) := by decide +kernel
theorem dX11_nextWay_39 : decode cX11_nextWay 39 = .ok (.aload_n 0, 1) := by decide +kernel
theorem dX11_nextWay_40 : decode cX11_nextWay 40 = .ok (.getfield 135, 3) := by decide +kernel
theorem dX11_nextWay_43 : decode cX11_nextWay 43 = .ok (.iload_n 2, 1) := by decide +kernel
theorem dX11_nextWay_44 : decode cX11_nextWay 44 = .ok (.iaload, 1) := by decide +kernel
theorem dX11_nextWay_45 : decode cX11_nextWay 45 = .ok (.invokevirtual 476, 3) := by decide +kernel
theorem dX11_nextWay_48 : decode cX11_nextWay 48 = .ok (.ifCond .eq (-31), 3) := by decide +kernel
theorem dX11_nextWay_51 : decode cX11_nextWay 51 = .ok (.aload_n 0, 1) := by decide +kernel
theorem dX11_nextWay_52 : decode cX11_nextWay 52 = .ok (.getfield 135, 3) := by decide +kernel
theorem dX11_nextWay_55 : decode cX11_nextWay 55 = .ok (.iload_n 2, 1) := by decide +kernel
theorem dX11_nextWay_56 : decode cX11_nextWay 56 = .ok (.iaload, 1) := by decide +kernel
theorem dX11_nextWay_57 : decode cX11_nextWay 57 = .ok (.iconst 5, 1) := by decide +kernel
theorem dX11_nextWay_58 : decode cX11_nextWay 58 = .ok (.if_icmp .gt 5, 3) := by decide +kernel
theorem dX11_nextWay_61 : decode cX11_nextWay 61 = .ok (.iconst 1, 1) := by decide +kernel
theorem dX11_nextWay_62 : decode cX11_nextWay 62 = .ok (.ireturn, 1) := by decide +kernel
theorem dX11_nextWay_63 : decode cX11_nextWay 63 = .ok (.aload_n 0, 1) := by decide +kernel
theorem dX11_nextWay_64 : decode cX11_nextWay 64 = .ok (.getfield 135, 3) := by decide +kernel
theorem dX11_nextWay_67 : decode cX11_nextWay 67 = .ok (.iload_n 2, 1) := by decide +kernel
theorem dX11_nextWay_68 : decode cX11_nextWay 68 = .ok (.aload_n 0, 1) := by decide +kernel
theorem dX11_nextWay_69 : decode cX11_nextWay 69 = .ok (.iload_n 2, 1) := by decide +kernel
theorem dX11_nextWay_70 : decode cX11_nextWay 70 = .ok (.invokevirtual 479, 3) := by decide +kernel
theorem dX11_nextWay_73 : decode cX11_nextWay 73 = .ok (.iastore, 1) := by decide +kernel
theorem dX11_nextWay_74 : decode cX11_nextWay 74 = .ok (.iinc 2 (-1), 3) := by decide +kernel
theorem dX11_nextWay_77 : decode cX11_nextWay 77 = .ok (.goto (-75), 3) := by decide +kernel
theorem dX11_nextWay_80 : decode cX11_nextWay 80 = .ok (.iconst 0, 1) := by decide +kernel
theorem dX11_nextWay_81 : decode cX11_nextWay 81 = .ok (.ireturn, 1) := by decide +kernel
theorem dX11_firstOf_0 : decode cX11_firstOf 0 = .ok (.iconst 0, 1) := by decide +kernel
theorem dX11_firstOf_1 : decode cX11_firstOf 1 = .ok (.istore_n 2, 1) := by decide +kernel
theorem dX11_firstOf_2 : decode cX11_firstOf 2 = .ok (.aload_n 0, 1) := by decide +kernel
theorem dX11_firstOf_3 : decode cX11_firstOf 3 = .ok (.iload_n 1, 1) := by decide +kernel
theorem dX11_firstOf_4 : decode cX11_firstOf 4 = .ok (.iload_n 2, 1) := by decide +kernel
theorem dX11_firstOf_5 : decode cX11_firstOf 5 = .ok (.invokevirtual 476, 3) := by decide +kernel
theorem dX11_firstOf_8 : decode cX11_firstOf 8 = .ok (.ifCond .ne 9, 3) := by decide +kernel
theorem dX11_firstOf_11 : decode cX11_firstOf 11 = .ok (.iinc 2 1, 3) := by decide +kernel
theorem dX11_firstOf_14 : decode cX11_firstOf 14 = .ok (.goto (-12), 3) := by decide +kernel
theorem dX11_firstOf_17 : decode cX11_firstOf 17 = .ok (.iload_n 2, 1) := by decide +kernel
theorem dX11_firstOf_18 : decode cX11_firstOf 18 = .ok (.ireturn, 1) := by decide +kernel
theorem dX11_firstWay_0 : decode cX11_firstWay 0 = .ok (.iconst 0, 1) := by decide +kernel
theorem dX11_firstWay_1 : decode cX11_firstWay 1 = .ok (.istore_n 2, 1) := by decide +kernel
theorem dX11_firstWay_2 : decode cX11_firstWay 2 = .ok (.iload_n 2, 1) := by decide +kernel
theorem dX11_firstWay_3 : decode cX11_firstWay 3 = .ok (.iconst 4, 1) := by decide +kernel
theorem dX11_firstWay_4 : decode cX11_firstWay 4 = .ok (.if_icmp .ge 33, 3) := by decide +kernel
theorem dX11_firstWay_7 : decode cX11_firstWay 7 = .ok (.aload_n 0, 1) := by decide +kernel
theorem dX11_firstWay_8 : decode cX11_firstWay 8 = .ok (.getfield 135, 3) := by decide +kernel
theorem dX11_firstWay_11 : decode cX11_firstWay 11 = .ok (.iload_n 2, 1) := by decide +kernel
theorem dX11_firstWay_12 : decode cX11_firstWay 12 = .ok (.iload_n 1, 1) := by decide +kernel
theorem dX11_firstWay_13 : decode cX11_firstWay 13 = .ok (.iload_n 2, 1) := by decide +kernel
theorem dX11_firstWay_14 : decode cX11_firstWay 14 = .ok (.ishr, 1) := by decide +kernel
theorem dX11_firstWay_15 : decode cX11_firstWay 15 = .ok (.iconst 1, 1) := by decide +kernel
theorem dX11_firstWay_16 : decode cX11_firstWay 16 = .ok (.iand, 1) := by decide +kernel
theorem dX11_firstWay_17 : decode cX11_firstWay 17 = .ok (.iconst 1, 1) := by decide +kernel
theorem dX11_firstWay_18 : decode cX11_firstWay 18 = .ok (.if_icmp .ne 11, 3) := by decide +kernel
theorem dX11_firstWay_21 : decode cX11_firstWay 21 = .ok (.aload_n 0, 1) := by decide +kernel
theorem dX11_firstWay_22 : decode cX11_firstWay 22 = .ok (.iload_n 2, 1) := by decide +kernel
theorem dX11_firstWay_23 : decode cX11_firstWay 23 = .ok (.invokevirtual 479, 3) := by decide +kernel
theorem dX11_firstWay_26 : decode cX11_firstWay 26 = .ok (.goto 4, 3) := by decide +kernel
theorem dX11_firstWay_29 : decode cX11_firstWay 29 = .ok (.iconst 5, 1) := by decide +kernel
theorem dX11_firstWay_30 : decode cX11_firstWay 30 = .ok (.iastore, 1) := by decide +kernel
theorem dX11_firstWay_31 : decode cX11_firstWay 31 = .ok (.iinc 2 1, 3) := by decide +kernel
theorem dX11_firstWay_34 : decode cX11_firstWay 34 = .ok (.goto (-32), 3) := by decide +kernel
theorem dX11_firstWay_37 : decode cX11_firstWay 37 = .ok (.return_, 1) := by decide +kernel
theorem dX11_withoutFire_0 : decode cX11_withoutFire 0 = .ok (.iconst 0, 1) := by decide +kernel
theorem dX11_withoutFire_1 : decode cX11_withoutFire 1 = .ok (.istore_n 2, 1) := by decide +kernel
theorem dX11_withoutFire_2 : decode cX11_withoutFire 2 = .ok (.iconst 0, 1) := by decide +kernel
theorem dX11_withoutFire_3 : decode cX11_withoutFire 3 = .ok (.istore_n 3, 1) := by decide +kernel
theorem dX11_withoutFire_4 : decode cX11_withoutFire 4 = .ok (.iload_n 3, 1) := by decide +kernel
theorem dX11_withoutFire_5 : decode cX11_withoutFire 5 = .ok (.aload_n 0, 1) := by decide +kernel
theorem dX11_withoutFire_6 : decode cX11_withoutFire 6 = .ok (.getfield 13, 3) := by decide +kernel
theorem dX11_withoutFire_9 : decode cX11_withoutFire 9 = .ok (.iconst 2, 1) := by decide +kernel
theorem dX11_withoutFire_10 : decode cX11_withoutFire 10 = .ok (.iaload, 1) := by decide +kernel
theorem dX11_withoutFire_11 : decode cX11_withoutFire 11 = .ok (.if_icmp .ge 36, 3) := by decide +kernel
theorem dX11_withoutFire_14 : decode cX11_withoutFire 14 = .ok (.iload_n 2, 1) := by decide +kernel
theorem dX11_withoutFire_15 : decode cX11_withoutFire 15 = .ok (.iload_n 1, 1) := by decide +kernel
theorem dX11_withoutFire_16 : decode cX11_withoutFire 16 = .ok (.iload_n 3, 1) := by decide +kernel
theorem dX11_withoutFire_17 : decode cX11_withoutFire 17 = .ok (.ishr, 1) := by decide +kernel
theorem dX11_withoutFire_18 : decode cX11_withoutFire 18 = .ok (.iconst 1, 1) := by decide +kernel
theorem dX11_withoutFire_19 : decode cX11_withoutFire 19 = .ok (.iand, 1) := by decide +kernel
theorem dX11_withoutFire_20 : decode cX11_withoutFire 20 = .ok (.iconst 1, 1) := by decide +kernel
theorem dX11_withoutFire_21 : decode cX11_withoutFire 21 = .ok (.if_icmp .ne 17, 3) := by decide +kernel
theorem dX11_withoutFire_24 : decode cX11_withoutFire 24 = .ok (.aload_n 0, 1) := by decide +kernel
theorem dX11_withoutFire_25 : decode cX11_withoutFire 25 = .ok (.iload_n 3, 1) := by decide +kernel
theorem dX11_withoutFire_26 : decode cX11_withoutFire 26 = .ok (.invokevirtual 404, 3) := by decide +kernel
theorem dX11_withoutFire_29 : decode cX11_withoutFire 29 = .ok (.ifCond .ne 9, 3) := by decide +kernel
theorem dX11_withoutFire_32 : decode cX11_withoutFire 32 = .ok (.iconst 1, 1) := by decide +kernel
theorem dX11_withoutFire_33 : decode cX11_withoutFire 33 = .ok (.iload_n 3, 1) := by decide +kernel
theorem dX11_withoutFire_34 : decode cX11_withoutFire 34 = .ok (.ishl, 1) := by decide +kernel
theorem dX11_withoutFire_35 : decode cX11_withoutFire 35 = .ok (.goto 4, 3) := by decide +kernel
theorem dX11_withoutFire_38 : decode cX11_withoutFire 38 = .ok (.iconst 0, 1) := by decide +kernel
theorem dX11_withoutFire_39 : decode cX11_withoutFire 39 = .ok (.ior, 1) := by decide +kernel
theorem dX11_withoutFire_40 : decode cX11_withoutFire 40 = .ok (.istore_n 2, 1) := by decide +kernel
theorem dX11_withoutFire_41 : decode cX11_withoutFire 41 = .ok (.iinc 3 1, 3) := by decide +kernel
theorem dX11_withoutFire_44 : decode cX11_withoutFire 44 = .ok (.goto (-40), 3) := by decide +kernel
theorem dX11_withoutFire_47 : decode cX11_withoutFire 47 = .ok (.iload_n 2, 1) := by decide +kernel
theorem dX11_withoutFire_48 : decode cX11_withoutFire 48 = .ok (.ireturn, 1) := by decide +kernel
theorem dX11_burnt_0 : decode cX11_burnt 0 = .ok (.iconst 0, 1) := by decide +kernel
theorem dX11_burnt_1 : decode cX11_burnt 1 = .ok (.istore_n 1, 1) := by decide +kernel
theorem dX11_burnt_2 : decode cX11_burnt 2 = .ok (.iconst 0, 1) := by decide +kernel
theorem dX11_burnt_3 : decode cX11_burnt 3 = .ok (.istore_n 2, 1) := by decide +kernel
theorem dX11_burnt_4 : decode cX11_burnt 4 = .ok (.iload_n 2, 1) := by decide +kernel
theorem dX11_burnt_5 : decode cX11_burnt 5 = .ok (.iconst 4, 1) := by decide +kernel
theorem dX11_burnt_6 : decode cX11_burnt 6 = .ok (.if_icmp .ge 27, 3) := by decide +kernel
theorem dX11_burnt_9 : decode cX11_burnt 9 = .ok (.iload_n 1, 1) := by decide +kernel
theorem dX11_burnt_10 : decode cX11_burnt 10 = .ok (.aload_n 0, 1) := by decide +kernel
theorem dX11_burnt_11 : decode cX11_burnt 11 = .ok (.getfield 135, 3) := by decide +kernel
theorem dX11_burnt_14 : decode cX11_burnt 14 = .ok (.iload_n 2, 1) := by decide +kernel
theorem dX11_burnt_15 : decode cX11_burnt 15 = .ok (.iaload, 1) := by decide +kernel
theorem dX11_burnt_16 : decode cX11_burnt 16 = .ok (.iconst 5, 1) := by decide +kernel
theorem dX11_burnt_17 : decode cX11_burnt 17 = .ok (.if_icmp .ne 7, 3) := by decide +kernel
theorem dX11_burnt_20 : decode cX11_burnt 20 = .ok (.iconst 0, 1) := by decide +kernel
theorem dX11_burnt_21 : decode cX11_burnt 21 = .ok (.goto 4, 3) := by decide +kernel
theorem dX11_burnt_24 : decode cX11_burnt 24 = .ok (.iconst 1, 1) := by decide +kernel
theorem dX11_burnt_25 : decode cX11_burnt 25 = .ok (.iadd, 1) := by decide +kernel
theorem dX11_burnt_26 : decode cX11_burnt 26 = .ok (.istore_n 1, 1) := by decide +kernel
theorem dX11_burnt_27 : decode cX11_burnt 27 = .ok (.iinc 2 1, 3) := by decide +kernel
theorem dX11_burnt_30 : decode cX11_burnt 30 = .ok (.goto (-26), 3) := by decide +kernel
theorem dX11_burnt_33 : decode cX11_burnt 33 = .ok (.iload_n 1, 1) := by decide +kernel
theorem dX11_burnt_34 : decode cX11_burnt 34 = .ok (.ireturn, 1) := by decide +kernel
theorem dX11_laysWay_0 : decode cX11_laysWay 0 = .ok (.iconst 0, 1) := by decide +kernel
theorem dX11_laysWay_1 : decode cX11_laysWay 1 = .ok (.istore_n 1, 1) := by decide +kernel
theorem dX11_laysWay_2 : decode cX11_laysWay 2 = .ok (.iload_n 1, 1) := by decide +kernel
theorem dX11_laysWay_3 : decode cX11_laysWay 3 = .ok (.iconst 4, 1) := by decide +kernel
theorem dX11_laysWay_4 : decode cX11_laysWay 4 = .ok (.if_icmp .ge 30, 3) := by decide +kernel
theorem dX11_laysWay_7 : decode cX11_laysWay 7 = .ok (.aload_n 0, 1) := by decide +kernel
theorem dX11_laysWay_8 : decode cX11_laysWay 8 = .ok (.getfield 135, 3) := by decide +kernel
theorem dX11_laysWay_11 : decode cX11_laysWay 11 = .ok (.iload_n 1, 1) := by decide +kernel
theorem dX11_laysWay_12 : decode cX11_laysWay 12 = .ok (.iaload, 1) := by decide +kernel
theorem dX11_laysWay_13 : decode cX11_laysWay 13 = .ok (.iconst 5, 1) := by decide +kernel
theorem dX11_laysWay_14 : decode cX11_laysWay 14 = .ok (.if_icmp .ge 14, 3) := by decide +kernel
theorem dX11_laysWay_17 : decode cX11_laysWay 17 = .ok (.aload_n 0, 1) := by decide +kernel
theorem dX11_laysWay_18 : decode cX11_laysWay 18 = .ok (.iload_n 1, 1) := by decide +kernel
theorem dX11_laysWay_19 : decode cX11_laysWay 19 = .ok (.aload_n 0, 1) := by decide +kernel
theorem dX11_laysWay_20 : decode cX11_laysWay 20 = .ok (.getfield 135, 3) := by decide +kernel
theorem dX11_laysWay_23 : decode cX11_laysWay 23 = .ok (.iload_n 1, 1) := by decide +kernel
theorem dX11_laysWay_24 : decode cX11_laysWay 24 = .ok (.iaload, 1) := by decide +kernel
theorem dX11_laysWay_25 : decode cX11_laysWay 25 = .ok (.invokevirtual 454, 3) := by decide +kernel
theorem dX11_laysWay_28 : decode cX11_laysWay 28 = .ok (.iinc 1 1, 3) := by decide +kernel
theorem dX11_laysWay_31 : decode cX11_laysWay 31 = .ok (.goto (-29), 3) := by decide +kernel
theorem dX11_laysWay_34 : decode cX11_laysWay 34 = .ok (.return_, 1) := by decide +kernel
theorem dX11_fewest_0 : decode cX11_fewest 0 = .ok (.aload_n 0, 1) := by decide +kernel
theorem dX11_fewest_1 : decode cX11_fewest 1 = .ok (.aload_n 0, 1) := by decide +kernel
theorem dX11_fewest_2 : decode cX11_fewest 2 = .ok (.iload_n 1, 1) := by decide +kernel
theorem dX11_fewest_3 : decode cX11_fewest 3 = .ok (.invokevirtual 438, 3) := by decide +kernel
theorem dX11_fewest_6 : decode cX11_fewest 6 = .ok (.invokevirtual 482, 3) := by decide +kernel
theorem dX11_fewest_9 : decode cX11_fewest 9 = .ok (.istore_n 3, 1) := by decide +kernel
theorem dX11_fewest_10 : decode cX11_fewest 10 = .ok (.iconst (-1), 1) := by decide +kernel
theorem dX11_fewest_11 : decode cX11_fewest 11 = .ok (.istore 4, 2) := by decide +kernel
theorem dX11_fewest_13 : decode cX11_fewest 13 = .ok (.aload_n 0, 1) := by decide +kernel
theorem dX11_fewest_14 : decode cX11_fewest 14 = .ok (.iload_n 3, 1) := by decide +kernel
theorem dX11_fewest_15 : decode cX11_fewest 15 = .ok (.invokevirtual 485, 3) := by decide +kernel
theorem dX11_fewest_18 : decode cX11_fewest 18 = .ok (.iconst 1, 1) := by decide +kernel
theorem dX11_fewest_19 : decode cX11_fewest 19 = .ok (.istore 5, 2) := by decide +kernel
theorem dX11_fewest_21 : decode cX11_fewest 21 = .ok (.iload 5, 2) := by decide +kernel
theorem dX11_fewest_23 : decode cX11_fewest 23 = .ok (.ifCond .eq 44, 3) := by decide +kernel
theorem dX11_fewest_26 : decode cX11_fewest 26 = .ok (.aload_n 0, 1) := by decide +kernel
theorem dX11_fewest_27 : decode cX11_fewest 27 = .ok (.invokevirtual 488, 3) := by decide +kernel
theorem dX11_fewest_30 : decode cX11_fewest 30 = .ok (.istore 6, 2) := by decide +kernel
theorem dX11_fewest_32 : decode cX11_fewest 32 = .ok (.iload 4, 2) := by decide +kernel
theorem dX11_fewest_34 : decode cX11_fewest 34 = .ok (.ifCond .lt 10, 3) := by decide +kernel
theorem dX11_fewest_37 : decode cX11_fewest 37 = .ok (.iload 6, 2) := by decide +kernel
theorem dX11_fewest_39 : decode cX11_fewest 39 = .ok (.iload 4, 2) := by decide +kernel
theorem dX11_fewest_41 : decode cX11_fewest 41 = .ok (.if_icmp .ge 16, 3) := by decide +kernel
theorem dX11_fewest_44 : decode cX11_fewest 44 = .ok (.aload_n 0, 1) := by decide +kernel
theorem dX11_fewest_45 : decode cX11_fewest 45 = .ok (.iload_n 1, 1) := by decide +kernel
theorem dX11_fewest_46 : decode cX11_fewest 46 = .ok (.invokevirtual 491, 3) := by decide +kernel
theorem dX11_fewest_49 : decode cX11_fewest 49 = .ok (.iload_n 2, 1) := by decide +kernel
theorem dX11_fewest_50 : decode cX11_fewest 50 = .ok (.if_icmp .ne 7, 3) := by decide +kernel
theorem dX11_fewest_53 : decode cX11_fewest 53 = .ok (.iload 6, 2) := by decide +kernel
theorem dX11_fewest_55 : decode cX11_fewest 55 = .ok (.istore 4, 2) := by decide +kernel
theorem dX11_fewest_57 : decode cX11_fewest 57 = .ok (.aload_n 0, 1) := by decide +kernel
theorem dX11_fewest_58 : decode cX11_fewest 58 = .ok (.iload_n 3, 1) := by decide +kernel
theorem dX11_fewest_59 : decode cX11_fewest 59 = .ok (.invokevirtual 494, 3) := by decide +kernel
theorem dX11_fewest_62 : decode cX11_fewest 62 = .ok (.istore 5, 2) := by decide +kernel
theorem dX11_fewest_64 : decode cX11_fewest 64 = .ok (.goto (-43), 3) := by decide +kernel
theorem dX11_fewest_67 : decode cX11_fewest 67 = .ok (.iload 4, 2) := by decide +kernel
theorem dX11_fewest_69 : decode cX11_fewest 69 = .ok (.ireturn, 1) := by decide +kernel
theorem dX11_spell_0 : decode cX11_spell 0 = .ok (.aload_n 0, 1) := by decide +kernel
theorem dX11_spell_1 : decode cX11_spell 1 = .ok (.iconst 0, 1) := by decide +kernel
theorem dX11_spell_2 : decode cX11_spell 2 = .ok (.putfield 156, 3) := by decide +kernel
theorem dX11_spell_5 : decode cX11_spell 5 = .ok (.aload_n 0, 1) := by decide +kernel
theorem dX11_spell_6 : decode cX11_spell 6 = .ok (.iload_n 1, 1) := by decide +kernel
theorem dX11_spell_7 : decode cX11_spell 7 = .ok (.invokevirtual 435, 3) := by decide +kernel
theorem dX11_spell_10 : decode cX11_spell 10 = .ok (.ifCond .eq 51, 3) := by decide +kernel
theorem dX11_spell_13 : decode cX11_spell 13 = .ok (.iload_n 2, 1) := by decide +kernel
theorem dX11_spell_14 : decode cX11_spell 14 = .ok (.iconst (-1), 1) := by decide +kernel
theorem dX11_spell_15 : decode cX11_spell 15 = .ok (.aload_n 0, 1) := by decide +kernel
theorem dX11_spell_16 : decode cX11_spell 16 = .ok (.getfield 13, 3) := by decide +kernel
theorem dX11_spell_19 : decode cX11_spell 19 = .ok (.iconst 3, 1) := by decide +kernel
theorem dX11_spell_20 : decode cX11_spell 20 = .ok (.iaload, 1) := by decide +kernel
theorem dX11_spell_21 : decode cX11_spell 21 = .ok (.iconst 1, 1) := by decide +kernel
theorem dX11_spell_22 : decode cX11_spell 22 = .ok (.isub, 1) := by decide +kernel
theorem dX11_spell_23 : decode cX11_spell 23 = .ok (.invokestatic 289, 3) := by decide +kernel
theorem dX11_spell_26 : decode cX11_spell 26 = .ok (.ifCond .eq 35, 3) := by decide +kernel
theorem dX11_spell_29 : decode cX11_spell 29 = .ok (.iload_n 3, 1) := by decide +kernel
theorem dX11_spell_30 : decode cX11_spell 30 = .ok (.bipush (-2), 2) := by decide +kernel
theorem dX11_spell_32 : decode cX11_spell 32 = .ok (.aload_n 0, 1) := by decide +kernel
theorem dX11_spell_33 : decode cX11_spell 33 = .ok (.getfield 13, 3) := by decide +kernel
theorem dX11_spell_36 : decode cX11_spell 36 = .ok (.iconst 3, 1) := by decide +kernel
theorem dX11_spell_37 : decode cX11_spell 37 = .ok (.iaload, 1) := by decide +kernel
theorem dX11_spell_38 : decode cX11_spell 38 = .ok (.iconst 1, 1) := by decide +kernel
theorem dX11_spell_39 : decode cX11_spell 39 = .ok (.isub, 1) := by decide +kernel
theorem dX11_spell_40 : decode cX11_spell 40 = .ok (.invokestatic 289, 3) := by decide +kernel
theorem dX11_spell_43 : decode cX11_spell 43 = .ok (.ifCond .eq 18, 3) := by decide +kernel
theorem dX11_spell_46 : decode cX11_spell 46 = .ok (.iload 4, 2) := by decide +kernel
theorem dX11_spell_48 : decode cX11_spell 48 = .ok (.iconst (-1), 1) := by decide +kernel
theorem dX11_spell_49 : decode cX11_spell 49 = .ok (.if_icmp .eq 15, 3) := by decide +kernel
theorem dX11_spell_52 : decode cX11_spell 52 = .ok (.aload_n 0, 1) := by decide +kernel
theorem dX11_spell_53 : decode cX11_spell 53 = .ok (.iload 4, 2) := by decide +kernel
theorem dX11_spell_55 : decode cX11_spell 55 = .ok (.invokevirtual 432, 3) := by decide +kernel
theorem dX11_spell_58 : decode cX11_spell 58 = .ok (.ifCond .ne 6, 3) := by decide +kernel
theorem dX11_spell_61 : decode cX11_spell 61 = .ok (.bipush (-2), 2) := by decide +kernel
theorem dX11_spell_63 : decode cX11_spell 63 = .ok (.ireturn, 1) := by decide +kernel
theorem dX11_spell_64 : decode cX11_spell 64 = .ok (.aload_n 0, 1) := by decide +kernel
theorem dX11_spell_65 : decode cX11_spell 65 = .ok (.aload_n 0, 1) := by decide +kernel
theorem dX11_spell_66 : decode cX11_spell 66 = .ok (.iload_n 1, 1) := by decide +kernel
theorem dX11_spell_67 : decode cX11_spell 67 = .ok (.invokevirtual 438, 3) := by decide +kernel
theorem dX11_spell_70 : decode cX11_spell 70 = .ok (.invokevirtual 482, 3) := by decide +kernel
theorem dX11_spell_73 : decode cX11_spell 73 = .ok (.istore 5, 2) := by decide +kernel
theorem dX11_spell_75 : decode cX11_spell 75 = .ok (.iconst (-1), 1) := by decide +kernel
theorem dX11_spell_76 : decode cX11_spell 76 = .ok (.istore 6, 2) := by decide +kernel
theorem dX11_spell_78 : decode cX11_spell 78 = .ok (.aload_n 0, 1) := by decide +kernel
theorem dX11_spell_79 : decode cX11_spell 79 = .ok (.getfield 120, 3) := by decide +kernel
theorem dX11_spell_82 : decode cX11_spell 82 = .ok (.iconst 0, 1) := by decide +kernel
theorem dX11_spell_83 : decode cX11_spell 83 = .ok (.aload_n 0, 1) := by decide +kernel
theorem dX11_spell_84 : decode cX11_spell 84 = .ok (.getfield 144, 3) := by decide +kernel
theorem dX11_spell_87 : decode cX11_spell 87 = .ok (.iconst 0, 1) := by decide +kernel
theorem dX11_spell_88 : decode cX11_spell 88 = .ok (.invokestatic 441, 3) := by decide +kernel
theorem dX11_spell_91 : decode cX11_spell 91 = .ok (.aload_n 0, 1) := by decide +kernel
theorem dX11_spell_92 : decode cX11_spell 92 = .ok (.iload 5, 2) := by decide +kernel
theorem dX11_spell_94 : decode cX11_spell 94 = .ok (.invokevirtual 485, 3) := by decide +kernel
theorem dX11_spell_97 : decode cX11_spell 97 = .ok (.iconst 1, 1) := by decide +kernel
theorem dX11_spell_98 : decode cX11_spell 98 = .ok (.istore 7, 2) := by decide +kernel
theorem dX11_spell_100 : decode cX11_spell 100 = .ok (.iload 7, 2) := by decide +kernel
theorem dX11_spell_102 : decode cX11_spell 102 = .ok (.ifCond .eq 194, 3) := by decide +kernel
theorem dX11_spell_105 : decode cX11_spell 105 = .ok (.aload_n 0, 1) := by decide +kernel
theorem dX11_spell_106 : decode cX11_spell 106 = .ok (.invokevirtual 488, 3) := by decide +kernel
theorem dX11_spell_109 : decode cX11_spell 109 = .ok (.istore 8, 2) := by decide +kernel
theorem dX11_spell_111 : decode cX11_spell 111 = .ok (.iload 6, 2) := by decide +kernel
theorem dX11_spell_113 : decode cX11_spell 113 = .ok (.ifCond .lt 10, 3) := by decide +kernel
theorem dX11_spell_116 : decode cX11_spell 116 = .ok (.iload 8, 2) := by decide +kernel
theorem dX11_spell_118 : decode cX11_spell 118 = .ok (.iload 6, 2) := by decide +kernel
theorem dX11_spell_120 : decode cX11_spell 120 = .ok (.if_icmp .ge 165, 3) := by decide +kernel
theorem dX11_spell_123 : decode cX11_spell 123 = .ok (.aload_n 0, 1) := by decide +kernel
theorem dX11_spell_124 : decode cX11_spell 124 = .ok (.iload_n 1, 1) := by decide +kernel
theorem dX11_spell_125 : decode cX11_spell 125 = .ok (.invokevirtual 491, 3) := by decide +kernel
theorem dX11_spell_128 : decode cX11_spell 128 = .ok (.iload_n 2, 1) := by decide +kernel
theorem dX11_spell_129 : decode cX11_spell 129 = .ok (.if_icmp .ne 156, 3) := by decide +kernel
theorem dX11_spell_132 : decode cX11_spell 132 = .ok (.iconst 0, 1) := by decide +kernel
theorem dX11_spell_133 : decode cX11_spell 133 = .ok (.istore 9, 2) := by decide +kernel
theorem dX11_spell_135 : decode cX11_spell 135 = .ok (.iload 9, 2) := by decide +kernel
theorem dX11_spell_137 : decode cX11_spell 137 = .ok (.iconst 4, 1) := by decide +kernel
theorem dX11_spell_138 : decode cX11_spell 138 = .ok (.if_icmp .ge 23, 3) := by decide +kernel
theorem dX11_spell_141 : decode cX11_spell 141 = .ok (.aload_n 0, 1) := by decide +kernel
theorem dX11_spell_142 : decode cX11_spell 142 = .ok (.getfield 138, 3) := by decide +kernel
theorem dX11_spell_145 : decode cX11_spell 145 = .ok (.iload 9, 2) := by decide +kernel
theorem dX11_spell_147 : decode cX11_spell 147 = .ok (.aload_n 0, 1) := by decide +kernel
theorem dX11_spell_148 : decode cX11_spell 148 = .ok (.getfield 135, 3) := by decide +kernel
theorem dX11_spell_151 : decode cX11_spell 151 = .ok (.iload 9, 2) := by decide +kernel
theorem dX11_spell_153 : decode cX11_spell 153 = .ok (.iaload, 1) := by decide +kernel
theorem dX11_spell_154 : decode cX11_spell 154 = .ok (.iastore, 1) := by decide +kernel
theorem dX11_spell_155 : decode cX11_spell 155 = .ok (.iinc 9 1, 3) := by decide +kernel
theorem dX11_spell_158 : decode cX11_spell 158 = .ok (.goto (-23), 3) := by decide +kernel
theorem dX11_spell_161 : decode cX11_spell 161 = .ok (.iconst 0, 1) := by decide +kernel
theorem dX11_spell_162 : decode cX11_spell 162 = .ok (.istore 9, 2) := by decide +kernel
theorem dX11_spell_164 : decode cX11_spell 164 = .ok (.iload_n 3, 1) := by decide +kernel
theorem dX11_spell_165 : decode cX11_spell 165 = .ok (.bipush (-2), 2) := by decide +kernel
theorem dX11_spell_167 : decode cX11_spell 167 = .ok (.if_icmp .eq 62, 3) := by decide +kernel
theorem dX11_spell_170 : decode cX11_spell 170 = .ok (.aload_n 0, 1) := by decide +kernel
theorem dX11_spell_171 : decode cX11_spell 171 = .ok (.invokevirtual 497, 3) := by decide +kernel
theorem dX11_spell_174 : decode cX11_spell 174 = .ok (.aload_n 0, 1) := by decide +kernel
theorem dX11_spell_175 : decode cX11_spell 175 = .ok (.invokevirtual 461, 3) := by decide +kernel
theorem dX11_spell_178 : decode cX11_spell 178 = .ok (.pop, 1) := by decide +kernel
theorem dX11_spell_179 : decode cX11_spell 179 = .ok (.aload_n 0, 1) := by decide +kernel
theorem dX11_spell_180 : decode cX11_spell 180 = .ok (.iload_n 1, 1) := by decide +kernel
theorem dX11_spell_181 : decode cX11_spell 181 = .ok (.iload_n 3, 1) := by decide +kernel
theorem dX11_spell_182 : decode cX11_spell 182 = .ok (.invokevirtual 500, 3) := by decide +kernel
theorem dX11_spell_185 : decode cX11_spell 185 = .ok (.istore 9, 2) := by decide +kernel
theorem dX11_spell_187 : decode cX11_spell 187 = .ok (.aload_n 0, 1) := by decide +kernel
theorem dX11_spell_188 : decode cX11_spell 188 = .ok (.getfield 144, 3) := by decide +kernel
theorem dX11_spell_191 : decode cX11_spell 191 = .ok (.iconst 0, 1) := by decide +kernel
theorem dX11_spell_192 : decode cX11_spell 192 = .ok (.aload_n 0, 1) := by decide +kernel
theorem dX11_spell_193 : decode cX11_spell 193 = .ok (.getfield 120, 3) := by decide +kernel
theorem dX11_spell_196 : decode cX11_spell 196 = .ok (.iconst 0, 1) := by decide +kernel
theorem dX11_spell_197 : decode cX11_spell 197 = .ok (.invokestatic 441, 3) := by decide +kernel
theorem dX11_spell_200 : decode cX11_spell 200 = .ok (.iconst 0, 1) := by decide +kernel
theorem dX11_spell_201 : decode cX11_spell 201 = .ok (.istore 10, 2) := by decide +kernel
theorem dX11_spell_203 : decode cX11_spell 203 = .ok (.iload 10, 2) := by decide +kernel
theorem dX11_spell_205 : decode cX11_spell 205 = .ok (.iconst 4, 1) := by decide +kernel
theorem dX11_spell_206 : decode cX11_spell 206 = .ok (.if_icmp .ge 23, 3) := by decide +kernel
theorem dX11_spell_209 : decode cX11_spell 209 = .ok (.aload_n 0, 1) := by decide +kernel
theorem dX11_spell_210 : decode cX11_spell 210 = .ok (.getfield 135, 3) := by decide +kernel
theorem dX11_spell_213 : decode cX11_spell 213 = .ok (.iload 10, 2) := by decide +kernel
theorem dX11_spell_215 : decode cX11_spell 215 = .ok (.aload_n 0, 1) := by decide +kernel
theorem dX11_spell_216 : decode cX11_spell 216 = .ok (.getfield 138, 3) := by decide +kernel
theorem dX11_spell_219 : decode cX11_spell 219 = .ok (.iload 10, 2) := by decide +kernel
theorem dX11_spell_221 : decode cX11_spell 221 = .ok (.iaload, 1) := by decide +kernel
theorem dX11_spell_222 : decode cX11_spell 222 = .ok (.iastore, 1) := by decide +kernel
theorem dX11_spell_223 : decode cX11_spell 223 = .ok (.iinc 10 1, 3) := by decide +kernel
theorem dX11_spell_226 : decode cX11_spell 226 = .ok (.goto (-23), 3) := by decide +kernel
theorem dX11_spell_229 : decode cX11_spell 229 = .ok (.iload 9, 2) := by decide +kernel
theorem dX11_spell_231 : decode cX11_spell 231 = .ok (.ifCond .lt 54, 3) := by decide +kernel
theorem dX11_spell_234 : decode cX11_spell 234 = .ok (.iload 6, 2) := by decide +kernel
theorem dX11_spell_236 : decode cX11_spell 236 = .ok (.ifCond .lt 13, 3) := by decide +kernel
theorem dX11_spell_239 : decode cX11_spell 239 = .ok (.iload 8, 2) := by decide +kernel
theorem dX11_spell_241 : decode cX11_spell 241 = .ok (.iload 9, 2) := by decide +kernel
theorem dX11_spell_243 : decode cX11_spell 243 = .ok (.iadd, 1) := by decide +kernel
theorem dX11_spell_244 : decode cX11_spell 244 = .ok (.iload 6, 2) := by decide +kernel
theorem dX11_spell_246 : decode cX11_spell 246 = .ok (.if_icmp .ge 39, 3) := by decide +kernel
theorem dX11_spell_249 : decode cX11_spell 249 = .ok (.iload 8, 2) := by decide +kernel
theorem dX11_spell_251 : decode cX11_spell 251 = .ok (.iload 9, 2) := by decide +kernel
theorem dX11_spell_253 : decode cX11_spell 253 = .ok (.iadd, 1) := by decide +kernel
theorem dX11_spell_254 : decode cX11_spell 254 = .ok (.istore 6, 2) := by decide +kernel
theorem dX11_spell_256 : decode cX11_spell 256 = .ok (.iconst 0, 1) := by decide +kernel
theorem dX11_spell_257 : decode cX11_spell 257 = .ok (.istore 10, 2) := by decide +kernel
theorem dX11_spell_259 : decode cX11_spell 259 = .ok (.iload 10, 2) := by decide +kernel
theorem dX11_spell_261 : decode cX11_spell 261 = .ok (.iconst 4, 1) := by decide +kernel
theorem dX11_spell_262 : decode cX11_spell 262 = .ok (.if_icmp .ge 23, 3) := by decide +kernel
theorem dX11_spell_265 : decode cX11_spell 265 = .ok (.aload_n 0, 1) := by decide +kernel
theorem dX11_spell_266 : decode cX11_spell 266 = .ok (.getfield 141, 3) := by decide +kernel
theorem dX11_spell_269 : decode cX11_spell 269 = .ok (.iload 10, 2) := by decide +kernel
theorem dX11_spell_271 : decode cX11_spell 271 = .ok (.aload_n 0, 1) := by decide +kernel
theorem dX11_spell_272 : decode cX11_spell 272 = .ok (.getfield 135, 3) := by decide +kernel
theorem dX11_spell_275 : decode cX11_spell 275 = .ok (.iload 10, 2) := by decide +kernel
theorem dX11_spell_277 : decode cX11_spell 277 = .ok (.iaload, 1) := by decide +kernel
theorem dX11_spell_278 : decode cX11_spell 278 = .ok (.iastore, 1) := by decide +kernel
theorem dX11_spell_279 : decode cX11_spell 279 = .ok (.iinc 10 1, 3) := by decide +kernel
theorem dX11_spell_282 : decode cX11_spell 282 = .ok (.goto (-23), 3) := by decide +kernel
theorem dX11_spell_285 : decode cX11_spell 285 = .ok (.aload_n 0, 1) := by decide +kernel
theorem dX11_spell_286 : decode cX11_spell 286 = .ok (.iload 5, 2) := by decide +kernel
theorem dX11_spell_288 : decode cX11_spell 288 = .ok (.invokevirtual 494, 3) := by decide +kernel
theorem dX11_spell_291 : decode cX11_spell 291 = .ok (.istore 7, 2) := by decide +kernel
theorem dX11_spell_293 : decode cX11_spell 293 = .ok (.goto (-193), 3) := by decide +kernel
theorem dX11_spell_296 : decode cX11_spell 296 = .ok (.iload 6, 2) := by decide +kernel
theorem dX11_spell_298 : decode cX11_spell 298 = .ok (.ifCond .ge 6, 3) := by decide +kernel
theorem dX11_spell_301 : decode cX11_spell 301 = .ok (.bipush (-2), 2) := by decide +kernel
theorem dX11_spell_303 : decode cX11_spell 303 = .ok (.ireturn, 1) := by decide +kernel
theorem dX11_spell_304 : decode cX11_spell 304 = .ok (.iload 4, 2) := by decide +kernel
theorem dX11_spell_306 : decode cX11_spell 306 = .ok (.iconst (-1), 1) := by decide +kernel
theorem dX11_spell_307 : decode cX11_spell 307 = .ok (.if_icmp .ne 8, 3) := by decide +kernel
theorem dX11_spell_310 : decode cX11_spell 310 = .ok (.iload 6, 2) := by decide +kernel
theorem dX11_spell_312 : decode cX11_spell 312 = .ok (.goto 25, 3) := by decide +kernel
theorem dX11_spell_315 : decode cX11_spell 315 = .ok (.aload_n 0, 1) := by decide +kernel
theorem dX11_spell_316 : decode cX11_spell 316 = .ok (.getfield 141, 3) := by decide +kernel
theorem dX11_spell_319 : decode cX11_spell 319 = .ok (.iload 4, 2) := by decide +kernel
theorem dX11_spell_321 : decode cX11_spell 321 = .ok (.iaload, 1) := by decide +kernel
theorem dX11_spell_322 : decode cX11_spell 322 = .ok (.iconst 5, 1) := by decide +kernel
theorem dX11_spell_323 : decode cX11_spell 323 = .ok (.if_icmp .ne 7, 3) := by decide +kernel
theorem dX11_spell_326 : decode cX11_spell 326 = .ok (.iconst (-1), 1) := by decide +kernel
theorem dX11_spell_327 : decode cX11_spell 327 = .ok (.goto 10, 3) := by decide +kernel
theorem dX11_spell_330 : decode cX11_spell 330 = .ok (.aload_n 0, 1) := by decide +kernel
theorem dX11_spell_331 : decode cX11_spell 331 = .ok (.getfield 141, 3) := by decide +kernel
theorem dX11_spell_334 : decode cX11_spell 334 = .ok (.iload 4, 2) := by decide +kernel
theorem dX11_spell_336 : decode cX11_spell 336 = .ok (.iaload, 1) := by decide +kernel
theorem dX11_spell_337 : decode cX11_spell 337 = .ok (.ireturn, 1) := by decide +kernel
theorem dX11_hopes_0 : decode cX11_hopes 0 = .ok (.aload_n 0, 1) := by decide +kernel
theorem dX11_hopes_1 : decode cX11_hopes 1 = .ok (.aload_n 0, 1) := by decide +kernel
theorem dX11_hopes_2 : decode cX11_hopes 2 = .ok (.aload_n 0, 1) := by decide +kernel
theorem dX11_hopes_3 : decode cX11_hopes 3 = .ok (.getfield 29, 3) := by decide +kernel
theorem dX11_hopes_6 : decode cX11_hopes 6 = .ok (.iload_n 1, 1) := by decide +kernel
theorem dX11_hopes_7 : decode cX11_hopes 7 = .ok (.iaload, 1) := by decide +kernel
theorem dX11_hopes_8 : decode cX11_hopes 8 = .ok (.invokevirtual 438, 3) := by decide +kernel
theorem dX11_hopes_11 : decode cX11_hopes 11 = .ok (.invokevirtual 482, 3) := by decide +kernel
theorem dX11_hopes_14 : decode cX11_hopes 14 = .ok (.iconst 1, 1) := by decide +kernel
theorem dX11_hopes_15 : decode cX11_hopes 15 = .ok (.iload_n 1, 1) := by decide +kernel
theorem dX11_hopes_16 : decode cX11_hopes 16 = .ok (.ishl, 1) := by decide +kernel
theorem dX11_hopes_17 : decode cX11_hopes 17 = .ok (.iconst (-1), 1) := by decide +kernel
theorem dX11_hopes_18 : decode cX11_hopes 18 = .ok (.ixor, 1) := by decide +kernel
theorem dX11_hopes_19 : decode cX11_hopes 19 = .ok (.iand, 1) := by decide +kernel
theorem dX11_hopes_20 : decode cX11_hopes 20 = .ok (.istore 4, 2) := by decide +kernel
theorem dX11_hopes_22 : decode cX11_hopes 22 = .ok (.aload_n 0, 1) := by decide +kernel
theorem dX11_hopes_23 : decode cX11_hopes 23 = .ok (.iconst 0, 1) := by decide +kernel
theorem dX11_hopes_24 : decode cX11_hopes 24 = .ok (.putfield 503, 3) := by decide +kernel
theorem dX11_hopes_27 : decode cX11_hopes 27 = .ok (.aload_n 0, 1) := by decide +kernel
theorem dX11_hopes_28 : decode cX11_hopes 28 = .ok (.iconst 0, 1) := by decide +kernel
theorem dX11_hopes_29 : decode cX11_hopes 29 = .ok (.putfield 506, 3) := by decide +kernel
theorem dX11_hopes_32 : decode cX11_hopes 32 = .ok (.aload_n 0, 1) := by decide +kernel
theorem dX11_hopes_33 : decode cX11_hopes 33 = .ok (.iload 4, 2) := by decide +kernel
theorem dX11_hopes_35 : decode cX11_hopes 35 = .ok (.invokevirtual 485, 3) := by decide +kernel
theorem dX11_hopes_38 : decode cX11_hopes 38 = .ok (.aload_n 0, 1) := by decide +kernel
theorem dX11_hopes_39 : decode cX11_hopes 39 = .ok (.getfield 135, 3) := by decide +kernel
theorem dX11_hopes_42 : decode cX11_hopes 42 = .ok (.iload_n 1, 1) := by decide +kernel
theorem dX11_hopes_43 : decode cX11_hopes 43 = .ok (.iload_n 2, 1) := by decide +kernel
theorem dX11_hopes_44 : decode cX11_hopes 44 = .ok (.iastore, 1) := by decide +kernel
theorem dX11_hopes_45 : decode cX11_hopes 45 = .ok (.iconst 1, 1) := by decide +kernel
theorem dX11_hopes_46 : decode cX11_hopes 46 = .ok (.istore 5, 2) := by decide +kernel
theorem dX11_hopes_48 : decode cX11_hopes 48 = .ok (.iload 5, 2) := by decide +kernel
theorem dX11_hopes_50 : decode cX11_hopes 50 = .ok (.ifCond .eq 52, 3) := by decide +kernel
theorem dX11_hopes_53 : decode cX11_hopes 53 = .ok (.aload_n 0, 1) := by decide +kernel
theorem dX11_hopes_54 : decode cX11_hopes 54 = .ok (.dup, 1) := by decide +kernel
theorem dX11_hopes_55 : decode cX11_hopes 55 = .ok (.getfield 506, 3) := by decide +kernel
theorem dX11_hopes_58 : decode cX11_hopes 58 = .ok (.iconst 1, 1) := by decide +kernel
theorem dX11_hopes_59 : decode cX11_hopes 59 = .ok (.iadd, 1) := by decide +kernel
theorem dX11_hopes_60 : decode cX11_hopes 60 = .ok (.putfield 506, 3) := by decide +kernel
theorem dX11_hopes_63 : decode cX11_hopes 63 = .ok (.aload_n 0, 1) := by decide +kernel
theorem dX11_hopes_64 : decode cX11_hopes 64 = .ok (.dup, 1) := by decide +kernel
theorem dX11_hopes_65 : decode cX11_hopes 65 = .ok (.getfield 503, 3) := by decide +kernel
theorem dX11_hopes_68 : decode cX11_hopes 68 = .ok (.aload_n 0, 1) := by decide +kernel
theorem dX11_hopes_69 : decode cX11_hopes 69 = .ok (.aload_n 0, 1) := by decide +kernel
theorem dX11_hopes_70 : decode cX11_hopes 70 = .ok (.getfield 29, 3) := by decide +kernel
theorem dX11_hopes_73 : decode cX11_hopes 73 = .ok (.iload_n 1, 1) := by decide +kernel
theorem dX11_hopes_74 : decode cX11_hopes 74 = .ok (.iaload, 1) := by decide +kernel
theorem dX11_hopes_75 : decode cX11_hopes 75 = .ok (.invokevirtual 491, 3) := by decide +kernel
theorem dX11_hopes_78 : decode cX11_hopes 78 = .ok (.iload_n 3, 1) := by decide +kernel
theorem dX11_hopes_79 : decode cX11_hopes 79 = .ok (.if_icmp .ne 7, 3) := by decide +kernel
theorem dX11_hopes_82 : decode cX11_hopes 82 = .ok (.iconst 1, 1) := by decide +kernel
theorem dX11_hopes_83 : decode cX11_hopes 83 = .ok (.goto 4, 3) := by decide +kernel
theorem dX11_hopes_86 : decode cX11_hopes 86 = .ok (.iconst 0, 1) := by decide +kernel
theorem dX11_hopes_87 : decode cX11_hopes 87 = .ok (.iadd, 1) := by decide +kernel
theorem dX11_hopes_88 : decode cX11_hopes 88 = .ok (.putfield 503, 3) := by decide +kernel
theorem dX11_hopes_91 : decode cX11_hopes 91 = .ok (.aload_n 0, 1) := by decide +kernel
theorem dX11_hopes_92 : decode cX11_hopes 92 = .ok (.iload 4, 2) := by decide +kernel
theorem dX11_hopes_94 : decode cX11_hopes 94 = .ok (.invokevirtual 494, 3) := by decide +kernel
theorem dX11_hopes_97 : decode cX11_hopes 97 = .ok (.istore 5, 2) := by decide +kernel
theorem dX11_hopes_99 : decode cX11_hopes 99 = .ok (.goto (-51), 3) := by decide +kernel
theorem dX11_hopes_102 : decode cX11_hopes 102 = .ok (.return_, 1) := by decide +kernel
theorem dX11_sure_0 : decode cX11_sure 0 = .ok (.aload_n 0, 1) := by decide +kernel
theorem dX11_sure_1 : decode cX11_sure 1 = .ok (.iconst 0, 1) := by decide +kernel
theorem dX11_sure_2 : decode cX11_sure 2 = .ok (.putfield 156, 3) := by decide +kernel
theorem dX11_sure_5 : decode cX11_sure 5 = .ok (.aload_n 0, 1) := by decide +kernel
theorem dX11_sure_6 : decode cX11_sure 6 = .ok (.iload_n 1, 1) := by decide +kernel
theorem dX11_sure_7 : decode cX11_sure 7 = .ok (.invokevirtual 432, 3) := by decide +kernel
theorem dX11_sure_10 : decode cX11_sure 10 = .ok (.ifCond .eq 19, 3) := by decide +kernel
theorem dX11_sure_13 : decode cX11_sure 13 = .ok (.aload_n 0, 1) := by decide +kernel
theorem dX11_sure_14 : decode cX11_sure 14 = .ok (.iload_n 2, 1) := by decide +kernel
theorem dX11_sure_15 : decode cX11_sure 15 = .ok (.invokevirtual 509, 3) := by decide +kernel
theorem dX11_sure_18 : decode cX11_sure 18 = .ok (.ifCond .eq 11, 3) := by decide +kernel
theorem dX11_sure_21 : decode cX11_sure 21 = .ok (.aload_n 0, 1) := by decide +kernel
theorem dX11_sure_22 : decode cX11_sure 22 = .ok (.iload_n 1, 1) := by decide +kernel
theorem dX11_sure_23 : decode cX11_sure 23 = .ok (.invokevirtual 404, 3) := by decide +kernel
theorem dX11_sure_26 : decode cX11_sure 26 = .ok (.ifCond .eq 5, 3) := by decide +kernel
theorem dX11_sure_29 : decode cX11_sure 29 = .ok (.iconst (-1), 1) := by decide +kernel
theorem dX11_sure_30 : decode cX11_sure 30 = .ok (.ireturn, 1) := by decide +kernel
theorem dX11_sure_31 : decode cX11_sure 31 = .ok (.iconst 0, 1) := by decide +kernel
theorem dX11_sure_32 : decode cX11_sure 32 = .ok (.istore_n 3, 1) := by decide +kernel
theorem dX11_sure_33 : decode cX11_sure 33 = .ok (.iload_n 3, 1) := by decide +kernel
theorem dX11_sure_34 : decode cX11_sure 34 = .ok (.aload_n 0, 1) := by decide +kernel
theorem dX11_sure_35 : decode cX11_sure 35 = .ok (.getfield 13, 3) := by decide +kernel
theorem dX11_sure_38 : decode cX11_sure 38 = .ok (.iconst 0, 1) := by decide +kernel
theorem dX11_sure_39 : decode cX11_sure 39 = .ok (.iaload, 1) := by decide +kernel
theorem dX11_sure_40 : decode cX11_sure 40 = .ok (.if_icmp .ge 41, 3) := by decide +kernel
theorem dX11_sure_43 : decode cX11_sure 43 = .ok (.aload_n 0, 1) := by decide +kernel
theorem dX11_sure_44 : decode cX11_sure 44 = .ok (.iload_n 1, 1) := by decide +kernel
theorem dX11_sure_45 : decode cX11_sure 45 = .ok (.iload_n 3, 1) := by decide +kernel
theorem dX11_sure_46 : decode cX11_sure 46 = .ok (.invokevirtual 448, 3) := by decide +kernel
theorem dX11_sure_49 : decode cX11_sure 49 = .ok (.ifCond .ne 6, 3) := by decide +kernel
theorem dX11_sure_52 : decode cX11_sure 52 = .ok (.goto 23, 3) := by decide +kernel
theorem dX11_sure_55 : decode cX11_sure 55 = .ok (.aload_n 0, 1) := by decide +kernel
theorem dX11_sure_56 : decode cX11_sure 56 = .ok (.iload_n 1, 1) := by decide +kernel
theorem dX11_sure_57 : decode cX11_sure 57 = .ok (.iload_n 3, 1) := by decide +kernel
theorem dX11_sure_58 : decode cX11_sure 58 = .ok (.iload_n 2, 1) := by decide +kernel
theorem dX11_sure_59 : decode cX11_sure 59 = .ok (.invokevirtual 512, 3) := by decide +kernel
theorem dX11_sure_62 : decode cX11_sure 62 = .ok (.aload_n 0, 1) := by decide +kernel
theorem dX11_sure_63 : decode cX11_sure 63 = .ok (.getfield 503, 3) := by decide +kernel
theorem dX11_sure_66 : decode cX11_sure 66 = .ok (.aload_n 0, 1) := by decide +kernel
theorem dX11_sure_67 : decode cX11_sure 67 = .ok (.getfield 506, 3) := by decide +kernel
theorem dX11_sure_70 : decode cX11_sure 70 = .ok (.if_icmp .ne 5, 3) := by decide +kernel
theorem dX11_sure_73 : decode cX11_sure 73 = .ok (.iload_n 3, 1) := by decide +kernel
theorem dX11_sure_74 : decode cX11_sure 74 = .ok (.ireturn, 1) := by decide +kernel
theorem dX11_sure_75 : decode cX11_sure 75 = .ok (.iinc 3 1, 3) := by decide +kernel
theorem dX11_sure_78 : decode cX11_sure 78 = .ok (.goto (-45), 3) := by decide +kernel
theorem dX11_sure_81 : decode cX11_sure 81 = .ok (.iconst (-1), 1) := by decide +kernel
theorem dX11_sure_82 : decode cX11_sure 82 = .ok (.ireturn, 1) := by decide +kernel
theorem dX11_hope_0 : decode cX11_hope 0 = .ok (.aload_n 0, 1) := by decide +kernel
theorem dX11_hope_1 : decode cX11_hope 1 = .ok (.iconst 0, 1) := by decide +kernel
theorem dX11_hope_2 : decode cX11_hope 2 = .ok (.putfield 156, 3) := by decide +kernel
theorem dX11_hope_5 : decode cX11_hope 5 = .ok (.aload_n 0, 1) := by decide +kernel
theorem dX11_hope_6 : decode cX11_hope 6 = .ok (.iload_n 1, 1) := by decide +kernel
theorem dX11_hope_7 : decode cX11_hope 7 = .ok (.invokevirtual 432, 3) := by decide +kernel
theorem dX11_hope_10 : decode cX11_hope 10 = .ok (.ifCond .eq 28, 3) := by decide +kernel
theorem dX11_hope_13 : decode cX11_hope 13 = .ok (.aload_n 0, 1) := by decide +kernel
theorem dX11_hope_14 : decode cX11_hope 14 = .ok (.iload_n 2, 1) := by decide +kernel
theorem dX11_hope_15 : decode cX11_hope 15 = .ok (.invokevirtual 445, 3) := by decide +kernel
theorem dX11_hope_18 : decode cX11_hope 18 = .ok (.ifCond .eq 20, 3) := by decide +kernel
theorem dX11_hope_21 : decode cX11_hope 21 = .ok (.aload_n 0, 1) := by decide +kernel
theorem dX11_hope_22 : decode cX11_hope 22 = .ok (.iload_n 3, 1) := by decide +kernel
theorem dX11_hope_23 : decode cX11_hope 23 = .ok (.invokevirtual 509, 3) := by decide +kernel
theorem dX11_hope_26 : decode cX11_hope 26 = .ok (.ifCond .eq 12, 3) := by decide +kernel
theorem dX11_hope_29 : decode cX11_hope 29 = .ok (.aload_n 0, 1) := by decide +kernel
theorem dX11_hope_30 : decode cX11_hope 30 = .ok (.iload_n 1, 1) := by decide +kernel
theorem dX11_hope_31 : decode cX11_hope 31 = .ok (.iload_n 2, 1) := by decide +kernel
theorem dX11_hope_32 : decode cX11_hope 32 = .ok (.invokevirtual 448, 3) := by decide +kernel
theorem dX11_hope_35 : decode cX11_hope 35 = .ok (.ifCond .ne 5, 3) := by decide +kernel
theorem dX11_hope_38 : decode cX11_hope 38 = .ok (.iconst (-1), 1) := by decide +kernel
theorem dX11_hope_39 : decode cX11_hope 39 = .ok (.ireturn, 1) := by decide +kernel
theorem dX11_hope_40 : decode cX11_hope 40 = .ok (.aload_n 0, 1) := by decide +kernel
theorem dX11_hope_41 : decode cX11_hope 41 = .ok (.iload_n 1, 1) := by decide +kernel
theorem dX11_hope_42 : decode cX11_hope 42 = .ok (.iload_n 2, 1) := by decide +kernel
theorem dX11_hope_43 : decode cX11_hope 43 = .ok (.iload_n 3, 1) := by decide +kernel
theorem dX11_hope_44 : decode cX11_hope 44 = .ok (.invokevirtual 512, 3) := by decide +kernel
theorem dX11_hope_47 : decode cX11_hope 47 = .ok (.aload_n 0, 1) := by decide +kernel
theorem dX11_hope_48 : decode cX11_hope 48 = .ok (.getfield 503, 3) := by decide +kernel
theorem dX11_hope_51 : decode cX11_hope 51 = .ok (.i2l, 1) := by decide +kernel
theorem dX11_hope_52 : decode cX11_hope 52 = .ok (.ldc2_w 516, 3) := by decide +kernel
theorem dX11_hope_55 : decode cX11_hope 55 = .ok (.lmul, 1) := by decide +kernel
theorem dX11_hope_56 : decode cX11_hope 56 = .ok (.aload_n 0, 1) := by decide +kernel
theorem dX11_hope_57 : decode cX11_hope 57 = .ok (.getfield 506, 3) := by decide +kernel
theorem dX11_hope_60 : decode cX11_hope 60 = .ok (.i2l, 1) := by decide +kernel
theorem dX11_hope_61 : decode cX11_hope 61 = .ok (.ldiv, 1) := by decide +kernel
theorem dX11_hope_62 : decode cX11_hope 62 = .ok (.l2i, 1) := by decide +kernel
theorem dX11_hope_63 : decode cX11_hope 63 = .ok (.ireturn, 1) := by decide +kernel
theorem dX11_read_0 : decode cX11_read 0 = .ok (.aload_n 0, 1) := by decide +kernel
theorem dX11_read_1 : decode cX11_read 1 = .ok (.iconst 0, 1) := by decide +kernel
theorem dX11_read_2 : decode cX11_read 2 = .ok (.putfield 156, 3) := by decide +kernel
theorem dX11_read_5 : decode cX11_read 5 = .ok (.iload_n 1, 1) := by decide +kernel
theorem dX11_read_6 : decode cX11_read 6 = .ok (.ifCond .lt 48, 3) := by decide +kernel
theorem dX11_read_9 : decode cX11_read 9 = .ok (.iload_n 1, 1) := by decide +kernel
theorem dX11_read_10 : decode cX11_read 10 = .ok (.aload_n 0, 1) := by decide +kernel
theorem dX11_read_11 : decode cX11_read 11 = .ok (.getfield 13, 3) := by decide +kernel
theorem dX11_read_14 : decode cX11_read 14 = .ok (.iconst 4, 1) := by decide +kernel
theorem dX11_read_15 : decode cX11_read 15 = .ok (.iaload, 1) := by decide +kernel
theorem dX11_read_16 : decode cX11_read 16 = .ok (.if_icmp .ge 38, 3) := by decide +kernel
theorem dX11_read_19 : decode cX11_read 19 = .ok (.aload_n 0, 1) := by decide +kernel
theorem dX11_read_20 : decode cX11_read 20 = .ok (.iload_n 2, 1) := by decide +kernel
theorem dX11_read_21 : decode cX11_read 21 = .ok (.invokevirtual 435, 3) := by decide +kernel
