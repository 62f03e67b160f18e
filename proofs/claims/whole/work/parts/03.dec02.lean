theorem dX10_share_100 : decode cX10_share 100 = .ok (.iload 4, 2) := by decide +kernel
theorem dX10_share_102 : decode cX10_share 102 = .ok (.if_icmp .gt 89, 3) := by decide +kernel
theorem dX10_share_105 : decode cX10_share 105 = .ok (.iload 7, 2) := by decide +kernel
theorem dX10_share_107 : decode cX10_share 107 = .ok (.iload 4, 2) := by decide +kernel
theorem dX10_share_109 : decode cX10_share 109 = .ok (.iconst (-1), 1) := by decide +kernel
theorem dX10_share_110 : decode cX10_share 110 = .ok (.ixor, 1) := by decide +kernel
theorem dX10_share_111 : decode cX10_share 111 = .ok (.iand, 1) := by decide +kernel
theorem dX10_share_112 : decode cX10_share 112 = .ok (.ifCond .ne 73, 3) := by decide +kernel
theorem dX10_share_115 : decode cX10_share 115 = .ok (.iload 7, 2) := by decide +kernel
theorem dX10_share_117 : decode cX10_share 117 = .ok (.invokestatic 258, 3) := by decide +kernel
theorem dX10_share_120 : decode cX10_share 120 = .ok (.istore 8, 2) := by decide +kernel
theorem dX10_share_122 : decode cX10_share 122 = .ok (.aload_n 0, 1) := by decide +kernel
theorem dX10_share_123 : decode cX10_share 123 = .ok (.getfield 19, 3) := by decide +kernel
theorem dX10_share_126 : decode cX10_share 126 = .ok (.getfield 120, 3) := by decide +kernel
theorem dX10_share_129 : decode cX10_share 129 = .ok (.aload_n 0, 1) := by decide +kernel
theorem dX10_share_130 : decode cX10_share 130 = .ok (.getfield 69, 3) := by decide +kernel
theorem dX10_share_133 : decode cX10_share 133 = .ok (.iload 7, 2) := by decide +kernel
theorem dX10_share_135 : decode cX10_share 135 = .ok (.iload_n 3, 1) := by decide +kernel
theorem dX10_share_136 : decode cX10_share 136 = .ok (.ior, 1) := by decide +kernel
theorem dX10_share_137 : decode cX10_share 137 = .ok (.invokevirtual 266, 3) := by decide +kernel
theorem dX10_share_140 : decode cX10_share 140 = .ok (.aload_n 0, 1) := by decide +kernel
theorem dX10_share_141 : decode cX10_share 141 = .ok (.getfield 19, 3) := by decide +kernel
theorem dX10_share_144 : decode cX10_share 144 = .ok (.getfield 120, 3) := by decide +kernel
theorem dX10_share_147 : decode cX10_share 147 = .ok (.aload_n 0, 1) := by decide +kernel
theorem dX10_share_148 : decode cX10_share 148 = .ok (.getfield 69, 3) := by decide +kernel
theorem dX10_share_151 : decode cX10_share 151 = .ok (.iload 7, 2) := by decide +kernel
theorem dX10_share_153 : decode cX10_share 153 = .ok (.invokevirtual 266, 3) := by decide +kernel
theorem dX10_share_156 : decode cX10_share 156 = .ok (.isub, 1) := by decide +kernel
theorem dX10_share_157 : decode cX10_share 157 = .ok (.istore 9, 2) := by decide +kernel
theorem dX10_share_159 : decode cX10_share 159 = .ok (.iload 6, 2) := by decide +kernel
theorem dX10_share_161 : decode cX10_share 161 = .ok (.iload 9, 2) := by decide +kernel
theorem dX10_share_163 : decode cX10_share 163 = .ok (.getstatic 263, 3) := by decide +kernel
theorem dX10_share_166 : decode cX10_share 166 = .ok (.iload 8, 2) := by decide +kernel
theorem dX10_share_168 : decode cX10_share 168 = .ok (.iaload, 1) := by decide +kernel
theorem dX10_share_169 : decode cX10_share 169 = .ok (.imul, 1) := by decide +kernel
theorem dX10_share_170 : decode cX10_share 170 = .ok (.getstatic 263, 3) := by decide +kernel
theorem dX10_share_173 : decode cX10_share 173 = .ok (.iload 5, 2) := by decide +kernel
theorem dX10_share_175 : decode cX10_share 175 = .ok (.iconst 1, 1) := by decide +kernel
theorem dX10_share_176 : decode cX10_share 176 = .ok (.isub, 1) := by decide +kernel
theorem dX10_share_177 : decode cX10_share 177 = .ok (.iload 8, 2) := by decide +kernel
theorem dX10_share_179 : decode cX10_share 179 = .ok (.isub, 1) := by decide +kernel
theorem dX10_share_180 : decode cX10_share 180 = .ok (.iaload, 1) := by decide +kernel
theorem dX10_share_181 : decode cX10_share 181 = .ok (.imul, 1) := by decide +kernel
theorem dX10_share_182 : decode cX10_share 182 = .ok (.iadd, 1) := by decide +kernel
theorem dX10_share_183 : decode cX10_share 183 = .ok (.istore 6, 2) := by decide +kernel
theorem dX10_share_185 : decode cX10_share 185 = .ok (.iinc 7 1, 3) := by decide +kernel
theorem dX10_share_188 : decode cX10_share 188 = .ok (.goto (-90), 3) := by decide +kernel
theorem dX10_share_191 : decode cX10_share 191 = .ok (.iload 6, 2) := by decide +kernel
theorem dX10_share_193 : decode cX10_share 193 = .ok (.sipush 1000, 3) := by decide +kernel
theorem dX10_share_196 : decode cX10_share 196 = .ok (.imul, 1) := by decide +kernel
theorem dX10_share_197 : decode cX10_share 197 = .ok (.getstatic 263, 3) := by decide +kernel
theorem dX10_share_200 : decode cX10_share 200 = .ok (.iload 5, 2) := by decide +kernel
theorem dX10_share_202 : decode cX10_share 202 = .ok (.iaload, 1) := by decide +kernel
theorem dX10_share_203 : decode cX10_share 203 = .ok (.idiv, 1) := by decide +kernel
theorem dX10_share_204 : decode cX10_share 204 = .ok (.ireturn, 1) := by decide +kernel
theorem dX10_given_0 : decode cX10_given 0 = .ok (.aload_n 0, 1) := by decide +kernel
theorem dX10_given_1 : decode cX10_given 1 = .ok (.getfield 69, 3) := by decide +kernel
theorem dX10_given_4 : decode cX10_given 4 = .ok (.iconst 2, 1) := by decide +kernel
theorem dX10_given_5 : decode cX10_given 5 = .ok (.iload_n 1, 1) := by decide +kernel
theorem dX10_given_6 : decode cX10_given 6 = .ok (.invokevirtual 116, 3) := by decide +kernel
theorem dX10_given_9 : decode cX10_given 9 = .ok (.ifCond .eq 15, 3) := by decide +kernel
theorem dX10_given_12 : decode cX10_given 12 = .ok (.aload_n 0, 1) := by decide +kernel
theorem dX10_given_13 : decode cX10_given 13 = .ok (.getfield 69, 3) := by decide +kernel
theorem dX10_given_16 : decode cX10_given 16 = .ok (.iconst 0, 1) := by decide +kernel
theorem dX10_given_17 : decode cX10_given 17 = .ok (.iload_n 2, 1) := by decide +kernel
theorem dX10_given_18 : decode cX10_given 18 = .ok (.invokevirtual 116, 3) := by decide +kernel
theorem dX10_given_21 : decode cX10_given 21 = .ok (.ifCond .ne 5, 3) := by decide +kernel
theorem dX10_given_24 : decode cX10_given 24 = .ok (.iconst (-1), 1) := by decide +kernel
theorem dX10_given_25 : decode cX10_given 25 = .ok (.ireturn, 1) := by decide +kernel
theorem dX10_given_26 : decode cX10_given 26 = .ok (.aload_n 0, 1) := by decide +kernel
theorem dX10_given_27 : decode cX10_given 27 = .ok (.getfield 69, 3) := by decide +kernel
theorem dX10_given_30 : decode cX10_given 30 = .ok (.aload_n 0, 1) := by decide +kernel
theorem dX10_given_31 : decode cX10_given 31 = .ok (.getfield 69, 3) := by decide +kernel
theorem dX10_given_34 : decode cX10_given 34 = .ok (.getfield 123, 3) := by decide +kernel
theorem dX10_given_37 : decode cX10_given 37 = .ok (.iload_n 1, 1) := by decide +kernel
theorem dX10_given_38 : decode cX10_given 38 = .ok (.iaload, 1) := by decide +kernel
theorem dX10_given_39 : decode cX10_given 39 = .ok (.invokevirtual 136, 3) := by decide +kernel
theorem dX10_given_42 : decode cX10_given 42 = .ok (.istore_n 3, 1) := by decide +kernel
theorem dX10_given_43 : decode cX10_given 43 = .ok (.iconst 0, 1) := by decide +kernel
theorem dX10_given_44 : decode cX10_given 44 = .ok (.istore 4, 2) := by decide +kernel
theorem dX10_given_46 : decode cX10_given 46 = .ok (.iconst 0, 1) := by decide +kernel
theorem dX10_given_47 : decode cX10_given 47 = .ok (.istore 5, 2) := by decide +kernel
theorem dX10_given_49 : decode cX10_given 49 = .ok (.iconst 0, 1) := by decide +kernel
theorem dX10_given_50 : decode cX10_given 50 = .ok (.istore 6, 2) := by decide +kernel
theorem dX10_given_52 : decode cX10_given 52 = .ok (.iload 6, 2) := by decide +kernel
theorem dX10_given_54 : decode cX10_given 54 = .ok (.aload_n 0, 1) := by decide +kernel
theorem dX10_given_55 : decode cX10_given 55 = .ok (.getfield 69, 3) := by decide +kernel
theorem dX10_given_58 : decode cX10_given 58 = .ok (.getfield 212, 3) := by decide +kernel
theorem dX10_given_61 : decode cX10_given 61 = .ok (.iconst 2, 1) := by decide +kernel
theorem dX10_given_62 : decode cX10_given 62 = .ok (.iaload, 1) := by decide +kernel
theorem dX10_given_63 : decode cX10_given 63 = .ok (.if_icmp .ge 52, 3) := by decide +kernel
theorem dX10_given_66 : decode cX10_given 66 = .ok (.iload_n 3, 1) := by decide +kernel
theorem dX10_given_67 : decode cX10_given 67 = .ok (.iload 6, 2) := by decide +kernel
theorem dX10_given_69 : decode cX10_given 69 = .ok (.ishr, 1) := by decide +kernel
theorem dX10_given_70 : decode cX10_given 70 = .ok (.iconst 1, 1) := by decide +kernel
theorem dX10_given_71 : decode cX10_given 71 = .ok (.iand, 1) := by decide +kernel
theorem dX10_given_72 : decode cX10_given 72 = .ok (.ifCond .eq 37, 3) := by decide +kernel
theorem dX10_given_75 : decode cX10_given 75 = .ok (.iload 4, 2) := by decide +kernel
theorem dX10_given_77 : decode cX10_given 77 = .ok (.aload_n 0, 1) := by decide +kernel
theorem dX10_given_78 : decode cX10_given 78 = .ok (.getfield 19, 3) := by decide +kernel
theorem dX10_given_81 : decode cX10_given 81 = .ok (.getfield 120, 3) := by decide +kernel
theorem dX10_given_84 : decode cX10_given 84 = .ok (.iload 6, 2) := by decide +kernel
theorem dX10_given_86 : decode cX10_given 86 = .ok (.iload_n 2, 1) := by decide +kernel
theorem dX10_given_87 : decode cX10_given 87 = .ok (.invokevirtual 132, 3) := by decide +kernel
theorem dX10_given_90 : decode cX10_given 90 = .ok (.iadd, 1) := by decide +kernel
theorem dX10_given_91 : decode cX10_given 91 = .ok (.istore 4, 2) := by decide +kernel
theorem dX10_given_93 : decode cX10_given 93 = .ok (.iload 5, 2) := by decide +kernel
theorem dX10_given_95 : decode cX10_given 95 = .ok (.iload 6, 2) := by decide +kernel
theorem dX10_given_97 : decode cX10_given 97 = .ok (.iload_n 1, 1) := by decide +kernel
theorem dX10_given_98 : decode cX10_given 98 = .ok (.if_icmp .ge 7, 3) := by decide +kernel
theorem dX10_given_101 : decode cX10_given 101 = .ok (.iconst 1, 1) := by decide +kernel
theorem dX10_given_102 : decode cX10_given 102 = .ok (.goto 4, 3) := by decide +kernel
theorem dX10_given_105 : decode cX10_given 105 = .ok (.iconst 0, 1) := by decide +kernel
theorem dX10_given_106 : decode cX10_given 106 = .ok (.iadd, 1) := by decide +kernel
theorem dX10_given_107 : decode cX10_given 107 = .ok (.istore 5, 2) := by decide +kernel
theorem dX10_given_109 : decode cX10_given 109 = .ok (.iinc 6 1, 3) := by decide +kernel
theorem dX10_given_112 : decode cX10_given 112 = .ok (.goto (-60), 3) := by decide +kernel
theorem dX10_given_115 : decode cX10_given 115 = .ok (.iload_n 3, 1) := by decide +kernel
theorem dX10_given_116 : decode cX10_given 116 = .ok (.invokestatic 258, 3) := by decide +kernel
theorem dX10_given_119 : decode cX10_given 119 = .ok (.istore 6, 2) := by decide +kernel
theorem dX10_given_121 : decode cX10_given 121 = .ok (.iload 6, 2) := by decide +kernel
theorem dX10_given_123 : decode cX10_given 123 = .ok (.iconst 1, 1) := by decide +kernel
theorem dX10_given_124 : decode cX10_given 124 = .ok (.if_icmp .ge 5, 3) := by decide +kernel
theorem dX10_given_127 : decode cX10_given 127 = .ok (.iconst (-1), 1) := by decide +kernel
theorem dX10_given_128 : decode cX10_given 128 = .ok (.ireturn, 1) := by decide +kernel
theorem dX10_given_129 : decode cX10_given 129 = .ok (.iload 4, 2) := by decide +kernel
theorem dX10_given_131 : decode cX10_given 131 = .ok (.iload 6, 2) := by decide +kernel
theorem dX10_given_133 : decode cX10_given 133 = .ok (.idiv, 1) := by decide +kernel
theorem dX10_given_134 : decode cX10_given 134 = .ok (.iload 5, 2) := by decide +kernel
theorem dX10_given_136 : decode cX10_given 136 = .ok (.iload 4, 2) := by decide +kernel
theorem dX10_given_138 : decode cX10_given 138 = .ok (.iload 6, 2) := by decide +kernel
theorem dX10_given_140 : decode cX10_given 140 = .ok (.irem, 1) := by decide +kernel
theorem dX10_given_141 : decode cX10_given 141 = .ok (.if_icmp .ge 7, 3) := by decide +kernel
theorem dX10_given_144 : decode cX10_given 144 = .ok (.iconst 1, 1) := by decide +kernel
theorem dX10_given_145 : decode cX10_given 145 = .ok (.goto 4, 3) := by decide +kernel
theorem dX10_given_148 : decode cX10_given 148 = .ok (.iconst 0, 1) := by decide +kernel
theorem dX10_given_149 : decode cX10_given 149 = .ok (.iadd, 1) := by decide +kernel
theorem dX10_given_150 : decode cX10_given 150 = .ok (.ireturn, 1) := by decide +kernel
theorem dX10_rests_0 : decode cX10_rests 0 = .ok (.aload_n 0, 1) := by decide +kernel
theorem dX10_rests_1 : decode cX10_rests 1 = .ok (.iload_n 1, 1) := by decide +kernel
theorem dX10_rests_2 : decode cX10_rests 2 = .ok (.iload_n 2, 1) := by decide +kernel
theorem dX10_rests_3 : decode cX10_rests 3 = .ok (.invokevirtual 269, 3) := by decide +kernel
theorem dX10_rests_6 : decode cX10_rests 6 = .ok (.ifCond .eq 28, 3) := by decide +kernel
theorem dX10_rests_9 : decode cX10_rests 9 = .ok (.aload_n 0, 1) := by decide +kernel
theorem dX10_rests_10 : decode cX10_rests 10 = .ok (.getfield 69, 3) := by decide +kernel
theorem dX10_rests_13 : decode cX10_rests 13 = .ok (.iconst 3, 1) := by decide +kernel
theorem dX10_rests_14 : decode cX10_rests 14 = .ok (.iload_n 3, 1) := by decide +kernel
theorem dX10_rests_15 : decode cX10_rests 15 = .ok (.invokevirtual 116, 3) := by decide +kernel
theorem dX10_rests_18 : decode cX10_rests 18 = .ok (.ifCond .eq 16, 3) := by decide +kernel
theorem dX10_rests_21 : decode cX10_rests 21 = .ok (.aload_n 0, 1) := by decide +kernel
theorem dX10_rests_22 : decode cX10_rests 22 = .ok (.getfield 69, 3) := by decide +kernel
theorem dX10_rests_25 : decode cX10_rests 25 = .ok (.iconst 3, 1) := by decide +kernel
theorem dX10_rests_26 : decode cX10_rests 26 = .ok (.iload 4, 2) := by decide +kernel
theorem dX10_rests_28 : decode cX10_rests 28 = .ok (.invokevirtual 116, 3) := by decide +kernel
theorem dX10_rests_31 : decode cX10_rests 31 = .ok (.ifCond .ne 11, 3) := by decide +kernel
theorem dX10_rests_34 : decode cX10_rests 34 = .ok (.new 272, 3) := by decide +kernel
theorem dX10_rests_37 : decode cX10_rests 37 = .ok (.dup, 1) := by decide +kernel
theorem dX10_rests_38 : decode cX10_rests 38 = .ok (.invokespecial 274, 3) := by decide +kernel
theorem dX10_rests_41 : decode cX10_rests 41 = .ok (.athrow, 1) := by decide +kernel
theorem dX10_rests_42 : decode cX10_rests 42 = .ok (.iload 5, 2) := by decide +kernel
theorem dX10_rests_44 : decode cX10_rests 44 = .ok (.ifCond .lt 16, 3) := by decide +kernel
theorem dX10_rests_47 : decode cX10_rests 47 = .ok (.iload 5, 2) := by decide +kernel
theorem dX10_rests_49 : decode cX10_rests 49 = .ok (.bipush 99, 2) := by decide +kernel
theorem dX10_rests_51 : decode cX10_rests 51 = .ok (.if_icmp .gt 9, 3) := by decide +kernel
theorem dX10_rests_54 : decode cX10_rests 54 = .ok (.iload 6, 2) := by decide +kernel
theorem dX10_rests_56 : decode cX10_rests 56 = .ok (.iconst (-1), 1) := by decide +kernel
theorem dX10_rests_57 : decode cX10_rests 57 = .ok (.if_icmp .ge 11, 3) := by decide +kernel
theorem dX10_rests_60 : decode cX10_rests 60 = .ok (.new 272, 3) := by decide +kernel
theorem dX10_rests_63 : decode cX10_rests 63 = .ok (.dup, 1) := by decide +kernel
theorem dX10_rests_64 : decode cX10_rests 64 = .ok (.invokespecial 274, 3) := by decide +kernel
theorem dX10_rests_67 : decode cX10_rests 67 = .ok (.athrow, 1) := by decide +kernel
theorem dX10_rests_68 : decode cX10_rests 68 = .ok (.iconst 0, 1) := by decide +kernel
theorem dX10_rests_69 : decode cX10_rests 69 = .ok (.istore 7, 2) := by decide +kernel
theorem dX10_rests_71 : decode cX10_rests 71 = .ok (.iconst 0, 1) := by decide +kernel
theorem dX10_rests_72 : decode cX10_rests 72 = .ok (.istore 8, 2) := by decide +kernel
theorem dX10_rests_74 : decode cX10_rests 74 = .ok (.iload 8, 2) := by decide +kernel
theorem dX10_rests_76 : decode cX10_rests 76 = .ok (.aload_n 0, 1) := by decide +kernel
theorem dX10_rests_77 : decode cX10_rests 77 = .ok (.getfield 69, 3) := by decide +kernel
theorem dX10_rests_80 : decode cX10_rests 80 = .ok (.getfield 212, 3) := by decide +kernel
theorem dX10_rests_83 : decode cX10_rests 83 = .ok (.iconst 0, 1) := by decide +kernel
theorem dX10_rests_84 : decode cX10_rests 84 = .ok (.iaload, 1) := by decide +kernel
theorem dX10_rests_85 : decode cX10_rests 85 = .ok (.if_icmp .gt 82, 3) := by decide +kernel
theorem dX10_rests_88 : decode cX10_rests 88 = .ok (.iconst 0, 1) := by decide +kernel
theorem dX10_rests_89 : decode cX10_rests 89 = .ok (.istore 9, 2) := by decide +kernel
theorem dX10_rests_91 : decode cX10_rests 91 = .ok (.iload 9, 2) := by decide +kernel
theorem dX10_rests_93 : decode cX10_rests 93 = .ok (.aload_n 0, 1) := by decide +kernel
theorem dX10_rests_94 : decode cX10_rests 94 = .ok (.getfield 69, 3) := by decide +kernel
theorem dX10_rests_97 : decode cX10_rests 97 = .ok (.getfield 212, 3) := by decide +kernel
theorem dX10_rests_100 : decode cX10_rests 100 = .ok (.iconst 0, 1) := by decide +kernel
theorem dX10_rests_101 : decode cX10_rests 101 = .ok (.iaload, 1) := by decide +kernel
theorem dX10_rests_102 : decode cX10_rests 102 = .ok (.if_icmp .gt 59, 3) := by decide +kernel
theorem dX10_rests_105 : decode cX10_rests 105 = .ok (.aload_n 0, 1) := by decide +kernel
theorem dX10_rests_106 : decode cX10_rests 106 = .ok (.iload_n 1, 1) := by decide +kernel
theorem dX10_rests_107 : decode cX10_rests 107 = .ok (.iload 8, 2) := by decide +kernel
theorem dX10_rests_109 : decode cX10_rests 109 = .ok (.iload 9, 2) := by decide +kernel
theorem dX10_rests_111 : decode cX10_rests 111 = .ok (.iload_n 3, 1) := by decide +kernel
theorem dX10_rests_112 : decode cX10_rests 112 = .ok (.iload 5, 2) := by decide +kernel
theorem dX10_rests_114 : decode cX10_rests 114 = .ok (.invokevirtual 275, 3) := by decide +kernel
theorem dX10_rests_117 : decode cX10_rests 117 = .ok (.ifCond .eq 38, 3) := by decide +kernel
theorem dX10_rests_120 : decode cX10_rests 120 = .ok (.aload_n 0, 1) := by decide +kernel
theorem dX10_rests_121 : decode cX10_rests 121 = .ok (.iload_n 2, 1) := by decide +kernel
theorem dX10_rests_122 : decode cX10_rests 122 = .ok (.iload 9, 2) := by decide +kernel
theorem dX10_rests_124 : decode cX10_rests 124 = .ok (.iload 8, 2) := by decide +kernel
theorem dX10_rests_126 : decode cX10_rests 126 = .ok (.iload 4, 2) := by decide +kernel
theorem dX10_rests_128 : decode cX10_rests 128 = .ok (.iload 5, 2) := by decide +kernel
theorem dX10_rests_130 : decode cX10_rests 130 = .ok (.invokevirtual 275, 3) := by decide +kernel
theorem dX10_rests_133 : decode cX10_rests 133 = .ok (.ifCond .eq 22, 3) := by decide +kernel
theorem dX10_rests_136 : decode cX10_rests 136 = .ok (.iload 7, 2) := by decide +kernel
theorem dX10_rests_138 : decode cX10_rests 138 = .ok (.iload 6, 2) := by decide +kernel
theorem dX10_rests_140 : decode cX10_rests 140 = .ok (.if_icmp .ne 12, 3) := by decide +kernel
theorem dX10_rests_143 : decode cX10_rests 143 = .ok (.bipush 10, 2) := by decide +kernel
theorem dX10_rests_145 : decode cX10_rests 145 = .ok (.iload 8, 2) := by decide +kernel
theorem dX10_rests_147 : decode cX10_rests 147 = .ok (.imul, 1) := by decide +kernel
theorem dX10_rests_148 : decode cX10_rests 148 = .ok (.iload 9, 2) := by decide +kernel
theorem dX10_rests_150 : decode cX10_rests 150 = .ok (.iadd, 1) := by decide +kernel
theorem dX10_rests_151 : decode cX10_rests 151 = .ok (.ireturn, 1) := by decide +kernel
theorem dX10_rests_152 : decode cX10_rests 152 = .ok (.iinc 7 1, 3) := by decide +kernel
theorem dX10_rests_155 : decode cX10_rests 155 = .ok (.iinc 9 1, 3) := by decide +kernel
theorem dX10_rests_158 : decode cX10_rests 158 = .ok (.goto (-67), 3) := by decide +kernel
theorem dX10_rests_161 : decode cX10_rests 161 = .ok (.iinc 8 1, 3) := by decide +kernel
theorem dX10_rests_164 : decode cX10_rests 164 = .ok (.goto (-90), 3) := by decide +kernel
theorem dX10_rests_167 : decode cX10_rests 167 = .ok (.iload 6, 2) := by decide +kernel
theorem dX10_rests_169 : decode cX10_rests 169 = .ok (.iconst (-1), 1) := by decide +kernel
theorem dX10_rests_170 : decode cX10_rests 170 = .ok (.if_icmp .eq 11, 3) := by decide +kernel
theorem dX10_rests_173 : decode cX10_rests 173 = .ok (.new 272, 3) := by decide +kernel
theorem dX10_rests_176 : decode cX10_rests 176 = .ok (.dup, 1) := by decide +kernel
theorem dX10_rests_177 : decode cX10_rests 177 = .ok (.invokespecial 274, 3) := by decide +kernel
theorem dX10_rests_180 : decode cX10_rests 180 = .ok (.athrow, 1) := by decide +kernel
theorem dX10_rests_181 : decode cX10_rests 181 = .ok (.iload 7, 2) := by decide +kernel
theorem dX10_rests_183 : decode cX10_rests 183 = .ok (.ireturn, 1) := by decide +kernel
theorem dX10_years_0 : decode cX10_years 0 = .ok (.iload_n 1, 1) := by decide +kernel
theorem dX10_years_1 : decode cX10_years 1 = .ok (.ifCond .lt 30, 3) := by decide +kernel
theorem dX10_years_4 : decode cX10_years 4 = .ok (.iload_n 1, 1) := by decide +kernel
theorem dX10_years_5 : decode cX10_years 5 = .ok (.sipush 9999, 3) := by decide +kernel
theorem dX10_years_8 : decode cX10_years 8 = .ok (.if_icmp .gt 23, 3) := by decide +kernel
theorem dX10_years_11 : decode cX10_years 11 = .ok (.iload_n 2, 1) := by decide +kernel
theorem dX10_years_12 : decode cX10_years 12 = .ok (.iconst 1, 1) := by decide +kernel
theorem dX10_years_13 : decode cX10_years 13 = .ok (.if_icmp .lt 18, 3) := by decide +kernel
theorem dX10_years_16 : decode cX10_years 16 = .ok (.iload_n 2, 1) := by decide +kernel
theorem dX10_years_17 : decode cX10_years 17 = .ok (.bipush 99, 2) := by decide +kernel
theorem dX10_years_19 : decode cX10_years 19 = .ok (.if_icmp .gt 12, 3) := by decide +kernel
theorem dX10_years_22 : decode cX10_years 22 = .ok (.iload_n 3, 1) := by decide +kernel
theorem dX10_years_23 : decode cX10_years 23 = .ok (.ifCond .lt 8, 3) := by decide +kernel
theorem dX10_years_26 : decode cX10_years 26 = .ok (.iload_n 3, 1) := by decide +kernel
theorem dX10_years_27 : decode cX10_years 27 = .ok (.iconst 2, 1) := by decide +kernel
theorem dX10_years_28 : decode cX10_years 28 = .ok (.if_icmp .le 5, 3) := by decide +kernel
theorem dX10_years_31 : decode cX10_years 31 = .ok (.iconst (-1), 1) := by decide +kernel
theorem dX10_years_32 : decode cX10_years 32 = .ok (.ireturn, 1) := by decide +kernel
theorem dX10_years_33 : decode cX10_years 33 = .ok (.aload_n 0, 1) := by decide +kernel
theorem dX10_years_34 : decode cX10_years 34 = .ok (.getfield 34, 3) := by decide +kernel
theorem dX10_years_37 : decode cX10_years 37 = .ok (.aload_n 0, 1) := by decide +kernel
theorem dX10_years_38 : decode cX10_years 38 = .ok (.getfield 19, 3) := by decide +kernel
theorem dX10_years_41 : decode cX10_years 41 = .ok (.getfield 120, 3) := by decide +kernel
theorem dX10_years_44 : decode cX10_years 44 = .ok (.invokevirtual 178, 3) := by decide +kernel
theorem dX10_years_47 : decode cX10_years 47 = .ok (.iload_n 1, 1) := by decide +kernel
theorem dX10_years_48 : decode cX10_years 48 = .ok (.i2l, 1) := by decide +kernel
theorem dX10_years_49 : decode cX10_years 49 = .ok (.lstore 4, 2) := by decide +kernel
theorem dX10_years_51 : decode cX10_years 51 = .ok (.iconst 0, 1) := by decide +kernel
theorem dX10_years_52 : decode cX10_years 52 = .ok (.istore 6, 2) := by decide +kernel
theorem dX10_years_54 : decode cX10_years 54 = .ok (.iconst 0, 1) := by decide +kernel
theorem dX10_years_55 : decode cX10_years 55 = .ok (.istore 7, 2) := by decide +kernel
theorem dX10_years_57 : decode cX10_years 57 = .ok (.iload 7, 2) := by decide +kernel
theorem dX10_years_59 : decode cX10_years 59 = .ok (.iload_n 2, 1) := by decide +kernel
theorem dX10_years_60 : decode cX10_years 60 = .ok (.if_icmp .ge 45, 3) := by decide +kernel
theorem dX10_years_63 : decode cX10_years 63 = .ok (.aload_n 0, 1) := by decide +kernel
theorem dX10_years_64 : decode cX10_years 64 = .ok (.lload 4, 2) := by decide +kernel
theorem dX10_years_66 : decode cX10_years 66 = .ok (.invokevirtual 279, 3) := by decide +kernel
theorem dX10_years_69 : decode cX10_years 69 = .ok (.lstore 4, 2) := by decide +kernel
theorem dX10_years_71 : decode cX10_years 71 = .ok (.iload 6, 2) := by decide +kernel
theorem dX10_years_73 : decode cX10_years 73 = .ok (.aload_n 0, 1) := by decide +kernel
theorem dX10_years_74 : decode cX10_years 74 = .ok (.getfield 34, 3) := by decide +kernel
theorem dX10_years_77 : decode cX10_years 77 = .ok (.aload_n 0, 1) := by decide +kernel
theorem dX10_years_78 : decode cX10_years 78 = .ok (.getfield 69, 3) := by decide +kernel
theorem dX10_years_81 : decode cX10_years 81 = .ok (.invokevirtual 189, 3) := by decide +kernel
theorem dX10_years_84 : decode cX10_years 84 = .ok (.iadd, 1) := by decide +kernel
theorem dX10_years_85 : decode cX10_years 85 = .ok (.istore 6, 2) := by decide +kernel
theorem dX10_years_87 : decode cX10_years 87 = .ok (.aload_n 0, 1) := by decide +kernel
theorem dX10_years_88 : decode cX10_years 88 = .ok (.getfield 34, 3) := by decide +kernel
theorem dX10_years_91 : decode cX10_years 91 = .ok (.aload_n 0, 1) := by decide +kernel
theorem dX10_years_92 : decode cX10_years 92 = .ok (.getfield 69, 3) := by decide +kernel
theorem dX10_years_95 : decode cX10_years 95 = .ok (.invokevirtual 171, 3) := by decide +kernel
theorem dX10_years_98 : decode cX10_years 98 = .ok (.pop, 1) := by decide +kernel
theorem dX10_years_99 : decode cX10_years 99 = .ok (.iinc 7 1, 3) := by decide +kernel
theorem dX10_years_102 : decode cX10_years 102 = .ok (.goto (-45), 3) := by decide +kernel
theorem dX10_years_105 : decode cX10_years 105 = .ok (.iload_n 3, 1) := by decide +kernel
theorem dX10_years_106 : decode cX10_years 106 = .ok (.ifCond .ne 6, 3) := by decide +kernel
theorem dX10_years_109 : decode cX10_years 109 = .ok (.iload 6, 2) := by decide +kernel
theorem dX10_years_111 : decode cX10_years 111 = .ok (.ireturn, 1) := by decide +kernel
theorem dX10_years_112 : decode cX10_years 112 = .ok (.iload_n 3, 1) := by decide +kernel
theorem dX10_years_113 : decode cX10_years 113 = .ok (.iconst 1, 1) := by decide +kernel
theorem dX10_years_114 : decode cX10_years 114 = .ok (.if_icmp .ne 24, 3) := by decide +kernel
theorem dX10_years_117 : decode cX10_years 117 = .ok (.aload_n 0, 1) := by decide +kernel
theorem dX10_years_118 : decode cX10_years 118 = .ok (.getfield 34, 3) := by decide +kernel
theorem dX10_years_121 : decode cX10_years 121 = .ok (.invokevirtual 196, 3) := by decide +kernel
theorem dX10_years_124 : decode cX10_years 124 = .ok (.aload_n 0, 1) := by decide +kernel
theorem dX10_years_125 : decode cX10_years 125 = .ok (.getfield 19, 3) := by decide +kernel
theorem dX10_years_128 : decode cX10_years 128 = .ok (.getfield 120, 3) := by decide +kernel
theorem dX10_years_131 : decode cX10_years 131 = .ok (.invokevirtual 196, 3) := by decide +kernel
theorem dX10_years_134 : decode cX10_years 134 = .ok (.isub, 1) := by decide +kernel
theorem dX10_years_135 : decode cX10_years 135 = .ok (.goto 10, 3) := by decide +kernel
theorem dX10_years_138 : decode cX10_years 138 = .ok (.aload_n 0, 1) := by decide +kernel
theorem dX10_years_139 : decode cX10_years 139 = .ok (.getfield 34, 3) := by decide +kernel
theorem dX10_years_142 : decode cX10_years 142 = .ok (.invokevirtual 283, 3) := by decide +kernel
theorem dX10_years_145 : decode cX10_years 145 = .ok (.ireturn, 1) := by decide +kernel
theorem dX10_mark_0 : decode cX10_mark 0 = .ok (.iload_n 1, 1) := by decide +kernel
theorem dX10_mark_1 : decode cX10_mark 1 = .ok (.ifCond .lt 23, 3) := by decide +kernel
theorem dX10_mark_4 : decode cX10_mark 4 = .ok (.iload_n 1, 1) := by decide +kernel
theorem dX10_mark_5 : decode cX10_mark 5 = .ok (.iconst 4, 1) := by decide +kernel
theorem dX10_mark_6 : decode cX10_mark 6 = .ok (.if_icmp .ge 18, 3) := by decide +kernel
theorem dX10_mark_9 : decode cX10_mark 9 = .ok (.iload_n 2, 1) := by decide +kernel
theorem dX10_mark_10 : decode cX10_mark 10 = .ok (.ifCond .eq 16, 3) := by decide +kernel
theorem dX10_mark_13 : decode cX10_mark 13 = .ok (.aload_n 0, 1) := by decide +kernel
theorem dX10_mark_14 : decode cX10_mark 14 = .ok (.getfield 103, 3) := by decide +kernel
theorem dX10_mark_17 : decode cX10_mark 17 = .ok (.iload_n 1, 1) := by decide +kernel
theorem dX10_mark_18 : decode cX10_mark 18 = .ok (.ishr, 1) := by decide +kernel
theorem dX10_mark_19 : decode cX10_mark 19 = .ok (.iconst 1, 1) := by decide +kernel
theorem dX10_mark_20 : decode cX10_mark 20 = .ok (.iand, 1) := by decide +kernel
theorem dX10_mark_21 : decode cX10_mark 21 = .ok (.ifCond .ne 5, 3) := by decide +kernel
theorem dX10_mark_24 : decode cX10_mark 24 = .ok (.iconst 0, 1) := by decide +kernel
theorem dX10_mark_25 : decode cX10_mark 25 = .ok (.ireturn, 1) := by decide +kernel
theorem dX10_mark_26 : decode cX10_mark 26 = .ok (.iload_n 2, 1) := by decide +kernel
theorem dX10_mark_27 : decode cX10_mark 27 = .ok (.ifCond .eq 24, 3) := by decide +kernel
theorem dX10_mark_30 : decode cX10_mark 30 = .ok (.aload_n 0, 1) := by decide +kernel
theorem dX10_mark_31 : decode cX10_mark 31 = .ok (.getfield 19, 3) := by decide +kernel
theorem dX10_mark_34 : decode cX10_mark 34 = .ok (.aload_n 0, 1) := by decide +kernel
theorem dX10_mark_35 : decode cX10_mark 35 = .ok (.getfield 23, 3) := by decide +kernel
theorem dX10_mark_38 : decode cX10_mark 38 = .ok (.iload_n 1, 1) := by decide +kernel
theorem dX10_mark_39 : decode cX10_mark 39 = .ok (.aaload, 1) := by decide +kernel
theorem dX10_mark_40 : decode cX10_mark 40 = .ok (.invokevirtual 286, 3) := by decide +kernel
theorem dX10_mark_43 : decode cX10_mark 43 = .ok (.aload_n 0, 1) := by decide +kernel
theorem dX10_mark_44 : decode cX10_mark 44 = .ok (.iconst 0, 1) := by decide +kernel
theorem dX10_mark_45 : decode cX10_mark 45 = .ok (.putfield 100, 3) := by decide +kernel
theorem dX10_mark_48 : decode cX10_mark 48 = .ok (.goto 28, 3) := by decide +kernel
theorem dX10_mark_51 : decode cX10_mark 51 = .ok (.aload_n 0, 1) := by decide +kernel
theorem dX10_mark_52 : decode cX10_mark 52 = .ok (.getfield 23, 3) := by decide +kernel
theorem dX10_mark_55 : decode cX10_mark 55 = .ok (.iload_n 1, 1) := by decide +kernel
theorem dX10_mark_56 : decode cX10_mark 56 = .ok (.aaload, 1) := by decide +kernel
theorem dX10_mark_57 : decode cX10_mark 57 = .ok (.aload_n 0, 1) := by decide +kernel
theorem dX10_mark_58 : decode cX10_mark 58 = .ok (.getfield 19, 3) := by decide +kernel
theorem dX10_mark_61 : decode cX10_mark 61 = .ok (.invokevirtual 286, 3) := by decide +kernel
theorem dX10_mark_64 : decode cX10_mark 64 = .ok (.aload_n 0, 1) := by decide +kernel
theorem dX10_mark_65 : decode cX10_mark 65 = .ok (.dup, 1) := by decide +kernel
theorem dX10_mark_66 : decode cX10_mark 66 = .ok (.getfield 103, 3) := by decide +kernel
theorem dX10_mark_69 : decode cX10_mark 69 = .ok (.iconst 1, 1) := by decide +kernel
theorem dX10_mark_70 : decode cX10_mark 70 = .ok (.iload_n 1, 1) := by decide +kernel
theorem dX10_mark_71 : decode cX10_mark 71 = .ok (.ishl, 1) := by decide +kernel
theorem dX10_mark_72 : decode cX10_mark 72 = .ok (.ior, 1) := by decide +kernel
theorem dX10_mark_73 : decode cX10_mark 73 = .ok (.putfield 103, 3) := by decide +kernel
theorem dX10_mark_76 : decode cX10_mark 76 = .ok (.iconst 1, 1) := by decide +kernel
theorem dX10_mark_77 : decode cX10_mark 77 = .ok (.ireturn, 1) := by decide +kernel
theorem dX10_count_0 : decode cX10_count 0 = .ok (.iload_n 1, 1) := by decide +kernel
theorem dX10_count_1 : decode cX10_count 1 = .ok (.ifCond .lt 18, 3) := by decide +kernel
theorem dX10_count_4 : decode cX10_count 4 = .ok (.iload_n 1, 1) := by decide +kernel
theorem dX10_count_5 : decode cX10_count 5 = .ok (.iconst 4, 1) := by decide +kernel
theorem dX10_count_6 : decode cX10_count 6 = .ok (.if_icmp .gt 13, 3) := by decide +kernel
theorem dX10_count_9 : decode cX10_count 9 = .ok (.aload_n 0, 1) := by decide +kernel
theorem dX10_count_10 : decode cX10_count 10 = .ok (.getfield 69, 3) := by decide +kernel
theorem dX10_count_13 : decode cX10_count 13 = .ok (.getfield 212, 3) := by decide +kernel
theorem dX10_count_16 : decode cX10_count 16 = .ok (.iload_n 1, 1) := by decide +kernel
theorem dX10_count_17 : decode cX10_count 17 = .ok (.iaload, 1) := by decide +kernel
theorem dX10_count_18 : decode cX10_count 18 = .ok (.ireturn, 1) := by decide +kernel
theorem dX10_count_19 : decode cX10_count 19 = .ok (.iload_n 1, 1) := by decide +kernel
theorem dX10_count_20 : decode cX10_count 20 = .ok (.tableswitch 146 5 13 #[52, 63, 81, 92, 103, 114, 125, 133, 138], 52) := by decide +kernel
theorem dX10_count_72 : decode cX10_count 72 = .ok (.aload_n 0, 1) := by decide +kernel
theorem dX10_count_73 : decode cX10_count 73 = .ok (.getfield 19, 3) := by decide +kernel
theorem dX10_count_76 : decode cX10_count 76 = .ok (.getfield 120, 3) := by decide +kernel
theorem dX10_count_79 : decode cX10_count 79 = .ok (.getfield 289, 3) := by decide +kernel
theorem dX10_count_82 : decode cX10_count 82 = .ok (.ireturn, 1) := by decide +kernel
theorem dX10_count_83 : decode cX10_count 83 = .ok (.aload_n 0, 1) := by decide +kernel
theorem dX10_count_84 : decode cX10_count 84 = .ok (.getfield 69, 3) := by decide +kernel
theorem dX10_count_87 : decode cX10_count 87 = .ok (.aload_n 0, 1) := by decide +kernel
theorem dX10_count_88 : decode cX10_count 88 = .ok (.getfield 19, 3) := by decide +kernel
theorem dX10_count_91 : decode cX10_count 91 = .ok (.getfield 120, 3) := by decide +kernel
theorem dX10_count_94 : decode cX10_count 94 = .ok (.getfield 289, 3) := by decide +kernel
theorem dX10_count_97 : decode cX10_count 97 = .ok (.invokevirtual 292, 3) := by decide +kernel
theorem dX10_count_100 : decode cX10_count 100 = .ok (.ireturn, 1) := by decide +kernel
theorem dX10_count_101 : decode cX10_count 101 = .ok (.aload_n 0, 1) := by decide +kernel
theorem dX10_count_102 : decode cX10_count 102 = .ok (.getfield 19, 3) := by decide +kernel
theorem dX10_count_105 : decode cX10_count 105 = .ok (.getfield 120, 3) := by decide +kernel
theorem dX10_count_108 : decode cX10_count 108 = .ok (.invokevirtual 255, 3) := by decide +kernel
theorem dX10_count_111 : decode cX10_count 111 = .ok (.ireturn, 1) := by decide +kernel
theorem dX10_count_112 : decode cX10_count 112 = .ok (.aload_n 0, 1) := by decide +kernel
theorem dX10_count_113 : decode cX10_count 113 = .ok (.getfield 19, 3) := by decide +kernel
theorem dX10_count_116 : decode cX10_count 116 = .ok (.getfield 120, 3) := by decide +kernel
theorem dX10_count_119 : decode cX10_count 119 = .ok (.invokevirtual 283, 3) := by decide +kernel
theorem dX10_count_122 : decode cX10_count 122 = .ok (.ireturn, 1) := by decide +kernel
theorem dX10_count_123 : decode cX10_count 123 = .ok (.aload_n 0, 1) := by decide +kernel
theorem dX10_count_124 : decode cX10_count 124 = .ok (.getfield 19, 3) := by decide +kernel
theorem dX10_count_127 : decode cX10_count 127 = .ok (.getfield 120, 3) := by decide +kernel
theorem dX10_count_130 : decode cX10_count 130 = .ok (.invokevirtual 196, 3) := by decide +kernel
theorem dX10_count_133 : decode cX10_count 133 = .ok (.ireturn, 1) := by decide +kernel
theorem dX10_count_134 : decode cX10_count 134 = .ok (.aload_n 0, 1) := by decide +kernel
theorem dX10_count_135 : decode cX10_count 135 = .ok (.getfield 19, 3) := by decide +kernel
theorem dX10_count_138 : decode cX10_count 138 = .ok (.getfield 109, 3) := by decide +kernel
theorem dX10_count_141 : decode cX10_count 141 = .ok (.getfield 182, 3) := by decide +kernel
theorem dX10_count_144 : decode cX10_count 144 = .ok (.ireturn, 1) := by decide +kernel
theorem dX10_count_145 : decode cX10_count 145 = .ok (.aload_n 0, 1) := by decide +kernel
theorem dX10_count_146 : decode cX10_count 146 = .ok (.getfield 19, 3) := by decide +kernel
theorem dX10_count_149 : decode cX10_count 149 = .ok (.getfield 168, 3) := by decide +kernel
theorem dX10_count_152 : decode cX10_count 152 = .ok (.ireturn, 1) := by decide +kernel
theorem dX10_count_153 : decode cX10_count 153 = .ok (.aload_n 0, 1) := by decide +kernel
theorem dX10_count_154 : decode cX10_count 154 = .ok (.getfield 100, 3) := by decide +kernel
theorem dX10_count_157 : decode cX10_count 157 = .ok (.ireturn, 1) := by decide +kernel
theorem dX10_count_158 : decode cX10_count 158 = .ok (.aload_n 0, 1) := by decide +kernel
theorem dX10_count_159 : decode cX10_count 159 = .ok (.getfield 10, 3) := by decide +kernel
theorem dX10_count_162 : decode cX10_count 162 = .ok (.getfield 80, 3) := by decide +kernel
theorem dX10_count_165 : decode cX10_count 165 = .ok (.ireturn, 1) := by decide +kernel
theorem dX10_count_166 : decode cX10_count 166 = .ok (.iconst (-1), 1) := by decide +kernel
theorem dX10_count_167 : decode cX10_count 167 = .ok (.ireturn, 1) := by decide +kernel
theorem dX10_isSignOrNone_0 : decode cX10_isSignOrNone 0 = .ok (.iload_n 1, 1) := by decide +kernel
theorem dX10_isSignOrNone_1 : decode cX10_isSignOrNone 1 = .ok (.iconst (-1), 1) := by decide +kernel
theorem dX10_isSignOrNone_2 : decode cX10_isSignOrNone 2 = .ok (.if_icmp .eq 15, 3) := by decide +kernel
theorem dX10_isSignOrNone_5 : decode cX10_isSignOrNone 5 = .ok (.aload_n 0, 1) := by decide +kernel
theorem dX10_isSignOrNone_6 : decode cX10_isSignOrNone 6 = .ok (.getfield 69, 3) := by decide +kernel
theorem dX10_isSignOrNone_9 : decode cX10_isSignOrNone 9 = .ok (.iconst 3, 1) := by decide +kernel
theorem dX10_isSignOrNone_10 : decode cX10_isSignOrNone 10 = .ok (.iload_n 1, 1) := by decide +kernel
theorem dX10_isSignOrNone_11 : decode cX10_isSignOrNone 11 = .ok (.invokevirtual 116, 3) := by decide +kernel
theorem dX10_isSignOrNone_14 : decode cX10_isSignOrNone 14 = .ok (.ifCond .eq 7, 3) := by decide +kernel
theorem dX10_isSignOrNone_17 : decode cX10_isSignOrNone 17 = .ok (.iconst 1, 1) := by decide +kernel
theorem dX10_isSignOrNone_18 : decode cX10_isSignOrNone 18 = .ok (.goto 4, 3) := by decide +kernel
theorem dX10_isSignOrNone_21 : decode cX10_isSignOrNone 21 = .ok (.iconst 0, 1) := by decide +kernel
theorem dX10_isSignOrNone_22 : decode cX10_isSignOrNone 22 = .ok (.ireturn, 1) := by decide +kernel
theorem dX10_canBurn_0 : decode cX10_canBurn 0 = .ok (.aload_n 0, 1) := by decide +kernel
theorem dX10_canBurn_1 : decode cX10_canBurn 1 = .ok (.getfield 69, 3) := by decide +kernel
theorem dX10_canBurn_4 : decode cX10_canBurn 4 = .ok (.iconst 2, 1) := by decide +kernel
theorem dX10_canBurn_5 : decode cX10_canBurn 5 = .ok (.iload_n 1, 1) := by decide +kernel
theorem dX10_canBurn_6 : decode cX10_canBurn 6 = .ok (.invokevirtual 116, 3) := by decide +kernel
theorem dX10_canBurn_9 : decode cX10_canBurn 9 = .ok (.ifCond .eq 34, 3) := by decide +kernel
theorem dX10_canBurn_12 : decode cX10_canBurn 12 = .ok (.aload_n 0, 1) := by decide +kernel
theorem dX10_canBurn_13 : decode cX10_canBurn 13 = .ok (.getfield 69, 3) := by decide +kernel
theorem dX10_canBurn_16 : decode cX10_canBurn 16 = .ok (.iconst 0, 1) := by decide +kernel
theorem dX10_canBurn_17 : decode cX10_canBurn 17 = .ok (.iload_n 2, 1) := by decide +kernel
theorem dX10_canBurn_18 : decode cX10_canBurn 18 = .ok (.invokevirtual 116, 3) := by decide +kernel
theorem dX10_canBurn_21 : decode cX10_canBurn 21 = .ok (.ifCond .eq 22, 3) := by decide +kernel
theorem dX10_canBurn_24 : decode cX10_canBurn 24 = .ok (.aload_n 0, 1) := by decide +kernel
theorem dX10_canBurn_25 : decode cX10_canBurn 25 = .ok (.getfield 19, 3) := by decide +kernel
theorem dX10_canBurn_28 : decode cX10_canBurn 28 = .ok (.getfield 120, 3) := by decide +kernel
theorem dX10_canBurn_31 : decode cX10_canBurn 31 = .ok (.iload_n 1, 1) := by decide +kernel
theorem dX10_canBurn_32 : decode cX10_canBurn 32 = .ok (.iload_n 2, 1) := by decide +kernel
theorem dX10_canBurn_33 : decode cX10_canBurn 33 = .ok (.invokevirtual 295, 3) := by decide +kernel
theorem dX10_canBurn_36 : decode cX10_canBurn 36 = .ok (.ifCond .eq 7, 3) := by decide +kernel
theorem dX10_canBurn_39 : decode cX10_canBurn 39 = .ok (.iconst 1, 1) := by decide +kernel
theorem dX10_canBurn_40 : decode cX10_canBurn 40 = .ok (.goto 4, 3) := by decide +kernel
theorem dX10_canBurn_43 : decode cX10_canBurn 43 = .ok (.iconst 0, 1) := by decide +kernel
theorem dX10_canBurn_44 : decode cX10_canBurn 44 = .ok (.ireturn, 1) := by decide +kernel
theorem dX10_remember_0 : decode cX10_remember 0 = .ok (.aload_n 0, 1) := by decide +kernel
theorem dX10_remember_1 : decode cX10_remember 1 = .ok (.getfield 29, 3) := by decide +kernel
theorem dX10_remember_4 : decode cX10_remember 4 = .ok (.aload_n 0, 1) := by decide +kernel
theorem dX10_remember_5 : decode cX10_remember 5 = .ok (.getfield 175, 3) := by decide +kernel
theorem dX10_remember_8 : decode cX10_remember 8 = .ok (.aaload, 1) := by decide +kernel
theorem dX10_remember_9 : decode cX10_remember 9 = .ok (.aload_n 0, 1) := by decide +kernel
theorem dX10_remember_10 : decode cX10_remember 10 = .ok (.getfield 19, 3) := by decide +kernel
theorem dX10_remember_13 : decode cX10_remember 13 = .ok (.getfield 120, 3) := by decide +kernel
theorem dX10_remember_16 : decode cX10_remember 16 = .ok (.invokevirtual 178, 3) := by decide +kernel
theorem dX10_remember_19 : decode cX10_remember 19 = .ok (.aload_n 0, 1) := by decide +kernel
theorem dX10_remember_20 : decode cX10_remember 20 = .ok (.aload_n 0, 1) := by decide +kernel
theorem dX10_remember_21 : decode cX10_remember 21 = .ok (.getfield 175, 3) := by decide +kernel
theorem dX10_remember_24 : decode cX10_remember 24 = .ok (.iconst 1, 1) := by decide +kernel
theorem dX10_remember_25 : decode cX10_remember 25 = .ok (.iadd, 1) := by decide +kernel
theorem dX10_remember_26 : decode cX10_remember 26 = .ok (.bipush 16, 2) := by decide +kernel
theorem dX10_remember_28 : decode cX10_remember 28 = .ok (.irem, 1) := by decide +kernel
theorem dX10_remember_29 : decode cX10_remember 29 = .ok (.putfield 175, 3) := by decide +kernel
theorem dX10_remember_32 : decode cX10_remember 32 = .ok (.aload_n 0, 1) := by decide +kernel
theorem dX10_remember_33 : decode cX10_remember 33 = .ok (.aload_n 0, 1) := by decide +kernel
theorem dX10_remember_34 : decode cX10_remember 34 = .ok (.getfield 100, 3) := by decide +kernel
theorem dX10_remember_37 : decode cX10_remember 37 = .ok (.iconst 1, 1) := by decide +kernel
theorem dX10_remember_38 : decode cX10_remember 38 = .ok (.iadd, 1) := by decide +kernel
theorem dX10_remember_39 : decode cX10_remember 39 = .ok (.bipush 16, 2) := by decide +kernel
theorem dX10_remember_41 : decode cX10_remember 41 = .ok (.invokestatic 298, 3) := by decide +kernel
theorem dX10_remember_44 : decode cX10_remember 44 = .ok (.putfield 100, 3) := by decide +kernel
theorem dX10_remember_47 : decode cX10_remember 47 = .ok (.return_, 1) := by decide +kernel
theorem dX10_areNeighbours_0 : decode cX10_areNeighbours 0 = .ok (.aload_n 0, 1) := by decide +kernel
theorem dX10_areNeighbours_1 : decode cX10_areNeighbours 1 = .ok (.getfield 69, 3) := by decide +kernel
theorem dX10_areNeighbours_4 : decode cX10_areNeighbours 4 = .ok (.iconst 2, 1) := by decide +kernel
theorem dX10_areNeighbours_5 : decode cX10_areNeighbours 5 = .ok (.iload_n 1, 1) := by decide +kernel
theorem dX10_areNeighbours_6 : decode cX10_areNeighbours 6 = .ok (.invokevirtual 116, 3) := by decide +kernel
theorem dX10_areNeighbours_9 : decode cX10_areNeighbours 9 = .ok (.ifCond .eq 20, 3) := by decide +kernel
theorem dX10_areNeighbours_12 : decode cX10_areNeighbours 12 = .ok (.aload_n 0, 1) := by decide +kernel
theorem dX10_areNeighbours_13 : decode cX10_areNeighbours 13 = .ok (.getfield 69, 3) := by decide +kernel
theorem dX10_areNeighbours_16 : decode cX10_areNeighbours 16 = .ok (.iconst 2, 1) := by decide +kernel
theorem dX10_areNeighbours_17 : decode cX10_areNeighbours 17 = .ok (.iload_n 2, 1) := by decide +kernel
theorem dX10_areNeighbours_18 : decode cX10_areNeighbours 18 = .ok (.invokevirtual 116, 3) := by decide +kernel
theorem dX10_areNeighbours_21 : decode cX10_areNeighbours 21 = .ok (.ifCond .eq 8, 3) := by decide +kernel
theorem dX10_areNeighbours_24 : decode cX10_areNeighbours 24 = .ok (.iload_n 1, 1) := by decide +kernel
theorem dX10_areNeighbours_25 : decode cX10_areNeighbours 25 = .ok (.iload_n 2, 1) := by decide +kernel
theorem dX10_areNeighbours_26 : decode cX10_areNeighbours 26 = .ok (.if_icmp .ne 5, 3) := by decide +kernel
theorem dX10_areNeighbours_29 : decode cX10_areNeighbours 29 = .ok (.iconst 0, 1) := by decide +kernel
theorem dX10_areNeighbours_30 : decode cX10_areNeighbours 30 = .ok (.ireturn, 1) := by decide +kernel
theorem dX10_areNeighbours_31 : decode cX10_areNeighbours 31 = .ok (.aload_n 0, 1) := by decide +kernel
theorem dX10_areNeighbours_32 : decode cX10_areNeighbours 32 = .ok (.getfield 69, 3) := by decide +kernel
theorem dX10_areNeighbours_35 : decode cX10_areNeighbours 35 = .ok (.getfield 123, 3) := by decide +kernel
theorem dX10_areNeighbours_38 : decode cX10_areNeighbours 38 = .ok (.iload_n 1, 1) := by decide +kernel
theorem dX10_areNeighbours_39 : decode cX10_areNeighbours 39 = .ok (.iaload, 1) := by decide +kernel
theorem dX10_areNeighbours_40 : decode cX10_areNeighbours 40 = .ok (.aload_n 0, 1) := by decide +kernel
theorem dX10_areNeighbours_41 : decode cX10_areNeighbours 41 = .ok (.getfield 69, 3) := by decide +kernel
theorem dX10_areNeighbours_44 : decode cX10_areNeighbours 44 = .ok (.getfield 123, 3) := by decide +kernel
theorem dX10_areNeighbours_47 : decode cX10_areNeighbours 47 = .ok (.iload_n 2, 1) := by decide +kernel
theorem dX10_areNeighbours_48 : decode cX10_areNeighbours 48 = .ok (.iaload, 1) := by decide +kernel
theorem dX10_areNeighbours_49 : decode cX10_areNeighbours 49 = .ok (.if_icmp .ne 35, 3) := by decide +kernel
theorem dX10_areNeighbours_52 : decode cX10_areNeighbours 52 = .ok (.aload_n 0, 1) := by decide +kernel
theorem dX10_areNeighbours_53 : decode cX10_areNeighbours 53 = .ok (.getfield 19, 3) := by decide +kernel
theorem dX10_areNeighbours_56 : decode cX10_areNeighbours 56 = .ok (.getfield 120, 3) := by decide +kernel
theorem dX10_areNeighbours_59 : decode cX10_areNeighbours 59 = .ok (.iload_n 1, 1) := by decide +kernel
theorem dX10_areNeighbours_60 : decode cX10_areNeighbours 60 = .ok (.invokevirtual 230, 3) := by decide +kernel
theorem dX10_areNeighbours_63 : decode cX10_areNeighbours 63 = .ok (.ifCond .ne 21, 3) := by decide +kernel
theorem dX10_areNeighbours_66 : decode cX10_areNeighbours 66 = .ok (.aload_n 0, 1) := by decide +kernel
theorem dX10_areNeighbours_67 : decode cX10_areNeighbours 67 = .ok (.getfield 19, 3) := by decide +kernel
theorem dX10_areNeighbours_70 : decode cX10_areNeighbours 70 = .ok (.getfield 120, 3) := by decide +kernel
theorem dX10_areNeighbours_73 : decode cX10_areNeighbours 73 = .ok (.iload_n 2, 1) := by decide +kernel
theorem dX10_areNeighbours_74 : decode cX10_areNeighbours 74 = .ok (.invokevirtual 230, 3) := by decide +kernel
theorem dX10_areNeighbours_77 : decode cX10_areNeighbours 77 = .ok (.ifCond .ne 7, 3) := by decide +kernel
theorem dX10_areNeighbours_80 : decode cX10_areNeighbours 80 = .ok (.iconst 1, 1) := by decide +kernel
theorem dX10_areNeighbours_81 : decode cX10_areNeighbours 81 = .ok (.goto 4, 3) := by decide +kernel
theorem dX10_areNeighbours_84 : decode cX10_areNeighbours 84 = .ok (.iconst 0, 1) := by decide +kernel
theorem dX10_areNeighbours_85 : decode cX10_areNeighbours 85 = .ok (.ireturn, 1) := by decide +kernel
theorem dX10_isContent_0 : decode cX10_isContent 0 = .ok (.aload_n 0, 1) := by decide +kernel
theorem dX10_isContent_1 : decode cX10_isContent 1 = .ok (.iload_n 1, 1) := by decide +kernel
theorem dX10_isContent_2 : decode cX10_isContent 2 = .ok (.iload_n 2, 1) := by decide +kernel
theorem dX10_isContent_3 : decode cX10_isContent 3 = .ok (.invokevirtual 303, 3) := by decide +kernel
theorem dX10_isContent_6 : decode cX10_isContent 6 = .ok (.ifCond .ne 5, 3) := by decide +kernel
theorem dX10_isContent_9 : decode cX10_isContent 9 = .ok (.iconst 0, 1) := by decide +kernel
theorem dX10_isContent_10 : decode cX10_isContent 10 = .ok (.ireturn, 1) := by decide +kernel
theorem dX10_isContent_11 : decode cX10_isContent 11 = .ok (.aload_n 0, 1) := by decide +kernel
theorem dX10_isContent_12 : decode cX10_isContent 12 = .ok (.iload_n 1, 1) := by decide +kernel
theorem dX10_isContent_13 : decode cX10_isContent 13 = .ok (.iload_n 2, 1) := by decide +kernel
theorem dX10_isContent_14 : decode cX10_isContent 14 = .ok (.iload_n 3, 1) := by decide +kernel
theorem dX10_isContent_15 : decode cX10_isContent 15 = .ok (.iload 4, 2) := by decide +kernel
theorem dX10_isContent_17 : decode cX10_isContent 17 = .ok (.iload 5, 2) := by decide +kernel
theorem dX10_isContent_19 : decode cX10_isContent 19 = .ok (.invokevirtual 306, 3) := by decide +kernel
theorem dX10_isContent_22 : decode cX10_isContent 22 = .ok (.istore 6, 2) := by decide +kernel
theorem dX10_isContent_24 : decode cX10_isContent 24 = .ok (.iconst 0, 1) := by decide +kernel
theorem dX10_isContent_25 : decode cX10_isContent 25 = .ok (.istore 7, 2) := by decide +kernel
theorem dX10_isContent_27 : decode cX10_isContent 27 = .ok (.iload 7, 2) := by decide +kernel
theorem dX10_isContent_29 : decode cX10_isContent 29 = .ok (.aload_n 0, 1) := by decide +kernel
theorem dX10_isContent_30 : decode cX10_isContent 30 = .ok (.getfield 69, 3) := by decide +kernel
theorem dX10_isContent_33 : decode cX10_isContent 33 = .ok (.getfield 212, 3) := by decide +kernel
theorem dX10_isContent_36 : decode cX10_isContent 36 = .ok (.iconst 0, 1) := by decide +kernel
theorem dX10_isContent_37 : decode cX10_isContent 37 = .ok (.iaload, 1) := by decide +kernel
theorem dX10_isContent_38 : decode cX10_isContent 38 = .ok (.if_icmp .gt 38, 3) := by decide +kernel
theorem dX10_isContent_41 : decode cX10_isContent 41 = .ok (.aload_n 0, 1) := by decide +kernel
theorem dX10_isContent_42 : decode cX10_isContent 42 = .ok (.iload_n 1, 1) := by decide +kernel
theorem dX10_isContent_43 : decode cX10_isContent 43 = .ok (.iload 7, 2) := by decide +kernel
theorem dX10_isContent_45 : decode cX10_isContent 45 = .ok (.invokevirtual 303, 3) := by decide +kernel
theorem dX10_isContent_48 : decode cX10_isContent 48 = .ok (.ifCond .eq 22, 3) := by decide +kernel
theorem dX10_isContent_51 : decode cX10_isContent 51 = .ok (.aload_n 0, 1) := by decide +kernel
theorem dX10_isContent_52 : decode cX10_isContent 52 = .ok (.iload_n 1, 1) := by decide +kernel
theorem dX10_isContent_53 : decode cX10_isContent 53 = .ok (.iload 7, 2) := by decide +kernel
theorem dX10_isContent_55 : decode cX10_isContent 55 = .ok (.iload_n 3, 1) := by decide +kernel
theorem dX10_isContent_56 : decode cX10_isContent 56 = .ok (.iload 4, 2) := by decide +kernel
theorem dX10_isContent_58 : decode cX10_isContent 58 = .ok (.iload 5, 2) := by decide +kernel
theorem dX10_isContent_60 : decode cX10_isContent 60 = .ok (.invokevirtual 306, 3) := by decide +kernel
theorem dX10_isContent_63 : decode cX10_isContent 63 = .ok (.iload 6, 2) := by decide +kernel
theorem dX10_isContent_65 : decode cX10_isContent 65 = .ok (.if_icmp .le 5, 3) := by decide +kernel
theorem dX10_isContent_68 : decode cX10_isContent 68 = .ok (.iconst 0, 1) := by decide +kernel
theorem dX10_isContent_69 : decode cX10_isContent 69 = .ok (.ireturn, 1) := by decide +kernel
theorem dX10_isContent_70 : decode cX10_isContent 70 = .ok (.iinc 7 1, 3) := by decide +kernel
theorem dX10_isContent_73 : decode cX10_isContent 73 = .ok (.goto (-46), 3) := by decide +kernel
theorem dX10_isContent_76 : decode cX10_isContent 76 = .ok (.iconst 1, 1) := by decide +kernel
theorem dX10_isContent_77 : decode cX10_isContent 77 = .ok (.ireturn, 1) := by decide +kernel
theorem dX10_mayTake_0 : decode cX10_mayTake 0 = .ok (.iload_n 2, 1) := by decide +kernel
theorem dX10_mayTake_1 : decode cX10_mayTake 1 = .ok (.aload_n 0, 1) := by decide +kernel
theorem dX10_mayTake_2 : decode cX10_mayTake 2 = .ok (.getfield 69, 3) := by decide +kernel
theorem dX10_mayTake_5 : decode cX10_mayTake 5 = .ok (.getfield 212, 3) := by decide +kernel
theorem dX10_mayTake_8 : decode cX10_mayTake 8 = .ok (.iconst 0, 1) := by decide +kernel
theorem dX10_mayTake_9 : decode cX10_mayTake 9 = .ok (.iaload, 1) := by decide +kernel
theorem dX10_mayTake_10 : decode cX10_mayTake 10 = .ok (.if_icmp .eq 12, 3) := by decide +kernel
theorem dX10_mayTake_13 : decode cX10_mayTake 13 = .ok (.aload_n 0, 1) := by decide +kernel
theorem dX10_mayTake_14 : decode cX10_mayTake 14 = .ok (.iload_n 1, 1) := by decide +kernel
theorem dX10_mayTake_15 : decode cX10_mayTake 15 = .ok (.iload_n 2, 1) := by decide +kernel
theorem dX10_mayTake_16 : decode cX10_mayTake 16 = .ok (.invokevirtual 151, 3) := by decide +kernel
theorem dX10_mayTake_19 : decode cX10_mayTake 19 = .ok (.ifCond .eq 7, 3) := by decide +kernel
theorem dX10_mayTake_22 : decode cX10_mayTake 22 = .ok (.iconst 1, 1) := by decide +kernel
theorem dX10_mayTake_23 : decode cX10_mayTake 23 = .ok (.goto 4, 3) := by decide +kernel
theorem dX10_mayTake_26 : decode cX10_mayTake 26 = .ok (.iconst 0, 1) := by decide +kernel
theorem dX10_mayTake_27 : decode cX10_mayTake 27 = .ok (.ireturn, 1) := by decide +kernel
theorem dX10_gainOf_0 : decode cX10_gainOf 0 = .ok (.aload_n 0, 1) := by decide +kernel
theorem dX10_gainOf_1 : decode cX10_gainOf 1 = .ok (.aload_n 0, 1) := by decide +kernel
theorem dX10_gainOf_2 : decode cX10_gainOf 2 = .ok (.getfield 69, 3) := by decide +kernel
theorem dX10_gainOf_5 : decode cX10_gainOf 5 = .ok (.getfield 123, 3) := by decide +kernel
theorem dX10_gainOf_8 : decode cX10_gainOf 8 = .ok (.iload_n 1, 1) := by decide +kernel
theorem dX10_gainOf_9 : decode cX10_gainOf 9 = .ok (.iaload, 1) := by decide +kernel
theorem dX10_gainOf_10 : decode cX10_gainOf 10 = .ok (.iload_n 2, 1) := by decide +kernel
theorem dX10_gainOf_11 : decode cX10_gainOf 11 = .ok (.iload_n 3, 1) := by decide +kernel
theorem dX10_gainOf_12 : decode cX10_gainOf 12 = .ok (.invokevirtual 310, 3) := by decide +kernel
theorem dX10_gainOf_15 : decode cX10_gainOf 15 = .ok (.istore 6, 2) := by decide +kernel
theorem dX10_gainOf_17 : decode cX10_gainOf 17 = .ok (.iload 6, 2) := by decide +kernel
theorem dX10_gainOf_19 : decode cX10_gainOf 19 = .ok (.iload 4, 2) := by decide +kernel
theorem dX10_gainOf_21 : decode cX10_gainOf 21 = .ok (.if_icmp .ne 8, 3) := by decide +kernel
theorem dX10_gainOf_24 : decode cX10_gainOf 24 = .ok (.iload 5, 2) := by decide +kernel
theorem dX10_gainOf_26 : decode cX10_gainOf 26 = .ok (.goto 4, 3) := by decide +kernel
theorem dX10_gainOf_29 : decode cX10_gainOf 29 = .ok (.iconst 0, 1) := by decide +kernel
theorem dX10_gainOf_30 : decode cX10_gainOf 30 = .ok (.iload_n 2, 1) := by decide +kernel
theorem dX10_gainOf_31 : decode cX10_gainOf 31 = .ok (.aload_n 0, 1) := by decide +kernel
theorem dX10_gainOf_32 : decode cX10_gainOf 32 = .ok (.getfield 69, 3) := by decide +kernel
theorem dX10_gainOf_35 : decode cX10_gainOf 35 = .ok (.getfield 212, 3) := by decide +kernel
theorem dX10_gainOf_38 : decode cX10_gainOf 38 = .ok (.iconst 0, 1) := by decide +kernel
theorem dX10_gainOf_39 : decode cX10_gainOf 39 = .ok (.iaload, 1) := by decide +kernel
theorem dX10_gainOf_40 : decode cX10_gainOf 40 = .ok (.if_icmp .ge 7, 3) := by decide +kernel
theorem dX10_gainOf_43 : decode cX10_gainOf 43 = .ok (.iconst 1, 1) := by decide +kernel
theorem dX10_gainOf_44 : decode cX10_gainOf 44 = .ok (.goto 4, 3) := by decide +kernel
theorem dX10_gainOf_47 : decode cX10_gainOf 47 = .ok (.iconst 0, 1) := by decide +kernel
theorem dX10_gainOf_48 : decode cX10_gainOf 48 = .ok (.isub, 1) := by decide +kernel
theorem dX10_gainOf_49 : decode cX10_gainOf 49 = .ok (.ireturn, 1) := by decide +kernel
theorem dX10_signWith_0 : decode cX10_signWith 0 = .ok (.aload_n 0, 1) := by decide +kernel
theorem dX10_signWith_1 : decode cX10_signWith 1 = .ok (.getfield 69, 3) := by decide +kernel
theorem dX10_signWith_4 : decode cX10_signWith 4 = .ok (.iload_n 1, 1) := by decide +kernel
theorem dX10_signWith_5 : decode cX10_signWith 5 = .ok (.invokevirtual 136, 3) := by decide +kernel
theorem dX10_signWith_8 : decode cX10_signWith 8 = .ok (.istore 4, 2) := by decide +kernel
theorem dX10_signWith_10 : decode cX10_signWith 10 = .ok (.aload_n 0, 1) := by decide +kernel
theorem dX10_signWith_11 : decode cX10_signWith 11 = .ok (.getfield 69, 3) := by decide +kernel
theorem dX10_signWith_14 : decode cX10_signWith 14 = .ok (.aload_n 0, 1) := by decide +kernel
theorem dX10_signWith_15 : decode cX10_signWith 15 = .ok (.getfield 19, 3) := by decide +kernel
theorem dX10_signWith_18 : decode cX10_signWith 18 = .ok (.getfield 120, 3) := by decide +kernel
theorem dX10_signWith_21 : decode cX10_signWith 21 = .ok (.getfield 289, 3) := by decide +kernel
theorem dX10_signWith_24 : decode cX10_signWith 24 = .ok (.invokevirtual 292, 3) := by decide +kernel
theorem dX10_signWith_27 : decode cX10_signWith 27 = .ok (.istore 5, 2) := by decide +kernel
theorem dX10_signWith_29 : decode cX10_signWith 29 = .ok (.aload_n 0, 1) := by decide +kernel
theorem dX10_signWith_30 : decode cX10_signWith 30 = .ok (.getfield 19, 3) := by decide +kernel
theorem dX10_signWith_33 : decode cX10_signWith 33 = .ok (.getfield 120, 3) := by decide +kernel
theorem dX10_signWith_36 : decode cX10_signWith 36 = .ok (.aload_n 0, 1) := by decide +kernel
theorem dX10_signWith_37 : decode cX10_signWith 37 = .ok (.getfield 69, 3) := by decide +kernel
theorem dX10_signWith_40 : decode cX10_signWith 40 = .ok (.iload 4, 2) := by decide +kernel
theorem dX10_signWith_42 : decode cX10_signWith 42 = .ok (.iconst 0, 1) := by decide +kernel
theorem dX10_signWith_43 : decode cX10_signWith 43 = .ok (.invokevirtual 140, 3) := by decide +kernel
theorem dX10_signWith_46 : decode cX10_signWith 46 = .ok (.istore 6, 2) := by decide +kernel
theorem dX10_signWith_48 : decode cX10_signWith 48 = .ok (.iload 6, 2) := by decide +kernel
theorem dX10_signWith_50 : decode cX10_signWith 50 = .ok (.aload_n 0, 1) := by decide +kernel
theorem dX10_signWith_51 : decode cX10_signWith 51 = .ok (.getfield 69, 3) := by decide +kernel
theorem dX10_signWith_54 : decode cX10_signWith 54 = .ok (.iload_n 2, 1) := by decide +kernel
theorem dX10_signWith_55 : decode cX10_signWith 55 = .ok (.iload 5, 2) := by decide +kernel
theorem dX10_signWith_57 : decode cX10_signWith 57 = .ok (.iconst 0, 1) := by decide +kernel
theorem dX10_signWith_58 : decode cX10_signWith 58 = .ok (.invokevirtual 314, 3) := by decide +kernel
theorem dX10_signWith_61 : decode cX10_signWith 61 = .ok (.aload_n 0, 1) := by decide +kernel
theorem dX10_signWith_62 : decode cX10_signWith 62 = .ok (.getfield 69, 3) := by decide +kernel
theorem dX10_signWith_65 : decode cX10_signWith 65 = .ok (.iload_n 3, 1) := by decide +kernel
theorem dX10_signWith_66 : decode cX10_signWith 66 = .ok (.iload 5, 2) := by decide +kernel
theorem dX10_signWith_68 : decode cX10_signWith 68 = .ok (.iconst 0, 1) := by decide +kernel
theorem dX10_signWith_69 : decode cX10_signWith 69 = .ok (.invokevirtual 314, 3) := by decide +kernel
theorem dX10_signWith_72 : decode cX10_signWith 72 = .ok (.iadd, 1) := by decide +kernel
theorem dX10_signWith_73 : decode cX10_signWith 73 = .ok (.iadd, 1) := by decide +kernel
theorem dX10_signWith_74 : decode cX10_signWith 74 = .ok (.istore 6, 2) := by decide +kernel
theorem dX10_signWith_76 : decode cX10_signWith 76 = .ok (.aload_n 0, 1) := by decide +kernel
theorem dX10_signWith_77 : decode cX10_signWith 77 = .ok (.getfield 19, 3) := by decide +kernel
theorem dX10_signWith_80 : decode cX10_signWith 80 = .ok (.getfield 120, 3) := by decide +kernel
theorem dX10_signWith_83 : decode cX10_signWith 83 = .ok (.aload_n 0, 1) := by decide +kernel
theorem dX10_signWith_84 : decode cX10_signWith 84 = .ok (.getfield 69, 3) := by decide +kernel
theorem dX10_signWith_87 : decode cX10_signWith 87 = .ok (.iload 4, 2) := by decide +kernel
theorem dX10_signWith_89 : decode cX10_signWith 89 = .ok (.iconst 1, 1) := by decide +kernel
theorem dX10_signWith_90 : decode cX10_signWith 90 = .ok (.invokevirtual 140, 3) := by decide +kernel
theorem dX10_signWith_93 : decode cX10_signWith 93 = .ok (.istore 7, 2) := by decide +kernel
theorem dX10_signWith_95 : decode cX10_signWith 95 = .ok (.iload 7, 2) := by decide +kernel
theorem dX10_signWith_97 : decode cX10_signWith 97 = .ok (.aload_n 0, 1) := by decide +kernel
theorem dX10_signWith_98 : decode cX10_signWith 98 = .ok (.getfield 69, 3) := by decide +kernel
theorem dX10_signWith_101 : decode cX10_signWith 101 = .ok (.iload_n 2, 1) := by decide +kernel
theorem dX10_signWith_102 : decode cX10_signWith 102 = .ok (.iload 5, 2) := by decide +kernel
theorem dX10_signWith_104 : decode cX10_signWith 104 = .ok (.iconst 1, 1) := by decide +kernel
theorem dX10_signWith_105 : decode cX10_signWith 105 = .ok (.invokevirtual 314, 3) := by decide +kernel
theorem dX10_signWith_108 : decode cX10_signWith 108 = .ok (.aload_n 0, 1) := by decide +kernel
theorem dX10_signWith_109 : decode cX10_signWith 109 = .ok (.getfield 69, 3) := by decide +kernel
theorem dX10_signWith_112 : decode cX10_signWith 112 = .ok (.iload_n 3, 1) := by decide +kernel
theorem dX10_signWith_113 : decode cX10_signWith 113 = .ok (.iload 5, 2) := by decide +kernel
theorem dX10_signWith_115 : decode cX10_signWith 115 = .ok (.iconst 1, 1) := by decide +kernel
theorem dX10_signWith_116 : decode cX10_signWith 116 = .ok (.invokevirtual 314, 3) := by decide +kernel
theorem dX10_signWith_119 : decode cX10_signWith 119 = .ok (.iadd, 1) := by decide +kernel
theorem dX10_signWith_120 : decode cX10_signWith 120 = .ok (.iadd, 1) := by decide +kernel
theorem dX10_signWith_121 : decode cX10_signWith 121 = .ok (.istore 7, 2) := by decide +kernel
theorem dX10_signWith_123 : decode cX10_signWith 123 = .ok (.aload_n 0, 1) := by decide +kernel
theorem dX10_signWith_124 : decode cX10_signWith 124 = .ok (.getfield 69, 3) := by decide +kernel
theorem dX10_signWith_127 : decode cX10_signWith 127 = .ok (.iload 6, 2) := by decide +kernel
theorem dX10_signWith_129 : decode cX10_signWith 129 = .ok (.iload 7, 2) := by decide +kernel
theorem dX10_signWith_131 : decode cX10_signWith 131 = .ok (.invokevirtual 317, 3) := by decide +kernel
theorem dX10_signWith_134 : decode cX10_signWith 134 = .ok (.ireturn, 1) := by decide +kernel
theorem dX10_dreamBurns_0 : decode cX10_dreamBurns 0 = .ok (.aload_n 0, 1) := by decide +kernel
theorem dX10_dreamBurns_1 : decode cX10_dreamBurns 1 = .ok (.getfield 69, 3) := by decide +kernel
theorem dX10_dreamBurns_4 : decode cX10_dreamBurns 4 = .ok (.getfield 212, 3) := by decide +kernel
theorem dX10_dreamBurns_7 : decode cX10_dreamBurns 7 = .ok (.iconst 0, 1) := by decide +kernel
theorem dX10_dreamBurns_8 : decode cX10_dreamBurns 8 = .ok (.iaload, 1) := by decide +kernel
theorem dX10_dreamBurns_9 : decode cX10_dreamBurns 9 = .ok (.istore_n 3, 1) := by decide +kernel
theorem dX10_dreamBurns_10 : decode cX10_dreamBurns 10 = .ok (.iload_n 3, 1) := by decide +kernel
theorem dX10_dreamBurns_11 : decode cX10_dreamBurns 11 = .ok (.iconst 1, 1) := by decide +kernel
theorem dX10_dreamBurns_12 : decode cX10_dreamBurns 12 = .ok (.if_icmp .ge 5, 3) := by decide +kernel
theorem dX10_dreamBurns_15 : decode cX10_dreamBurns 15 = .ok (.lload_n 1, 1) := by decide +kernel
theorem dX10_dreamBurns_16 : decode cX10_dreamBurns 16 = .ok (.lreturn, 1) := by decide +kernel
theorem dX10_dreamBurns_17 : decode cX10_dreamBurns 17 = .ok (.lload_n 1, 1) := by decide +kernel
theorem dX10_dreamBurns_18 : decode cX10_dreamBurns 18 = .ok (.lstore 4, 2) := by decide +kernel
theorem dX10_dreamBurns_20 : decode cX10_dreamBurns 20 = .ok (.iconst 0, 1) := by decide +kernel
theorem dX10_dreamBurns_21 : decode cX10_dreamBurns 21 = .ok (.istore 6, 2) := by decide +kernel
theorem dX10_dreamBurns_23 : decode cX10_dreamBurns 23 = .ok (.iload 6, 2) := by decide +kernel
theorem dX10_dreamBurns_25 : decode cX10_dreamBurns 25 = .ok (.aload_n 0, 1) := by decide +kernel
theorem dX10_dreamBurns_26 : decode cX10_dreamBurns 26 = .ok (.getfield 69, 3) := by decide +kernel
theorem dX10_dreamBurns_29 : decode cX10_dreamBurns 29 = .ok (.getfield 212, 3) := by decide +kernel
theorem dX10_dreamBurns_32 : decode cX10_dreamBurns 32 = .ok (.iconst 2, 1) := by decide +kernel
theorem dX10_dreamBurns_33 : decode cX10_dreamBurns 33 = .ok (.iaload, 1) := by decide +kernel
theorem dX10_dreamBurns_34 : decode cX10_dreamBurns 34 = .ok (.if_icmp .ge 61, 3) := by decide +kernel
theorem dX10_dreamBurns_37 : decode cX10_dreamBurns 37 = .ok (.lload 4, 2) := by decide +kernel
theorem dX10_dreamBurns_39 : decode cX10_dreamBurns 39 = .ok (.ldc2_w 320, 3) := by decide +kernel
theorem dX10_dreamBurns_42 : decode cX10_dreamBurns 42 = .ok (.lmul, 1) := by decide +kernel
theorem dX10_dreamBurns_43 : decode cX10_dreamBurns 43 = .ok (.ldc2_w 322, 3) := by decide +kernel
theorem dX10_dreamBurns_46 : decode cX10_dreamBurns 46 = .ok (.ladd, 1) := by decide +kernel
theorem dX10_dreamBurns_47 : decode cX10_dreamBurns 47 = .ok (.ldc2_w 324, 3) := by decide +kernel
theorem dX10_dreamBurns_50 : decode cX10_dreamBurns 50 = .ok (.lrem, 1) := by decide +kernel
theorem dX10_dreamBurns_51 : decode cX10_dreamBurns 51 = .ok (.lstore 4, 2) := by decide +kernel
theorem dX10_dreamBurns_53 : decode cX10_dreamBurns 53 = .ok (.lload 4, 2) := by decide +kernel
theorem dX10_dreamBurns_55 : decode cX10_dreamBurns 55 = .ok (.ldc2_w 326, 3) := by decide +kernel
theorem dX10_dreamBurns_58 : decode cX10_dreamBurns 58 = .ok (.ldiv, 1) := by decide +kernel
theorem dX10_dreamBurns_59 : decode cX10_dreamBurns 59 = .ok (.iload_n 3, 1) := by decide +kernel
theorem dX10_dreamBurns_60 : decode cX10_dreamBurns 60 = .ok (.iconst 1, 1) := by decide +kernel
theorem dX10_dreamBurns_61 : decode cX10_dreamBurns 61 = .ok (.iadd, 1) := by decide +kernel
theorem dX10_dreamBurns_62 : decode cX10_dreamBurns 62 = .ok (.i2l, 1) := by decide +kernel
theorem dX10_dreamBurns_63 : decode cX10_dreamBurns 63 = .ok (.lrem, 1) := by decide +kernel
theorem dX10_dreamBurns_64 : decode cX10_dreamBurns 64 = .ok (.l2i, 1) := by decide +kernel
theorem dX10_dreamBurns_65 : decode cX10_dreamBurns 65 = .ok (.istore 7, 2) := by decide +kernel
theorem dX10_dreamBurns_67 : decode cX10_dreamBurns 67 = .ok (.iload 7, 2) := by decide +kernel
theorem dX10_dreamBurns_69 : decode cX10_dreamBurns 69 = .ok (.iload_n 3, 1) := by decide +kernel
theorem dX10_dreamBurns_70 : decode cX10_dreamBurns 70 = .ok (.if_icmp .ge 19, 3) := by decide +kernel
theorem dX10_dreamBurns_73 : decode cX10_dreamBurns 73 = .ok (.aload_n 0, 1) := by decide +kernel
theorem dX10_dreamBurns_74 : decode cX10_dreamBurns 74 = .ok (.getfield 34, 3) := by decide +kernel
theorem dX10_dreamBurns_77 : decode cX10_dreamBurns 77 = .ok (.aload_n 0, 1) := by decide +kernel
theorem dX10_dreamBurns_78 : decode cX10_dreamBurns 78 = .ok (.getfield 69, 3) := by decide +kernel
theorem dX10_dreamBurns_81 : decode cX10_dreamBurns 81 = .ok (.iload 6, 2) := by decide +kernel
theorem dX10_dreamBurns_83 : decode cX10_dreamBurns 83 = .ok (.iload 7, 2) := by decide +kernel
theorem dX10_dreamBurns_85 : decode cX10_dreamBurns 85 = .ok (.invokevirtual 157, 3) := by decide +kernel
theorem dX10_dreamBurns_88 : decode cX10_dreamBurns 88 = .ok (.pop, 1) := by decide +kernel
theorem dX10_dreamBurns_89 : decode cX10_dreamBurns 89 = .ok (.iinc 6 1, 3) := by decide +kernel
theorem dX10_dreamBurns_92 : decode cX10_dreamBurns 92 = .ok (.goto (-69), 3) := by decide +kernel
theorem dX10_dreamBurns_95 : decode cX10_dreamBurns 95 = .ok (.lload 4, 2) := by decide +kernel
theorem dX10_dreamBurns_97 : decode cX10_dreamBurns 97 = .ok (.lreturn, 1) := by decide +kernel
theorem dX10_within_0 : decode cX10_within 0 = .ok (.iconst 0, 1) := by decide +kernel
theorem dX10_within_1 : decode cX10_within 1 = .ok (.iload_n 0, 1) := by decide +kernel
theorem dX10_within_2 : decode cX10_within 2 = .ok (.iload_n 1, 1) := by decide +kernel
theorem dX10_within_3 : decode cX10_within 3 = .ok (.invokestatic 298, 3) := by decide +kernel
theorem dX10_within_6 : decode cX10_within 6 = .ok (.invokestatic 328, 3) := by decide +kernel
theorem dX10_within_9 : decode cX10_within 9 = .ok (.ireturn, 1) := by decide +kernel
theorem dX11_init_0 : decode cX11_init 0 = .ok (.aload_n 0, 1) := by decide +kernel
theorem dX11_init_1 : decode cX11_init 1 = .ok (.invokespecial 1, 3) := by decide +kernel
theorem dX11_init_4 : decode cX11_init 4 = .ok (.aload_n 0, 1) := by decide +kernel
theorem dX11_init_5 : decode cX11_init 5 = .ok (.sipush 1000, 3) := by decide +kernel
theorem dX11_init_8 : decode cX11_init 8 = .ok (.newarray .int, 2) := by decide +kernel
theorem dX11_init_10 : decode cX11_init 10 = .ok (.putfield 7, 3) := by decide +kernel
theorem dX11_init_13 : decode cX11_init 13 = .ok (.aload_n 0, 1) := by decide +kernel
theorem dX11_init_14 : decode cX11_init 14 = .ok (.bipush 12, 2) := by decide +kernel
theorem dX11_init_16 : decode cX11_init 16 = .ok (.newarray .int, 2) := by decide +kernel
theorem dX11_init_18 : decode cX11_init 18 = .ok (.putfield 13, 3) := by decide +kernel
theorem dX11_init_21 : decode cX11_init 21 = .ok (.aload_n 0, 1) := by decide +kernel
theorem dX11_init_22 : decode cX11_init 22 = .ok (.bipush 44, 2) := by decide +kernel
theorem dX11_init_24 : decode cX11_init 24 = .ok (.newarray .long, 2) := by decide +kernel
theorem dX11_init_26 : decode cX11_init 26 = .ok (.putfield 16, 3) := by decide +kernel
theorem dX11_init_29 : decode cX11_init 29 = .ok (.aload_n 0, 1) := by decide +kernel
theorem dX11_init_30 : decode cX11_init 30 = .ok (.bipush 10, 2) := by decide +kernel
theorem dX11_init_32 : decode cX11_init 32 = .ok (.newarray .int, 2) := by decide +kernel
theorem dX11_init_34 : decode cX11_init 34 = .ok (.putfield 20, 3) := by decide +kernel
theorem dX11_init_37 : decode cX11_init 37 = .ok (.aload_n 0, 1) := by decide +kernel
theorem dX11_init_38 : decode cX11_init 38 = .ok (.bipush 10, 2) := by decide +kernel
theorem dX11_init_40 : decode cX11_init 40 = .ok (.newarray .int, 2) := by decide +kernel
theorem dX11_init_42 : decode cX11_init 42 = .ok (.putfield 23, 3) := by decide +kernel
theorem dX11_init_45 : decode cX11_init 45 = .ok (.aload_n 0, 1) := by decide +kernel
theorem dX11_init_46 : decode cX11_init 46 = .ok (.bipush 10, 2) := by decide +kernel
theorem dX11_init_48 : decode cX11_init 48 = .ok (.newarray .int, 2) := by decide +kernel
theorem dX11_init_50 : decode cX11_init 50 = .ok (.putfield 26, 3) := by decide +kernel
theorem dX11_init_53 : decode cX11_init 53 = .ok (.aload_n 0, 1) := by decide +kernel
theorem dX11_init_54 : decode cX11_init 54 = .ok (.bipush 8, 2) := by decide +kernel
theorem dX11_init_56 : decode cX11_init 56 = .ok (.newarray .int, 2) := by decide +kernel
theorem dX11_init_58 : decode cX11_init 58 = .ok (.putfield 29, 3) := by decide +kernel
theorem dX11_init_61 : decode cX11_init 61 = .ok (.aload_n 0, 1) := by decide +kernel
theorem dX11_init_62 : decode cX11_init 62 = .ok (.bipush 40, 2) := by decide +kernel
theorem dX11_init_64 : decode cX11_init 64 = .ok (.newarray .int, 2) := by decide +kernel
theorem dX11_init_66 : decode cX11_init 66 = .ok (.putfield 32, 3) := by decide +kernel
theorem dX11_init_69 : decode cX11_init 69 = .ok (.aload_n 0, 1) := by decide +kernel
theorem dX11_init_70 : decode cX11_init 70 = .ok (.bipush 48, 2) := by decide +kernel
theorem dX11_init_72 : decode cX11_init 72 = .ok (.newarray .int, 2) := by decide +kernel
theorem dX11_init_74 : decode cX11_init 74 = .ok (.putfield 35, 3) := by decide +kernel
theorem dX11_init_77 : decode cX11_init 77 = .ok (.aload_n 0, 1) := by decide +kernel
theorem dX11_init_78 : decode cX11_init 78 = .ok (.bipush 8, 2) := by decide +kernel
theorem dX11_init_80 : decode cX11_init 80 = .ok (.newarray .int, 2) := by decide +kernel
theorem dX11_init_82 : decode cX11_init 82 = .ok (.putfield 38, 3) := by decide +kernel
theorem dX11_init_85 : decode cX11_init 85 = .ok (.aload_n 0, 1) := by decide +kernel
theorem dX11_init_86 : decode cX11_init 86 = .ok (.bipush 24, 2) := by decide +kernel
theorem dX11_init_88 : decode cX11_init 88 = .ok (.newarray .int, 2) := by decide +kernel
theorem dX11_init_90 : decode cX11_init 90 = .ok (.putfield 41, 3) := by decide +kernel
theorem dX11_init_93 : decode cX11_init 93 = .ok (.aload_n 0, 1) := by decide +kernel
theorem dX11_init_94 : decode cX11_init 94 = .ok (.iconst 4, 1) := by decide +kernel
theorem dX11_init_95 : decode cX11_init 95 = .ok (.newarray .int, 2) := by decide +kernel
theorem dX11_init_97 : decode cX11_init 97 = .ok (.putfield 44, 3) := by decide +kernel
theorem dX11_init_100 : decode cX11_init 100 = .ok (.aload_n 0, 1) := by decide +kernel
theorem dX11_init_101 : decode cX11_init 101 = .ok (.iconst 4, 1) := by decide +kernel
theorem dX11_init_102 : decode cX11_init 102 = .ok (.newarray .int, 2) := by decide +kernel
theorem dX11_init_104 : decode cX11_init 104 = .ok (.putfield 47, 3) := by decide +kernel
theorem dX11_init_107 : decode cX11_init 107 = .ok (.aload_n 0, 1) := by decide +kernel
theorem dX11_init_108 : decode cX11_init 108 = .ok (.sipush 2000, 3) := by decide +kernel
theorem dX11_init_111 : decode cX11_init 111 = .ok (.newarray .int, 2) := by decide +kernel
theorem dX11_init_113 : decode cX11_init 113 = .ok (.putfield 50, 3) := by decide +kernel
theorem dX11_init_116 : decode cX11_init 116 = .ok (.aload_n 0, 1) := by decide +kernel
theorem dX11_init_117 : decode cX11_init 117 = .ok (.bipush 7, 2) := by decide +kernel
theorem dX11_init_119 : decode cX11_init 119 = .ok (.newarray .int, 2) := by decide +kernel
theorem dX11_init_121 : decode cX11_init 121 = .ok (.putfield 53, 3) := by decide +kernel
theorem dX11_init_124 : decode cX11_init 124 = .ok (.aload_n 0, 1) := by decide +kernel
theorem dX11_init_125 : decode cX11_init 125 = .ok (.bipush 7, 2) := by decide +kernel
theorem dX11_init_127 : decode cX11_init 127 = .ok (.newarray .boolean, 2) := by decide +kernel
theorem dX11_init_129 : decode cX11_init 129 = .ok (.putfield 56, 3) := by decide +kernel
theorem dX11_init_132 : decode cX11_init 132 = .ok (.aload_n 0, 1) := by decide +kernel
theorem dX11_init_133 : decode cX11_init 133 = .ok (.bipush 7, 2) := by decide +kernel
theorem dX11_init_135 : decode cX11_init 135 = .ok (.newarray .int, 2) := by decide +kernel
theorem dX11_init_137 : decode cX11_init 137 = .ok (.putfield 60, 3) := by decide +kernel
theorem dX11_init_140 : decode cX11_init 140 = .ok (.aload_n 0, 1) := by decide +kernel
theorem dX11_init_141 : decode cX11_init 141 = .ok (.bipush 7, 2) := by decide +kernel
theorem dX11_init_143 : decode cX11_init 143 = .ok (.newarray .int, 2) := by decide +kernel
theorem dX11_init_145 : decode cX11_init 145 = .ok (.putfield 63, 3) := by decide +kernel
theorem dX11_init_148 : decode cX11_init 148 = .ok (.aload_n 0, 1) := by decide +kernel
theorem dX11_init_149 : decode cX11_init 149 = .ok (.bipush 7, 2) := by decide +kernel
theorem dX11_init_151 : decode cX11_init 151 = .ok (.newarray .int, 2) := by decide +kernel
theorem dX11_init_153 : decode cX11_init 153 = .ok (.putfield 66, 3) := by decide +kernel
theorem dX11_init_156 : decode cX11_init 156 = .ok (.aload_n 0, 1) := by decide +kernel
theorem dX11_init_157 : decode cX11_init 157 = .ok (.bipush 7, 2) := by decide +kernel
theorem dX11_init_159 : decode cX11_init 159 = .ok (.newarray .int, 2) := by decide +kernel
theorem dX11_init_161 : decode cX11_init 161 = .ok (.putfield 69, 3) := by decide +kernel
theorem dX11_init_164 : decode cX11_init 164 = .ok (.aload_n 0, 1) := by decide +kernel
theorem dX11_init_165 : decode cX11_init 165 = .ok (.bipush 7, 2) := by decide +kernel
theorem dX11_init_167 : decode cX11_init 167 = .ok (.newarray .int, 2) := by decide +kernel
theorem dX11_init_169 : decode cX11_init 169 = .ok (.putfield 72, 3) := by decide +kernel
theorem dX11_init_172 : decode cX11_init 172 = .ok (.aload_n 0, 1) := by decide +kernel
theorem dX11_init_173 : decode cX11_init 173 = .ok (.bipush 7, 2) := by decide +kernel
theorem dX11_init_175 : decode cX11_init 175 = .ok (.newarray .int, 2) := by decide +kernel
theorem dX11_init_177 : decode cX11_init 177 = .ok (.putfield 75, 3) := by decide +kernel
theorem dX11_init_180 : decode cX11_init 180 = .ok (.aload_n 0, 1) := by decide +kernel
theorem dX11_init_181 : decode cX11_init 181 = .ok (.bipush 7, 2) := by decide +kernel
theorem dX11_init_183 : decode cX11_init 183 = .ok (.newarray .int, 2) := by decide +kernel
theorem dX11_init_185 : decode cX11_init 185 = .ok (.putfield 78, 3) := by decide +kernel
theorem dX11_init_188 : decode cX11_init 188 = .ok (.aload_n 0, 1) := by decide +kernel
theorem dX11_init_189 : decode cX11_init 189 = .ok (.bipush 7, 2) := by decide +kernel
theorem dX11_init_191 : decode cX11_init 191 = .ok (.newarray .int, 2) := by decide +kernel
theorem dX11_init_193 : decode cX11_init 193 = .ok (.putfield 81, 3) := by decide +kernel
theorem dX11_init_196 : decode cX11_init 196 = .ok (.aload_n 0, 1) := by decide +kernel
theorem dX11_init_197 : decode cX11_init 197 = .ok (.bipush 7, 2) := by decide +kernel
theorem dX11_init_199 : decode cX11_init 199 = .ok (.newarray .int, 2) := by decide +kernel
theorem dX11_init_201 : decode cX11_init 201 = .ok (.putfield 84, 3) := by decide +kernel
theorem dX11_init_204 : decode cX11_init 204 = .ok (.aload_n 0, 1) := by decide +kernel
theorem dX11_init_205 : decode cX11_init 205 = .ok (.bipush 20, 2) := by decide +kernel
theorem dX11_init_207 : decode cX11_init 207 = .ok (.newarray .int, 2) := by decide +kernel
theorem dX11_init_209 : decode cX11_init 209 = .ok (.putfield 87, 3) := by decide +kernel
theorem dX11_init_212 : decode cX11_init 212 = .ok (.aload_n 0, 1) := by decide +kernel
theorem dX11_init_213 : decode cX11_init 213 = .ok (.bipush 6, 2) := by decide +kernel
theorem dX11_init_215 : decode cX11_init 215 = .ok (.newarray .int, 2) := by decide +kernel
theorem dX11_init_217 : decode cX11_init 217 = .ok (.putfield 90, 3) := by decide +kernel
theorem dX11_init_220 : decode cX11_init 220 = .ok (.aload_n 0, 1) := by decide +kernel
theorem dX11_init_221 : decode cX11_init 221 = .ok (.sipush 240, 3) := by decide +kernel
theorem dX11_init_224 : decode cX11_init 224 = .ok (.newarray .int, 2) := by decide +kernel
theorem dX11_init_226 : decode cX11_init 226 = .ok (.putfield 93, 3) := by decide +kernel
theorem dX11_init_229 : decode cX11_init 229 = .ok (.aload_n 0, 1) := by decide +kernel
theorem dX11_init_230 : decode cX11_init 230 = .ok (.sipush 240, 3) := by decide +kernel
theorem dX11_init_233 : decode cX11_init 233 = .ok (.newarray .int, 2) := by decide +kernel
theorem dX11_init_235 : decode cX11_init 235 = .ok (.putfield 96, 3) := by decide +kernel
theorem dX11_init_238 : decode cX11_init 238 = .ok (.aload_n 0, 1) := by decide +kernel
theorem dX11_init_239 : decode cX11_init 239 = .ok (.sipush 240, 3) := by decide +kernel
theorem dX11_init_242 : decode cX11_init 242 = .ok (.newarray .int, 2) := by decide +kernel
theorem dX11_init_244 : decode cX11_init 244 = .ok (.putfield 99, 3) := by decide +kernel
theorem dX11_init_247 : decode cX11_init 247 = .ok (.aload_n 0, 1) := by decide +kernel
theorem dX11_init_248 : decode cX11_init 248 = .ok (.sipush 240, 3) := by decide +kernel
theorem dX11_init_251 : decode cX11_init 251 = .ok (.newarray .int, 2) := by decide +kernel
theorem dX11_init_253 : decode cX11_init 253 = .ok (.putfield 102, 3) := by decide +kernel
theorem dX11_init_256 : decode cX11_init 256 = .ok (.aload_n 0, 1) := by decide +kernel
theorem dX11_init_257 : decode cX11_init 257 = .ok (.sipush 240, 3) := by decide +kernel
theorem dX11_init_260 : decode cX11_init 260 = .ok (.newarray .int, 2) := by decide +kernel
theorem dX11_init_262 : decode cX11_init 262 = .ok (.putfield 105, 3) := by decide +kernel
theorem dX11_init_265 : decode cX11_init 265 = .ok (.aload_n 0, 1) := by decide +kernel
theorem dX11_init_266 : decode cX11_init 266 = .ok (.iconst 5, 1) := by decide +kernel
theorem dX11_init_267 : decode cX11_init 267 = .ok (.newarray .int, 2) := by decide +kernel
theorem dX11_init_269 : decode cX11_init 269 = .ok (.putfield 108, 3) := by decide +kernel
theorem dX11_init_272 : decode cX11_init 272 = .ok (.aload_n 0, 1) := by decide +kernel
theorem dX11_init_273 : decode cX11_init 273 = .ok (.bipush 40, 2) := by decide +kernel
theorem dX11_init_275 : decode cX11_init 275 = .ok (.newarray .int, 2) := by decide +kernel
theorem dX11_init_277 : decode cX11_init 277 = .ok (.putfield 111, 3) := by decide +kernel
theorem dX11_init_280 : decode cX11_init 280 = .ok (.aload_n 0, 1) := by decide +kernel
theorem dX11_init_281 : decode cX11_init 281 = .ok (.bipush 40, 2) := by decide +kernel
theorem dX11_init_283 : decode cX11_init 283 = .ok (.newarray .int, 2) := by decide +kernel
theorem dX11_init_285 : decode cX11_init 285 = .ok (.putfield 114, 3) := by decide +kernel
theorem dX11_init_288 : decode cX11_init 288 = .ok (.aload_n 0, 1) := by decide +kernel
theorem dX11_init_289 : decode cX11_init 289 = .ok (.bipush 40, 2) := by decide +kernel
theorem dX11_init_291 : decode cX11_init 291 = .ok (.newarray .int, 2) := by decide +kernel
theorem dX11_init_293 : decode cX11_init 293 = .ok (.putfield 117, 3) := by decide +kernel
theorem dX11_init_296 : decode cX11_init 296 = .ok (.aload_n 0, 1) := by decide +kernel
theorem dX11_init_297 : decode cX11_init 297 = .ok (.bipush 32, 2) := by decide +kernel
theorem dX11_init_299 : decode cX11_init 299 = .ok (.newarray .int, 2) := by decide +kernel
theorem dX11_init_301 : decode cX11_init 301 = .ok (.putfield 120, 3) := by decide +kernel
theorem dX11_init_304 : decode cX11_init 304 = .ok (.aload_n 0, 1) := by decide +kernel
theorem dX11_init_305 : decode cX11_init 305 = .ok (.bipush 32, 2) := by decide +kernel
theorem dX11_init_307 : decode cX11_init 307 = .ok (.newarray .int, 2) := by decide +kernel
theorem dX11_init_309 : decode cX11_init 309 = .ok (.putfield 123, 3) := by decide +kernel
theorem dX11_init_312 : decode cX11_init 312 = .ok (.aload_n 0, 1) := by decide +kernel
theorem dX11_init_313 : decode cX11_init 313 = .ok (.sipush 128, 3) := by decide +kernel
theorem dX11_init_316 : decode cX11_init 316 = .ok (.newarray .int, 2) := by decide +kernel
theorem dX11_init_318 : decode cX11_init 318 = .ok (.putfield 126, 3) := by decide +kernel
theorem dX11_init_321 : decode cX11_init 321 = .ok (.aload_n 0, 1) := by decide +kernel
theorem dX11_init_322 : decode cX11_init 322 = .ok (.sipush 512, 3) := by decide +kernel
theorem dX11_init_325 : decode cX11_init 325 = .ok (.newarray .int, 2) := by decide +kernel
theorem dX11_init_327 : decode cX11_init 327 = .ok (.putfield 129, 3) := by decide +kernel
theorem dX11_init_330 : decode cX11_init 330 = .ok (.aload_n 0, 1) := by decide +kernel
theorem dX11_init_331 : decode cX11_init 331 = .ok (.iconst 4, 1) := by decide +kernel
theorem dX11_init_332 : decode cX11_init 332 = .ok (.newarray .boolean, 2) := by decide +kernel
theorem dX11_init_334 : decode cX11_init 334 = .ok (.putfield 132, 3) := by decide +kernel
theorem dX11_init_337 : decode cX11_init 337 = .ok (.aload_n 0, 1) := by decide +kernel
theorem dX11_init_338 : decode cX11_init 338 = .ok (.iconst 4, 1) := by decide +kernel
theorem dX11_init_339 : decode cX11_init 339 = .ok (.newarray .int, 2) := by decide +kernel
theorem dX11_init_341 : decode cX11_init 341 = .ok (.putfield 135, 3) := by decide +kernel
theorem dX11_init_344 : decode cX11_init 344 = .ok (.aload_n 0, 1) := by decide +kernel
theorem dX11_init_345 : decode cX11_init 345 = .ok (.iconst 4, 1) := by decide +kernel
theorem dX11_init_346 : decode cX11_init 346 = .ok (.newarray .int, 2) := by decide +kernel
theorem dX11_init_348 : decode cX11_init 348 = .ok (.putfield 138, 3) := by decide +kernel
theorem dX11_init_351 : decode cX11_init 351 = .ok (.aload_n 0, 1) := by decide +kernel
theorem dX11_init_352 : decode cX11_init 352 = .ok (.iconst 4, 1) := by decide +kernel
theorem dX11_init_353 : decode cX11_init 353 = .ok (.newarray .int, 2) := by decide +kernel
theorem dX11_init_355 : decode cX11_init 355 = .ok (.putfield 141, 3) := by decide +kernel
theorem dX11_init_358 : decode cX11_init 358 = .ok (.aload_n 0, 1) := by decide +kernel
theorem dX11_init_359 : decode cX11_init 359 = .ok (.bipush 32, 2) := by decide +kernel
theorem dX11_init_361 : decode cX11_init 361 = .ok (.newarray .int, 2) := by decide +kernel
theorem dX11_init_363 : decode cX11_init 363 = .ok (.putfield 144, 3) := by decide +kernel
theorem dX11_init_366 : decode cX11_init 366 = .ok (.aload_n 0, 1) := by decide +kernel
theorem dX11_init_367 : decode cX11_init 367 = .ok (.iconst 4, 1) := by decide +kernel
theorem dX11_init_368 : decode cX11_init 368 = .ok (.newarray .int, 2) := by decide +kernel
theorem dX11_init_370 : decode cX11_init 370 = .ok (.putfield 147, 3) := by decide +kernel
theorem dX11_init_373 : decode cX11_init 373 = .ok (.aload_n 0, 1) := by decide +kernel
theorem dX11_init_374 : decode cX11_init 374 = .ok (.sipush 1001, 3) := by decide +kernel
theorem dX11_init_377 : decode cX11_init 377 = .ok (.newarray .int, 2) := by decide +kernel
theorem dX11_init_379 : decode cX11_init 379 = .ok (.putfield 150, 3) := by decide +kernel
theorem dX11_init_382 : decode cX11_init 382 = .ok (.aload_n 0, 1) := by decide +kernel
theorem dX11_init_383 : decode cX11_init 383 = .ok (.invokevirtual 153, 3) := by decide +kernel
theorem dX11_init_386 : decode cX11_init 386 = .ok (.return_, 1) := by decide +kernel
theorem dX11_thrown_0 : decode cX11_thrown 0 = .ok (.aload_n 0, 1) := by decide +kernel
theorem dX11_thrown_1 : decode cX11_thrown 1 = .ok (.getfield 156, 3) := by decide +kernel
theorem dX11_thrown_4 : decode cX11_thrown 4 = .ok (.ireturn, 1) := by decide +kernel
theorem dX11_within_0 : decode cX11_within 0 = .ok (.iload_n 0, 1) := by decide +kernel
theorem dX11_within_1 : decode cX11_within 1 = .ok (.iload_n 1, 1) := by decide +kernel
theorem dX11_within_2 : decode cX11_within 2 = .ok (.if_icmp .lt 12, 3) := by decide +kernel
theorem dX11_within_5 : decode cX11_within 5 = .ok (.iload_n 0, 1) := by decide +kernel
theorem dX11_within_6 : decode cX11_within 6 = .ok (.iload_n 2, 1) := by decide +kernel
theorem dX11_within_7 : decode cX11_within 7 = .ok (.if_icmp .gt 7, 3) := by decide +kernel
theorem dX11_within_10 : decode cX11_within 10 = .ok (.iconst 1, 1) := by decide +kernel
theorem dX11_within_11 : decode cX11_within 11 = .ok (.goto 4, 3) := by decide +kernel
theorem dX11_within_14 : decode cX11_within 14 = .ok (.iconst 0, 1) := by decide +kernel
theorem dX11_within_15 : decode cX11_within 15 = .ok (.ireturn, 1) := by decide +kernel
theorem dX11_between_0 : decode cX11_between 0 = .ok (.iload_n 0, 1) := by decide +kernel
theorem dX11_between_1 : decode cX11_between 1 = .ok (.iload_n 1, 1) := by decide +kernel
theorem dX11_between_2 : decode cX11_between 2 = .ok (.if_icmp .ge 7, 3) := by decide +kernel
theorem dX11_between_5 : decode cX11_between 5 = .ok (.iload_n 1, 1) := by decide +kernel
theorem dX11_between_6 : decode cX11_between 6 = .ok (.goto 13, 3) := by decide +kernel
theorem dX11_between_9 : decode cX11_between 9 = .ok (.iload_n 0, 1) := by decide +kernel
theorem dX11_between_10 : decode cX11_between 10 = .ok (.iload_n 2, 1) := by decide +kernel
theorem dX11_between_11 : decode cX11_between 11 = .ok (.if_icmp .le 7, 3) := by decide +kernel
theorem dX11_between_14 : decode cX11_between 14 = .ok (.iload_n 2, 1) := by decide +kernel
theorem dX11_between_15 : decode cX11_between 15 = .ok (.goto 4, 3) := by decide +kernel
theorem dX11_between_18 : decode cX11_between 18 = .ok (.iload_n 0, 1) := by decide +kernel
theorem dX11_between_19 : decode cX11_between 19 = .ok (.ireturn, 1) := by decide +kernel
theorem dX11_feed_0 : decode cX11_feed 0 = .ok (.aload_n 0, 1) := by decide +kernel
theorem dX11_feed_1 : decode cX11_feed 1 = .ok (.iconst 0, 1) := by decide +kernel
theorem dX11_feed_2 : decode cX11_feed 2 = .ok (.putfield 156, 3) := by decide +kernel
theorem dX11_feed_5 : decode cX11_feed 5 = .ok (.iconst 0, 1) := by decide +kernel
theorem dX11_feed_6 : decode cX11_feed 6 = .ok (.istore 7, 2) := by decide +kernel
theorem dX11_feed_8 : decode cX11_feed 8 = .ok (.iload 7, 2) := by decide +kernel
theorem dX11_feed_10 : decode cX11_feed 10 = .ok (.bipush 24, 2) := by decide +kernel
theorem dX11_feed_12 : decode cX11_feed 12 = .ok (.if_icmp .ge 108, 3) := by decide +kernel
theorem dX11_feed_15 : decode cX11_feed 15 = .ok (.iload 7, 2) := by decide +kernel
theorem dX11_feed_17 : decode cX11_feed 17 = .ok (.bipush 8, 2) := by decide +kernel
theorem dX11_feed_19 : decode cX11_feed 19 = .ok (.if_icmp .ge 7, 3) := by decide +kernel
theorem dX11_feed_22 : decode cX11_feed 22 = .ok (.lload_n 1, 1) := by decide +kernel
theorem dX11_feed_23 : decode cX11_feed 23 = .ok (.goto 16, 3) := by decide +kernel
theorem dX11_feed_26 : decode cX11_feed 26 = .ok (.iload 7, 2) := by decide +kernel
theorem dX11_feed_28 : decode cX11_feed 28 = .ok (.bipush 16, 2) := by decide +kernel
theorem dX11_feed_30 : decode cX11_feed 30 = .ok (.if_icmp .ge 7, 3) := by decide +kernel
theorem dX11_feed_33 : decode cX11_feed 33 = .ok (.lload_n 3, 1) := by decide +kernel
theorem dX11_feed_34 : decode cX11_feed 34 = .ok (.goto 5, 3) := by decide +kernel
theorem dX11_feed_37 : decode cX11_feed 37 = .ok (.lload 5, 2) := by decide +kernel
theorem dX11_feed_39 : decode cX11_feed 39 = .ok (.lstore 8, 2) := by decide +kernel
theorem dX11_feed_41 : decode cX11_feed 41 = .ok (.lload 8, 2) := by decide +kernel
theorem dX11_feed_43 : decode cX11_feed 43 = .ok (.bipush 56, 2) := by decide +kernel
theorem dX11_feed_45 : decode cX11_feed 45 = .ok (.bipush 8, 2) := by decide +kernel
theorem dX11_feed_47 : decode cX11_feed 47 = .ok (.iload 7, 2) := by decide +kernel
theorem dX11_feed_49 : decode cX11_feed 49 = .ok (.bipush 7, 2) := by decide +kernel
theorem dX11_feed_51 : decode cX11_feed 51 = .ok (.iand, 1) := by decide +kernel
theorem dX11_feed_52 : decode cX11_feed 52 = .ok (.imul, 1) := by decide +kernel
theorem dX11_feed_53 : decode cX11_feed 53 = .ok (.isub, 1) := by decide +kernel
theorem dX11_feed_54 : decode cX11_feed 54 = .ok (.lushr, 1) := by decide +kernel
theorem dX11_feed_55 : decode cX11_feed 55 = .ok (.ldc2_w 160, 3) := by decide +kernel
theorem dX11_feed_58 : decode cX11_feed 58 = .ok (.land, 1) := by decide +kernel
theorem dX11_feed_59 : decode cX11_feed 59 = .ok (.l2i, 1) := by decide +kernel
theorem dX11_feed_60 : decode cX11_feed 60 = .ok (.istore 10, 2) := by decide +kernel
theorem dX11_feed_62 : decode cX11_feed 62 = .ok (.aload_n 0, 1) := by decide +kernel
theorem dX11_feed_63 : decode cX11_feed 63 = .ok (.getfield 162, 3) := by decide +kernel
theorem dX11_feed_66 : decode cX11_feed 66 = .ok (.sipush 1000, 3) := by decide +kernel
theorem dX11_feed_69 : decode cX11_feed 69 = .ok (.if_icmp .ge 45, 3) := by decide +kernel
theorem dX11_feed_72 : decode cX11_feed 72 = .ok (.iload 10, 2) := by decide +kernel
theorem dX11_feed_74 : decode cX11_feed 74 = .ok (.bipush 10, 2) := by decide +kernel
theorem dX11_feed_76 : decode cX11_feed 76 = .ok (.if_icmp .eq 17, 3) := by decide +kernel
theorem dX11_feed_79 : decode cX11_feed 79 = .ok (.iload 10, 2) := by decide +kernel
theorem dX11_feed_81 : decode cX11_feed 81 = .ok (.bipush 32, 2) := by decide +kernel
theorem dX11_feed_83 : decode cX11_feed 83 = .ok (.if_icmp .lt 31, 3) := by decide +kernel
theorem dX11_feed_86 : decode cX11_feed 86 = .ok (.iload 10, 2) := by decide +kernel
theorem dX11_feed_88 : decode cX11_feed 88 = .ok (.bipush 126, 2) := by decide +kernel
theorem dX11_feed_90 : decode cX11_feed 90 = .ok (.if_icmp .gt 24, 3) := by decide +kernel
theorem dX11_feed_93 : decode cX11_feed 93 = .ok (.aload_n 0, 1) := by decide +kernel
theorem dX11_feed_94 : decode cX11_feed 94 = .ok (.getfield 7, 3) := by decide +kernel
theorem dX11_feed_97 : decode cX11_feed 97 = .ok (.aload_n 0, 1) := by decide +kernel
theorem dX11_feed_98 : decode cX11_feed 98 = .ok (.getfield 162, 3) := by decide +kernel
theorem dX11_feed_101 : decode cX11_feed 101 = .ok (.iload 10, 2) := by decide +kernel
theorem dX11_feed_103 : decode cX11_feed 103 = .ok (.iastore, 1) := by decide +kernel
theorem dX11_feed_104 : decode cX11_feed 104 = .ok (.aload_n 0, 1) := by decide +kernel
theorem dX11_feed_105 : decode cX11_feed 105 = .ok (.dup, 1) := by decide +kernel
theorem dX11_feed_106 : decode cX11_feed 106 = .ok (.getfield 162, 3) := by decide +kernel
theorem dX11_feed_109 : decode cX11_feed 109 = .ok (.iconst 1, 1) := by decide +kernel
theorem dX11_feed_110 : decode cX11_feed 110 = .ok (.iadd, 1) := by decide +kernel
theorem dX11_feed_111 : decode cX11_feed 111 = .ok (.putfield 162, 3) := by decide +kernel
theorem dX11_feed_114 : decode cX11_feed 114 = .ok (.iinc 7 1, 3) := by decide +kernel
theorem dX11_feed_117 : decode cX11_feed 117 = .ok (.goto (-109), 3) := by decide +kernel
theorem dX11_feed_120 : decode cX11_feed 120 = .ok (.aload_n 0, 1) := by decide +kernel
theorem dX11_feed_121 : decode cX11_feed 121 = .ok (.getfield 162, 3) := by decide +kernel
theorem dX11_feed_124 : decode cX11_feed 124 = .ok (.ireturn, 1) := by decide +kernel
theorem dX11_signAt_0 : decode cX11_signAt 0 = .ok (.iload_n 1, 1) := by decide +kernel
theorem dX11_signAt_1 : decode cX11_signAt 1 = .ok (.aload_n 0, 1) := by decide +kernel
theorem dX11_signAt_2 : decode cX11_signAt 2 = .ok (.getfield 165, 3) := by decide +kernel
theorem dX11_signAt_5 : decode cX11_signAt 5 = .ok (.if_icmp .ge 12, 3) := by decide +kernel
theorem dX11_signAt_8 : decode cX11_signAt 8 = .ok (.aload_n 0, 1) := by decide +kernel
theorem dX11_signAt_9 : decode cX11_signAt 9 = .ok (.getfield 7, 3) := by decide +kernel
theorem dX11_signAt_12 : decode cX11_signAt 12 = .ok (.iload_n 1, 1) := by decide +kernel
theorem dX11_signAt_13 : decode cX11_signAt 13 = .ok (.iaload, 1) := by decide +kernel
theorem dX11_signAt_14 : decode cX11_signAt 14 = .ok (.goto 4, 3) := by decide +kernel
theorem dX11_signAt_17 : decode cX11_signAt 17 = .ok (.iconst 0, 1) := by decide +kernel
theorem dX11_signAt_18 : decode cX11_signAt 18 = .ok (.ireturn, 1) := by decide +kernel
theorem dX11_nextToken_0 : decode cX11_nextToken 0 = .ok (.aload_n 0, 1) := by decide +kernel
theorem dX11_nextToken_1 : decode cX11_nextToken 1 = .ok (.getfield 168, 3) := by decide +kernel
theorem dX11_nextToken_4 : decode cX11_nextToken 4 = .ok (.aload_n 0, 1) := by decide +kernel
theorem dX11_nextToken_5 : decode cX11_nextToken 5 = .ok (.getfield 165, 3) := by decide +kernel
theorem dX11_nextToken_8 : decode cX11_nextToken 8 = .ok (.if_icmp .ge 44, 3) := by decide +kernel
theorem dX11_nextToken_11 : decode cX11_nextToken 11 = .ok (.aload_n 0, 1) := by decide +kernel
theorem dX11_nextToken_12 : decode cX11_nextToken 12 = .ok (.getfield 7, 3) := by decide +kernel
theorem dX11_nextToken_15 : decode cX11_nextToken 15 = .ok (.aload_n 0, 1) := by decide +kernel
theorem dX11_nextToken_16 : decode cX11_nextToken 16 = .ok (.getfield 168, 3) := by decide +kernel
theorem dX11_nextToken_19 : decode cX11_nextToken 19 = .ok (.iaload, 1) := by decide +kernel
theorem dX11_nextToken_20 : decode cX11_nextToken 20 = .ok (.bipush 32, 2) := by decide +kernel
theorem dX11_nextToken_22 : decode cX11_nextToken 22 = .ok (.if_icmp .eq 17, 3) := by decide +kernel
theorem dX11_nextToken_25 : decode cX11_nextToken 25 = .ok (.aload_n 0, 1) := by decide +kernel
theorem dX11_nextToken_26 : decode cX11_nextToken 26 = .ok (.getfield 7, 3) := by decide +kernel
theorem dX11_nextToken_29 : decode cX11_nextToken 29 = .ok (.aload_n 0, 1) := by decide +kernel
theorem dX11_nextToken_30 : decode cX11_nextToken 30 = .ok (.getfield 168, 3) := by decide +kernel
theorem dX11_nextToken_33 : decode cX11_nextToken 33 = .ok (.iaload, 1) := by decide +kernel
theorem dX11_nextToken_34 : decode cX11_nextToken 34 = .ok (.bipush 10, 2) := by decide +kernel
theorem dX11_nextToken_36 : decode cX11_nextToken 36 = .ok (.if_icmp .ne 16, 3) := by decide +kernel
theorem dX11_nextToken_39 : decode cX11_nextToken 39 = .ok (.aload_n 0, 1) := by decide +kernel
theorem dX11_nextToken_40 : decode cX11_nextToken 40 = .ok (.dup, 1) := by decide +kernel
theorem dX11_nextToken_41 : decode cX11_nextToken 41 = .ok (.getfield 168, 3) := by decide +kernel
theorem dX11_nextToken_44 : decode cX11_nextToken 44 = .ok (.iconst 1, 1) := by decide +kernel
theorem dX11_nextToken_45 : decode cX11_nextToken 45 = .ok (.iadd, 1) := by decide +kernel
theorem dX11_nextToken_46 : decode cX11_nextToken 46 = .ok (.putfield 168, 3) := by decide +kernel
theorem dX11_nextToken_49 : decode cX11_nextToken 49 = .ok (.goto (-49), 3) := by decide +kernel
theorem dX11_nextToken_52 : decode cX11_nextToken 52 = .ok (.aload_n 0, 1) := by decide +kernel
theorem dX11_nextToken_53 : decode cX11_nextToken 53 = .ok (.aload_n 0, 1) := by decide +kernel
theorem dX11_nextToken_54 : decode cX11_nextToken 54 = .ok (.getfield 168, 3) := by decide +kernel
theorem dX11_nextToken_57 : decode cX11_nextToken 57 = .ok (.putfield 171, 3) := by decide +kernel
theorem dX11_nextToken_60 : decode cX11_nextToken 60 = .ok (.aload_n 0, 1) := by decide +kernel
theorem dX11_nextToken_61 : decode cX11_nextToken 61 = .ok (.lconst 0, 1) := by decide +kernel
theorem dX11_nextToken_62 : decode cX11_nextToken 62 = .ok (.putfield 174, 3) := by decide +kernel
theorem dX11_nextToken_65 : decode cX11_nextToken 65 = .ok (.aload_n 0, 1) := by decide +kernel
theorem dX11_nextToken_66 : decode cX11_nextToken 66 = .ok (.iconst 0, 1) := by decide +kernel
theorem dX11_nextToken_67 : decode cX11_nextToken 67 = .ok (.putfield 178, 3) := by decide +kernel
theorem dX11_nextToken_70 : decode cX11_nextToken 70 = .ok (.aload_n 0, 1) := by decide +kernel
theorem dX11_nextToken_71 : decode cX11_nextToken 71 = .ok (.getfield 168, 3) := by decide +kernel
theorem dX11_nextToken_74 : decode cX11_nextToken 74 = .ok (.aload_n 0, 1) := by decide +kernel
theorem dX11_nextToken_75 : decode cX11_nextToken 75 = .ok (.getfield 165, 3) := by decide +kernel
theorem dX11_nextToken_78 : decode cX11_nextToken 78 = .ok (.if_icmp .ne 9, 3) := by decide +kernel
theorem dX11_nextToken_81 : decode cX11_nextToken 81 = .ok (.aload_n 0, 1) := by decide +kernel
theorem dX11_nextToken_82 : decode cX11_nextToken 82 = .ok (.iconst 0, 1) := by decide +kernel
theorem dX11_nextToken_83 : decode cX11_nextToken 83 = .ok (.putfield 181, 3) := by decide +kernel
theorem dX11_nextToken_86 : decode cX11_nextToken 86 = .ok (.return_, 1) := by decide +kernel
theorem dX11_nextToken_87 : decode cX11_nextToken 87 = .ok (.aload_n 0, 1) := by decide +kernel
theorem dX11_nextToken_88 : decode cX11_nextToken 88 = .ok (.getfield 7, 3) := by decide +kernel
theorem dX11_nextToken_91 : decode cX11_nextToken 91 = .ok (.aload_n 0, 1) := by decide +kernel
theorem dX11_nextToken_92 : decode cX11_nextToken 92 = .ok (.getfield 168, 3) := by decide +kernel
theorem dX11_nextToken_95 : decode cX11_nextToken 95 = .ok (.iaload, 1) := by decide +kernel
theorem dX11_nextToken_96 : decode cX11_nextToken 96 = .ok (.istore_n 1, 1) := by decide +kernel
theorem dX11_nextToken_97 : decode cX11_nextToken 97 = .ok (.iload_n 1, 1) := by decide +kernel
theorem dX11_nextToken_98 : decode cX11_nextToken 98 = .ok (.bipush 97, 2) := by decide +kernel
theorem dX11_nextToken_100 : decode cX11_nextToken 100 = .ok (.if_icmp .lt 112, 3) := by decide +kernel
theorem dX11_nextToken_103 : decode cX11_nextToken 103 = .ok (.iload_n 1, 1) := by decide +kernel
theorem dX11_nextToken_104 : decode cX11_nextToken 104 = .ok (.bipush 122, 2) := by decide +kernel
theorem dX11_nextToken_106 : decode cX11_nextToken 106 = .ok (.if_icmp .gt 106, 3) := by decide +kernel
theorem dX11_nextToken_109 : decode cX11_nextToken 109 = .ok (.aload_n 0, 1) := by decide +kernel
theorem dX11_nextToken_110 : decode cX11_nextToken 110 = .ok (.aload_n 0, 1) := by decide +kernel
theorem dX11_nextToken_111 : decode cX11_nextToken 111 = .ok (.getfield 168, 3) := by decide +kernel
theorem dX11_nextToken_114 : decode cX11_nextToken 114 = .ok (.invokevirtual 184, 3) := by decide +kernel
theorem dX11_nextToken_117 : decode cX11_nextToken 117 = .ok (.bipush 97, 2) := by decide +kernel
theorem dX11_nextToken_119 : decode cX11_nextToken 119 = .ok (.if_icmp .lt 69, 3) := by decide +kernel
theorem dX11_nextToken_122 : decode cX11_nextToken 122 = .ok (.aload_n 0, 1) := by decide +kernel
theorem dX11_nextToken_123 : decode cX11_nextToken 123 = .ok (.aload_n 0, 1) := by decide +kernel
theorem dX11_nextToken_124 : decode cX11_nextToken 124 = .ok (.getfield 168, 3) := by decide +kernel
theorem dX11_nextToken_127 : decode cX11_nextToken 127 = .ok (.invokevirtual 184, 3) := by decide +kernel
theorem dX11_nextToken_130 : decode cX11_nextToken 130 = .ok (.bipush 122, 2) := by decide +kernel
theorem dX11_nextToken_132 : decode cX11_nextToken 132 = .ok (.if_icmp .gt 56, 3) := by decide +kernel
theorem dX11_nextToken_135 : decode cX11_nextToken 135 = .ok (.aload_n 0, 1) := by decide +kernel
theorem dX11_nextToken_136 : decode cX11_nextToken 136 = .ok (.getfield 168, 3) := by decide +kernel
theorem dX11_nextToken_139 : decode cX11_nextToken 139 = .ok (.aload_n 0, 1) := by decide +kernel
theorem dX11_nextToken_140 : decode cX11_nextToken 140 = .ok (.getfield 171, 3) := by decide +kernel
theorem dX11_nextToken_143 : decode cX11_nextToken 143 = .ok (.isub, 1) := by decide +kernel
theorem dX11_nextToken_144 : decode cX11_nextToken 144 = .ok (.bipush 8, 2) := by decide +kernel
theorem dX11_nextToken_146 : decode cX11_nextToken 146 = .ok (.if_icmp .ge 29, 3) := by decide +kernel
theorem dX11_nextToken_149 : decode cX11_nextToken 149 = .ok (.aload_n 0, 1) := by decide +kernel
theorem dX11_nextToken_150 : decode cX11_nextToken 150 = .ok (.aload_n 0, 1) := by decide +kernel
theorem dX11_nextToken_151 : decode cX11_nextToken 151 = .ok (.getfield 174, 3) := by decide +kernel
theorem dX11_nextToken_154 : decode cX11_nextToken 154 = .ok (.ldc2_w 188, 3) := by decide +kernel
theorem dX11_nextToken_157 : decode cX11_nextToken 157 = .ok (.lmul, 1) := by decide +kernel
theorem dX11_nextToken_158 : decode cX11_nextToken 158 = .ok (.aload_n 0, 1) := by decide +kernel
theorem dX11_nextToken_159 : decode cX11_nextToken 159 = .ok (.aload_n 0, 1) := by decide +kernel
theorem dX11_nextToken_160 : decode cX11_nextToken 160 = .ok (.getfield 168, 3) := by decide +kernel
theorem dX11_nextToken_163 : decode cX11_nextToken 163 = .ok (.invokevirtual 184, 3) := by decide +kernel
theorem dX11_nextToken_166 : decode cX11_nextToken 166 = .ok (.i2l, 1) := by decide +kernel
theorem dX11_nextToken_167 : decode cX11_nextToken 167 = .ok (.ladd, 1) := by decide +kernel
theorem dX11_nextToken_168 : decode cX11_nextToken 168 = .ok (.ldc2_w 190, 3) := by decide +kernel
theorem dX11_nextToken_171 : decode cX11_nextToken 171 = .ok (.lsub, 1) := by decide +kernel
theorem dX11_nextToken_172 : decode cX11_nextToken 172 = .ok (.putfield 174, 3) := by decide +kernel
theorem dX11_nextToken_175 : decode cX11_nextToken 175 = .ok (.aload_n 0, 1) := by decide +kernel
theorem dX11_nextToken_176 : decode cX11_nextToken 176 = .ok (.dup, 1) := by decide +kernel
theorem dX11_nextToken_177 : decode cX11_nextToken 177 = .ok (.getfield 168, 3) := by decide +kernel
theorem dX11_nextToken_180 : decode cX11_nextToken 180 = .ok (.iconst 1, 1) := by decide +kernel
theorem dX11_nextToken_181 : decode cX11_nextToken 181 = .ok (.iadd, 1) := by decide +kernel
theorem dX11_nextToken_182 : decode cX11_nextToken 182 = .ok (.putfield 168, 3) := by decide +kernel
theorem dX11_nextToken_185 : decode cX11_nextToken 185 = .ok (.goto (-76), 3) := by decide +kernel
theorem dX11_nextToken_188 : decode cX11_nextToken 188 = .ok (.aload_n 0, 1) := by decide +kernel
theorem dX11_nextToken_189 : decode cX11_nextToken 189 = .ok (.aload_n 0, 1) := by decide +kernel
theorem dX11_nextToken_190 : decode cX11_nextToken 190 = .ok (.getfield 168, 3) := by decide +kernel
theorem dX11_nextToken_193 : decode cX11_nextToken 193 = .ok (.aload_n 0, 1) := by decide +kernel
theorem dX11_nextToken_194 : decode cX11_nextToken 194 = .ok (.getfield 171, 3) := by decide +kernel
theorem dX11_nextToken_197 : decode cX11_nextToken 197 = .ok (.isub, 1) := by decide +kernel
theorem dX11_nextToken_198 : decode cX11_nextToken 198 = .ok (.bipush 8, 2) := by decide +kernel
theorem dX11_nextToken_200 : decode cX11_nextToken 200 = .ok (.if_icmp .le 7, 3) := by decide +kernel
theorem dX11_nextToken_203 : decode cX11_nextToken 203 = .ok (.iconst 4, 1) := by decide +kernel
theorem dX11_nextToken_204 : decode cX11_nextToken 204 = .ok (.goto 4, 3) := by decide +kernel
theorem dX11_nextToken_207 : decode cX11_nextToken 207 = .ok (.iconst 1, 1) := by decide +kernel
theorem dX11_nextToken_208 : decode cX11_nextToken 208 = .ok (.putfield 181, 3) := by decide +kernel
theorem dX11_nextToken_211 : decode cX11_nextToken 211 = .ok (.return_, 1) := by decide +kernel
theorem dX11_nextToken_212 : decode cX11_nextToken 212 = .ok (.iload_n 1, 1) := by decide +kernel
theorem dX11_nextToken_213 : decode cX11_nextToken 213 = .ok (.bipush 48, 2) := by decide +kernel
theorem dX11_nextToken_215 : decode cX11_nextToken 215 = .ok (.if_icmp .lt 107, 3) := by decide +kernel
theorem dX11_nextToken_218 : decode cX11_nextToken 218 = .ok (.iload_n 1, 1) := by decide +kernel
theorem dX11_nextToken_219 : decode cX11_nextToken 219 = .ok (.bipush 57, 2) := by decide +kernel
theorem dX11_nextToken_221 : decode cX11_nextToken 221 = .ok (.if_icmp .gt 101, 3) := by decide +kernel
theorem dX11_nextToken_224 : decode cX11_nextToken 224 = .ok (.aload_n 0, 1) := by decide +kernel
theorem dX11_nextToken_225 : decode cX11_nextToken 225 = .ok (.aload_n 0, 1) := by decide +kernel
theorem dX11_nextToken_226 : decode cX11_nextToken 226 = .ok (.getfield 168, 3) := by decide +kernel
theorem dX11_nextToken_229 : decode cX11_nextToken 229 = .ok (.invokevirtual 184, 3) := by decide +kernel
theorem dX11_nextToken_232 : decode cX11_nextToken 232 = .ok (.bipush 48, 2) := by decide +kernel
theorem dX11_nextToken_234 : decode cX11_nextToken 234 = .ok (.if_icmp .lt 65, 3) := by decide +kernel
theorem dX11_nextToken_237 : decode cX11_nextToken 237 = .ok (.aload_n 0, 1) := by decide +kernel
theorem dX11_nextToken_238 : decode cX11_nextToken 238 = .ok (.aload_n 0, 1) := by decide +kernel
theorem dX11_nextToken_239 : decode cX11_nextToken 239 = .ok (.getfield 168, 3) := by decide +kernel
theorem dX11_nextToken_242 : decode cX11_nextToken 242 = .ok (.invokevirtual 184, 3) := by decide +kernel
theorem dX11_nextToken_245 : decode cX11_nextToken 245 = .ok (.bipush 57, 2) := by decide +kernel
theorem dX11_nextToken_247 : decode cX11_nextToken 247 = .ok (.if_icmp .gt 52, 3) := by decide +kernel
theorem dX11_nextToken_250 : decode cX11_nextToken 250 = .ok (.aload_n 0, 1) := by decide +kernel
theorem dX11_nextToken_251 : decode cX11_nextToken 251 = .ok (.getfield 168, 3) := by decide +kernel
theorem dX11_nextToken_254 : decode cX11_nextToken 254 = .ok (.aload_n 0, 1) := by decide +kernel
theorem dX11_nextToken_255 : decode cX11_nextToken 255 = .ok (.getfield 171, 3) := by decide +kernel
theorem dX11_nextToken_258 : decode cX11_nextToken 258 = .ok (.isub, 1) := by decide +kernel
theorem dX11_nextToken_259 : decode cX11_nextToken 259 = .ok (.iconst 4, 1) := by decide +kernel
theorem dX11_nextToken_260 : decode cX11_nextToken 260 = .ok (.if_icmp .ge 26, 3) := by decide +kernel
theorem dX11_nextToken_263 : decode cX11_nextToken 263 = .ok (.aload_n 0, 1) := by decide +kernel
theorem dX11_nextToken_264 : decode cX11_nextToken 264 = .ok (.aload_n 0, 1) := by decide +kernel
theorem dX11_nextToken_265 : decode cX11_nextToken 265 = .ok (.getfield 178, 3) := by decide +kernel
theorem dX11_nextToken_268 : decode cX11_nextToken 268 = .ok (.bipush 10, 2) := by decide +kernel
theorem dX11_nextToken_270 : decode cX11_nextToken 270 = .ok (.imul, 1) := by decide +kernel
theorem dX11_nextToken_271 : decode cX11_nextToken 271 = .ok (.aload_n 0, 1) := by decide +kernel
theorem dX11_nextToken_272 : decode cX11_nextToken 272 = .ok (.aload_n 0, 1) := by decide +kernel
theorem dX11_nextToken_273 : decode cX11_nextToken 273 = .ok (.getfield 168, 3) := by decide +kernel
theorem dX11_nextToken_276 : decode cX11_nextToken 276 = .ok (.invokevirtual 184, 3) := by decide +kernel
theorem dX11_nextToken_279 : decode cX11_nextToken 279 = .ok (.iadd, 1) := by decide +kernel
theorem dX11_nextToken_280 : decode cX11_nextToken 280 = .ok (.bipush 48, 2) := by decide +kernel
theorem dX11_nextToken_282 : decode cX11_nextToken 282 = .ok (.isub, 1) := by decide +kernel
theorem dX11_nextToken_283 : decode cX11_nextToken 283 = .ok (.putfield 178, 3) := by decide +kernel
theorem dX11_nextToken_286 : decode cX11_nextToken 286 = .ok (.aload_n 0, 1) := by decide +kernel
theorem dX11_nextToken_287 : decode cX11_nextToken 287 = .ok (.dup, 1) := by decide +kernel
theorem dX11_nextToken_288 : decode cX11_nextToken 288 = .ok (.getfield 168, 3) := by decide +kernel
theorem dX11_nextToken_291 : decode cX11_nextToken 291 = .ok (.iconst 1, 1) := by decide +kernel
theorem dX11_nextToken_292 : decode cX11_nextToken 292 = .ok (.iadd, 1) := by decide +kernel
theorem dX11_nextToken_293 : decode cX11_nextToken 293 = .ok (.putfield 168, 3) := by decide +kernel
theorem dX11_nextToken_296 : decode cX11_nextToken 296 = .ok (.goto (-72), 3) := by decide +kernel
theorem dX11_nextToken_299 : decode cX11_nextToken 299 = .ok (.aload_n 0, 1) := by decide +kernel
theorem dX11_nextToken_300 : decode cX11_nextToken 300 = .ok (.aload_n 0, 1) := by decide +kernel
theorem dX11_nextToken_301 : decode cX11_nextToken 301 = .ok (.getfield 168, 3) := by decide +kernel
theorem dX11_nextToken_304 : decode cX11_nextToken 304 = .ok (.aload_n 0, 1) := by decide +kernel
theorem dX11_nextToken_305 : decode cX11_nextToken 305 = .ok (.getfield 171, 3) := by decide +kernel
theorem dX11_nextToken_308 : decode cX11_nextToken 308 = .ok (.isub, 1) := by decide +kernel
theorem dX11_nextToken_309 : decode cX11_nextToken 309 = .ok (.iconst 4, 1) := by decide +kernel
theorem dX11_nextToken_310 : decode cX11_nextToken 310 = .ok (.if_icmp .le 7, 3) := by decide +kernel
theorem dX11_nextToken_313 : decode cX11_nextToken 313 = .ok (.iconst 4, 1) := by decide +kernel
theorem dX11_nextToken_314 : decode cX11_nextToken 314 = .ok (.goto 4, 3) := by decide +kernel
theorem dX11_nextToken_317 : decode cX11_nextToken 317 = .ok (.iconst 2, 1) := by decide +kernel
theorem dX11_nextToken_318 : decode cX11_nextToken 318 = .ok (.putfield 181, 3) := by decide +kernel
theorem dX11_nextToken_321 : decode cX11_nextToken 321 = .ok (.return_, 1) := by decide +kernel
theorem dX11_nextToken_322 : decode cX11_nextToken 322 = .ok (.aload_n 0, 1) := by decide +kernel
theorem dX11_nextToken_323 : decode cX11_nextToken 323 = .ok (.dup, 1) := by decide +kernel
theorem dX11_nextToken_324 : decode cX11_nextToken 324 = .ok (.getfield 168, 3) := by decide +kernel
theorem dX11_nextToken_327 : decode cX11_nextToken 327 = .ok (.iconst 1, 1) := by decide +kernel
theorem dX11_nextToken_328 : decode cX11_nextToken 328 = .ok (.iadd, 1) := by decide +kernel
theorem dX11_nextToken_329 : decode cX11_nextToken 329 = .ok (.putfield 168, 3) := by decide +kernel
theorem dX11_nextToken_332 : decode cX11_nextToken 332 = .ok (.aload_n 0, 1) := by decide +kernel
theorem dX11_nextToken_333 : decode cX11_nextToken 333 = .ok (.iload_n 1, 1) := by decide +kernel
theorem dX11_nextToken_334 : decode cX11_nextToken 334 = .ok (.bipush 40, 2) := by decide +kernel
theorem dX11_nextToken_336 : decode cX11_nextToken 336 = .ok (.if_icmp .lt 9, 3) := by decide +kernel
theorem dX11_nextToken_339 : decode cX11_nextToken 339 = .ok (.iload_n 1, 1) := by decide +kernel
theorem dX11_nextToken_340 : decode cX11_nextToken 340 = .ok (.bipush 43, 2) := by decide +kernel
theorem dX11_nextToken_342 : decode cX11_nextToken 342 = .ok (.if_icmp .le 21, 3) := by decide +kernel
theorem dX11_nextToken_345 : decode cX11_nextToken 345 = .ok (.iload_n 1, 1) := by decide +kernel
theorem dX11_nextToken_346 : decode cX11_nextToken 346 = .ok (.bipush 45, 2) := by decide +kernel
theorem dX11_nextToken_348 : decode cX11_nextToken 348 = .ok (.if_icmp .eq 15, 3) := by decide +kernel
theorem dX11_nextToken_351 : decode cX11_nextToken 351 = .ok (.iload_n 1, 1) := by decide +kernel
theorem dX11_nextToken_352 : decode cX11_nextToken 352 = .ok (.bipush 59, 2) := by decide +kernel
theorem dX11_nextToken_354 : decode cX11_nextToken 354 = .ok (.if_icmp .lt 13, 3) := by decide +kernel
theorem dX11_nextToken_357 : decode cX11_nextToken 357 = .ok (.iload_n 1, 1) := by decide +kernel
theorem dX11_nextToken_358 : decode cX11_nextToken 358 = .ok (.bipush 61, 2) := by decide +kernel
theorem dX11_nextToken_360 : decode cX11_nextToken 360 = .ok (.if_icmp .gt 7, 3) := by decide +kernel
theorem dX11_nextToken_363 : decode cX11_nextToken 363 = .ok (.iconst 3, 1) := by decide +kernel
theorem dX11_nextToken_364 : decode cX11_nextToken 364 = .ok (.goto 4, 3) := by decide +kernel
theorem dX11_nextToken_367 : decode cX11_nextToken 367 = .ok (.iconst 4, 1) := by decide +kernel
theorem dX11_nextToken_368 : decode cX11_nextToken 368 = .ok (.putfield 181, 3) := by decide +kernel
theorem dX11_nextToken_371 : decode cX11_nextToken 371 = .ok (.return_, 1) := by decide +kernel
theorem dX11_isWord_0 : decode cX11_isWord 0 = .ok (.aload_n 0, 1) := by decide +kernel
theorem dX11_isWord_1 : decode cX11_isWord 1 = .ok (.getfield 181, 3) := by decide +kernel
theorem dX11_isWord_4 : decode cX11_isWord 4 = .ok (.iconst 1, 1) := by decide +kernel
theorem dX11_isWord_5 : decode cX11_isWord 5 = .ok (.if_icmp .ne 16, 3) := by decide +kernel
theorem dX11_isWord_8 : decode cX11_isWord 8 = .ok (.aload_n 0, 1) := by decide +kernel
theorem dX11_isWord_9 : decode cX11_isWord 9 = .ok (.getfield 174, 3) := by decide +kernel
theorem dX11_isWord_12 : decode cX11_isWord 12 = .ok (.lload_n 1, 1) := by decide +kernel
theorem dX11_isWord_13 : decode cX11_isWord 13 = .ok (.lcmp, 1) := by decide +kernel
theorem dX11_isWord_14 : decode cX11_isWord 14 = .ok (.ifCond .ne 7, 3) := by decide +kernel
theorem dX11_isWord_17 : decode cX11_isWord 17 = .ok (.iconst 1, 1) := by decide +kernel
theorem dX11_isWord_18 : decode cX11_isWord 18 = .ok (.goto 4, 3) := by decide +kernel
theorem dX11_isWord_21 : decode cX11_isWord 21 = .ok (.iconst 0, 1) := by decide +kernel
theorem dX11_isWord_22 : decode cX11_isWord 22 = .ok (.ireturn, 1) := by decide +kernel
theorem dX11_isSign_0 : decode cX11_isSign 0 = .ok (.aload_n 0, 1) := by decide +kernel
theorem dX11_isSign_1 : decode cX11_isSign 1 = .ok (.getfield 181, 3) := by decide +kernel
theorem dX11_isSign_4 : decode cX11_isSign 4 = .ok (.iconst 3, 1) := by decide +kernel
theorem dX11_isSign_5 : decode cX11_isSign 5 = .ok (.if_icmp .ne 20, 3) := by decide +kernel
theorem dX11_isSign_8 : decode cX11_isSign 8 = .ok (.aload_n 0, 1) := by decide +kernel
theorem dX11_isSign_9 : decode cX11_isSign 9 = .ok (.getfield 7, 3) := by decide +kernel
theorem dX11_isSign_12 : decode cX11_isSign 12 = .ok (.aload_n 0, 1) := by decide +kernel
theorem dX11_isSign_13 : decode cX11_isSign 13 = .ok (.getfield 171, 3) := by decide +kernel
theorem dX11_isSign_16 : decode cX11_isSign 16 = .ok (.iaload, 1) := by decide +kernel
theorem dX11_isSign_17 : decode cX11_isSign 17 = .ok (.iload_n 1, 1) := by decide +kernel
theorem dX11_isSign_18 : decode cX11_isSign 18 = .ok (.if_icmp .ne 7, 3) := by decide +kernel
theorem dX11_isSign_21 : decode cX11_isSign 21 = .ok (.iconst 1, 1) := by decide +kernel
theorem dX11_isSign_22 : decode cX11_isSign 22 = .ok (.goto 4, 3) := by decide +kernel
theorem dX11_isSign_25 : decode cX11_isSign 25 = .ok (.iconst 0, 1) := by decide +kernel
theorem dX11_isSign_26 : decode cX11_isSign 26 = .ok (.ireturn, 1) := by decide +kernel
theorem dX11_fails_0 : decode cX11_fails 0 = .ok (.aload_n 0, 1) := by decide +kernel
theorem dX11_fails_1 : decode cX11_fails 1 = .ok (.iload_n 1, 1) := by decide +kernel
theorem dX11_fails_2 : decode cX11_fails 2 = .ok (.bipush 16, 2) := by decide +kernel
theorem dX11_fails_4 : decode cX11_fails 4 = .ok (.aload_n 0, 1) := by decide +kernel
theorem dX11_fails_5 : decode cX11_fails 5 = .ok (.getfield 171, 3) := by decide +kernel
theorem dX11_fails_8 : decode cX11_fails 8 = .ok (.imul, 1) := by decide +kernel
theorem dX11_fails_9 : decode cX11_fails 9 = .ok (.iadd, 1) := by decide +kernel
theorem dX11_fails_10 : decode cX11_fails 10 = .ok (.putfield 192, 3) := by decide +kernel
theorem dX11_fails_13 : decode cX11_fails 13 = .ok (.iconst 0, 1) := by decide +kernel
theorem dX11_fails_14 : decode cX11_fails 14 = .ok (.ireturn, 1) := by decide +kernel
theorem dX11_puts_0 : decode cX11_puts 0 = .ok (.aload_n 0, 1) := by decide +kernel
theorem dX11_puts_1 : decode cX11_puts 1 = .ok (.getfield 50, 3) := by decide +kernel
theorem dX11_puts_4 : decode cX11_puts 4 = .ok (.aload_n 0, 1) := by decide +kernel
theorem dX11_puts_5 : decode cX11_puts 5 = .ok (.getfield 195, 3) := by decide +kernel
theorem dX11_puts_8 : decode cX11_puts 8 = .ok (.iload_n 1, 1) := by decide +kernel
theorem dX11_puts_9 : decode cX11_puts 9 = .ok (.iastore, 1) := by decide +kernel
theorem dX11_puts_10 : decode cX11_puts 10 = .ok (.aload_n 0, 1) := by decide +kernel
theorem dX11_puts_11 : decode cX11_puts 11 = .ok (.dup, 1) := by decide +kernel
theorem dX11_puts_12 : decode cX11_puts 12 = .ok (.getfield 195, 3) := by decide +kernel
theorem dX11_puts_15 : decode cX11_puts 15 = .ok (.iconst 1, 1) := by decide +kernel
theorem dX11_puts_16 : decode cX11_puts 16 = .ok (.iadd, 1) := by decide +kernel
theorem dX11_puts_17 : decode cX11_puts 17 = .ok (.putfield 195, 3) := by decide +kernel
theorem dX11_puts_20 : decode cX11_puts 20 = .ok (.return_, 1) := by decide +kernel
theorem dX11_fact_0 : decode cX11_fact 0 = .ok (.aload_n 0, 1) := by decide +kernel
theorem dX11_fact_1 : decode cX11_fact 1 = .ok (.getfield 181, 3) := by decide +kernel
theorem dX11_fact_4 : decode cX11_fact 4 = .ok (.iconst 1, 1) := by decide +kernel
theorem dX11_fact_5 : decode cX11_fact 5 = .ok (.if_icmp .eq 5, 3) := by decide +kernel
theorem dX11_fact_8 : decode cX11_fact 8 = .ok (.iconst 0, 1) := by decide +kernel
theorem dX11_fact_9 : decode cX11_fact 9 = .ok (.ireturn, 1) := by decide +kernel
theorem dX11_fact_10 : decode cX11_fact 10 = .ok (.aload_n 0, 1) := by decide +kernel
theorem dX11_fact_11 : decode cX11_fact 11 = .ok (.getfield 174, 3) := by decide +kernel
theorem dX11_fact_14 : decode cX11_fact 14 = .ok (.ldc2_w 198, 3) := by decide +kernel
theorem dX11_fact_17 : decode cX11_fact 17 = .ok (.lcmp, 1) := by decide +kernel
theorem dX11_fact_18 : decode cX11_fact 18 = .ok (.ifCond .ne 5, 3) := by decide +kernel
theorem dX11_fact_21 : decode cX11_fact 21 = .ok (.iconst 1, 1) := by decide +kernel
theorem dX11_fact_22 : decode cX11_fact 22 = .ok (.ireturn, 1) := by decide +kernel
theorem dX11_fact_23 : decode cX11_fact 23 = .ok (.aload_n 0, 1) := by decide +kernel
theorem dX11_fact_24 : decode cX11_fact 24 = .ok (.getfield 174, 3) := by decide +kernel
theorem dX11_fact_27 : decode cX11_fact 27 = .ok (.ldc2_w 200, 3) := by decide +kernel
theorem dX11_fact_30 : decode cX11_fact 30 = .ok (.lcmp, 1) := by decide +kernel
theorem dX11_fact_31 : decode cX11_fact 31 = .ok (.ifCond .ne 5, 3) := by decide +kernel
theorem dX11_fact_34 : decode cX11_fact 34 = .ok (.iconst 2, 1) := by decide +kernel
theorem dX11_fact_35 : decode cX11_fact 35 = .ok (.ireturn, 1) := by decide +kernel
theorem dX11_fact_36 : decode cX11_fact 36 = .ok (.aload_n 0, 1) := by decide +kernel
theorem dX11_fact_37 : decode cX11_fact 37 = .ok (.getfield 174, 3) := by decide +kernel
theorem dX11_fact_40 : decode cX11_fact 40 = .ok (.ldc2_w 202, 3) := by decide +kernel
theorem dX11_fact_43 : decode cX11_fact 43 = .ok (.lcmp, 1) := by decide +kernel
theorem dX11_fact_44 : decode cX11_fact 44 = .ok (.ifCond .ne 5, 3) := by decide +kernel
theorem dX11_fact_47 : decode cX11_fact 47 = .ok (.iconst 3, 1) := by decide +kernel
theorem dX11_fact_48 : decode cX11_fact 48 = .ok (.ireturn, 1) := by decide +kernel
theorem dX11_fact_49 : decode cX11_fact 49 = .ok (.aload_n 0, 1) := by decide +kernel
theorem dX11_fact_50 : decode cX11_fact 50 = .ok (.getfield 204, 3) := by decide +kernel
theorem dX11_fact_53 : decode cX11_fact 53 = .ok (.iconst 1, 1) := by decide +kernel
theorem dX11_fact_54 : decode cX11_fact 54 = .ok (.if_icmp .ne 5, 3) := by decide +kernel
theorem dX11_fact_57 : decode cX11_fact 57 = .ok (.iconst 0, 1) := by decide +kernel
theorem dX11_fact_58 : decode cX11_fact 58 = .ok (.ireturn, 1) := by decide +kernel
theorem dX11_fact_59 : decode cX11_fact 59 = .ok (.aload_n 0, 1) := by decide +kernel
theorem dX11_fact_60 : decode cX11_fact 60 = .ok (.getfield 174, 3) := by decide +kernel
theorem dX11_fact_63 : decode cX11_fact 63 = .ok (.ldc2_w 207, 3) := by decide +kernel
theorem dX11_fact_66 : decode cX11_fact 66 = .ok (.lcmp, 1) := by decide +kernel
theorem dX11_fact_67 : decode cX11_fact 67 = .ok (.ifCond .ne 7, 3) := by decide +kernel
theorem dX11_fact_70 : decode cX11_fact 70 = .ok (.iconst 4, 1) := by decide +kernel
theorem dX11_fact_71 : decode cX11_fact 71 = .ok (.goto 19, 3) := by decide +kernel
theorem dX11_fact_74 : decode cX11_fact 74 = .ok (.aload_n 0, 1) := by decide +kernel
theorem dX11_fact_75 : decode cX11_fact 75 = .ok (.getfield 174, 3) := by decide +kernel
theorem dX11_fact_78 : decode cX11_fact 78 = .ok (.ldc2_w 209, 3) := by decide +kernel
theorem dX11_fact_81 : decode cX11_fact 81 = .ok (.lcmp, 1) := by decide +kernel
theorem dX11_fact_82 : decode cX11_fact 82 = .ok (.ifCond .ne 7, 3) := by decide +kernel
theorem dX11_fact_85 : decode cX11_fact 85 = .ok (.iconst 5, 1) := by decide +kernel
theorem dX11_fact_86 : decode cX11_fact 86 = .ok (.goto 4, 3) := by decide +kernel
theorem dX11_fact_89 : decode cX11_fact 89 = .ok (.iconst 0, 1) := by decide +kernel
theorem dX11_fact_90 : decode cX11_fact 90 = .ok (.ireturn, 1) := by decide +kernel
theorem dX11_reads_0 : decode cX11_reads 0 = .ok (.iconst 0, 1) := by decide +kernel
theorem dX11_reads_1 : decode cX11_reads 1 = .ok (.istore_n 1, 1) := by decide +kernel
theorem dX11_reads_2 : decode cX11_reads 2 = .ok (.iconst 1, 1) := by decide +kernel
theorem dX11_reads_3 : decode cX11_reads 3 = .ok (.istore_n 2, 1) := by decide +kernel
theorem dX11_reads_4 : decode cX11_reads 4 = .ok (.aload_n 0, 1) := by decide +kernel
theorem dX11_reads_5 : decode cX11_reads 5 = .ok (.getfield 56, 3) := by decide +kernel
theorem dX11_reads_8 : decode cX11_reads 8 = .ok (.iconst 0, 1) := by decide +kernel
theorem dX11_reads_9 : decode cX11_reads 9 = .ok (.iconst 0, 1) := by decide +kernel
theorem dX11_reads_10 : decode cX11_reads 10 = .ok (.bastore, 1) := by decide +kernel
theorem dX11_reads_11 : decode cX11_reads 11 = .ok (.iload_n 2, 1) := by decide +kernel
theorem dX11_reads_12 : decode cX11_reads 12 = .ok (.ifCond .eq 167, 3) := by decide +kernel
theorem dX11_reads_15 : decode cX11_reads 15 = .ok (.aload_n 0, 1) := by decide +kernel
theorem dX11_reads_16 : decode cX11_reads 16 = .ok (.invokevirtual 211, 3) := by decide +kernel
theorem dX11_reads_19 : decode cX11_reads 19 = .ok (.istore_n 3, 1) := by decide +kernel
theorem dX11_reads_20 : decode cX11_reads 20 = .ok (.aload_n 0, 1) := by decide +kernel
theorem dX11_reads_21 : decode cX11_reads 21 = .ok (.ldc2_w 215, 3) := by decide +kernel
theorem dX11_reads_24 : decode cX11_reads 24 = .ok (.invokevirtual 217, 3) := by decide +kernel
theorem dX11_reads_27 : decode cX11_reads 27 = .ok (.istore 4, 2) := by decide +kernel
theorem dX11_reads_29 : decode cX11_reads 29 = .ok (.aload_n 0, 1) := by decide +kernel
theorem dX11_reads_30 : decode cX11_reads 30 = .ok (.bipush 40, 2) := by decide +kernel
theorem dX11_reads_32 : decode cX11_reads 32 = .ok (.invokevirtual 221, 3) := by decide +kernel
theorem dX11_reads_35 : decode cX11_reads 35 = .ok (.istore 5, 2) := by decide +kernel
theorem dX11_reads_37 : decode cX11_reads 37 = .ok (.iload_n 3, 1) := by decide +kernel
theorem dX11_reads_38 : decode cX11_reads 38 = .ok (.ifCond .ne 27, 3) := by decide +kernel
theorem dX11_reads_41 : decode cX11_reads 41 = .ok (.iload 4, 2) := by decide +kernel
theorem dX11_reads_43 : decode cX11_reads 43 = .ok (.ifCond .ne 22, 3) := by decide +kernel
theorem dX11_reads_46 : decode cX11_reads 46 = .ok (.iload 5, 2) := by decide +kernel
theorem dX11_reads_48 : decode cX11_reads 48 = .ok (.ifCond .ne 17, 3) := by decide +kernel
theorem dX11_reads_51 : decode cX11_reads 51 = .ok (.aload_n 0, 1) := by decide +kernel
theorem dX11_reads_52 : decode cX11_reads 52 = .ok (.getfield 181, 3) := by decide +kernel
theorem dX11_reads_55 : decode cX11_reads 55 = .ok (.iconst 2, 1) := by decide +kernel
theorem dX11_reads_56 : decode cX11_reads 56 = .ok (.if_icmp .eq 9, 3) := by decide +kernel
theorem dX11_reads_59 : decode cX11_reads 59 = .ok (.aload_n 0, 1) := by decide +kernel
theorem dX11_reads_60 : decode cX11_reads 60 = .ok (.iconst 1, 1) := by decide +kernel
theorem dX11_reads_61 : decode cX11_reads 61 = .ok (.invokevirtual 225, 3) := by decide +kernel
theorem dX11_reads_64 : decode cX11_reads 64 = .ok (.ireturn, 1) := by decide +kernel
theorem dX11_reads_65 : decode cX11_reads 65 = .ok (.iload_n 1, 1) := by decide +kernel
theorem dX11_reads_66 : decode cX11_reads 66 = .ok (.iconst 5, 1) := by decide +kernel
theorem dX11_reads_67 : decode cX11_reads 67 = .ok (.if_icmp .ne 9, 3) := by decide +kernel
theorem dX11_reads_70 : decode cX11_reads 70 = .ok (.aload_n 0, 1) := by decide +kernel
theorem dX11_reads_71 : decode cX11_reads 71 = .ok (.iconst 5, 1) := by decide +kernel
theorem dX11_reads_72 : decode cX11_reads 72 = .ok (.invokevirtual 225, 3) := by decide +kernel
theorem dX11_reads_75 : decode cX11_reads 75 = .ok (.ireturn, 1) := by decide +kernel
theorem dX11_reads_76 : decode cX11_reads 76 = .ok (.iload 4, 2) := by decide +kernel
theorem dX11_reads_78 : decode cX11_reads 78 = .ok (.ifCond .ne 8, 3) := by decide +kernel
theorem dX11_reads_81 : decode cX11_reads 81 = .ok (.iload 5, 2) := by decide +kernel
theorem dX11_reads_83 : decode cX11_reads 83 = .ok (.ifCond .eq 48, 3) := by decide +kernel
theorem dX11_reads_86 : decode cX11_reads 86 = .ok (.aload_n 0, 1) := by decide +kernel
theorem dX11_reads_87 : decode cX11_reads 87 = .ok (.iload 4, 2) := by decide +kernel
theorem dX11_reads_89 : decode cX11_reads 89 = .ok (.ifCond .eq 8, 3) := by decide +kernel
theorem dX11_reads_92 : decode cX11_reads 92 = .ok (.bipush 30, 2) := by decide +kernel
theorem dX11_reads_94 : decode cX11_reads 94 = .ok (.goto 5, 3) := by decide +kernel
theorem dX11_reads_97 : decode cX11_reads 97 = .ok (.bipush 28, 2) := by decide +kernel
theorem dX11_reads_99 : decode cX11_reads 99 = .ok (.invokevirtual 228, 3) := by decide +kernel
theorem dX11_reads_102 : decode cX11_reads 102 = .ok (.iinc 1 1, 3) := by decide +kernel
theorem dX11_reads_105 : decode cX11_reads 105 = .ok (.aload_n 0, 1) := by decide +kernel
theorem dX11_reads_106 : decode cX11_reads 106 = .ok (.getfield 53, 3) := by decide +kernel
theorem dX11_reads_109 : decode cX11_reads 109 = .ok (.iload_n 1, 1) := by decide +kernel
theorem dX11_reads_110 : decode cX11_reads 110 = .ok (.iload 4, 2) := by decide +kernel
theorem dX11_reads_112 : decode cX11_reads 112 = .ok (.ifCond .eq 7, 3) := by decide +kernel
theorem dX11_reads_115 : decode cX11_reads 115 = .ok (.iconst 1, 1) := by decide +kernel
theorem dX11_reads_116 : decode cX11_reads 116 = .ok (.goto 4, 3) := by decide +kernel
theorem dX11_reads_119 : decode cX11_reads 119 = .ok (.iconst 2, 1) := by decide +kernel
theorem dX11_reads_120 : decode cX11_reads 120 = .ok (.iastore, 1) := by decide +kernel
theorem dX11_reads_121 : decode cX11_reads 121 = .ok (.aload_n 0, 1) := by decide +kernel
theorem dX11_reads_122 : decode cX11_reads 122 = .ok (.getfield 56, 3) := by decide +kernel
theorem dX11_reads_125 : decode cX11_reads 125 = .ok (.iload_n 1, 1) := by decide +kernel
theorem dX11_reads_126 : decode cX11_reads 126 = .ok (.iconst 0, 1) := by decide +kernel
theorem dX11_reads_127 : decode cX11_reads 127 = .ok (.bastore, 1) := by decide +kernel
theorem dX11_reads_128 : decode cX11_reads 128 = .ok (.goto 44, 3) := by decide +kernel
theorem dX11_reads_131 : decode cX11_reads 131 = .ok (.aload_n 0, 1) := by decide +kernel
theorem dX11_reads_132 : decode cX11_reads 132 = .ok (.iload_n 3, 1) := by decide +kernel
theorem dX11_reads_133 : decode cX11_reads 133 = .ok (.ifCond .le 7, 3) := by decide +kernel
theorem dX11_reads_136 : decode cX11_reads 136 = .ok (.iload_n 3, 1) := by decide +kernel
theorem dX11_reads_137 : decode cX11_reads 137 = .ok (.goto 10, 3) := by decide +kernel
theorem dX11_reads_140 : decode cX11_reads 140 = .ok (.bipush 100, 2) := by decide +kernel
theorem dX11_reads_142 : decode cX11_reads 142 = .ok (.aload_n 0, 1) := by decide +kernel
theorem dX11_reads_143 : decode cX11_reads 143 = .ok (.getfield 178, 3) := by decide +kernel
theorem dX11_reads_146 : decode cX11_reads 146 = .ok (.iadd, 1) := by decide +kernel
theorem dX11_reads_147 : decode cX11_reads 147 = .ok (.invokevirtual 228, 3) := by decide +kernel
theorem dX11_reads_150 : decode cX11_reads 150 = .ok (.iconst 0, 1) := by decide +kernel
theorem dX11_reads_151 : decode cX11_reads 151 = .ok (.istore_n 2, 1) := by decide +kernel
theorem dX11_reads_152 : decode cX11_reads 152 = .ok (.iload_n 1, 1) := by decide +kernel
theorem dX11_reads_153 : decode cX11_reads 153 = .ok (.ifCond .le 19, 3) := by decide +kernel
theorem dX11_reads_156 : decode cX11_reads 156 = .ok (.aload_n 0, 1) := by decide +kernel
theorem dX11_reads_157 : decode cX11_reads 157 = .ok (.getfield 53, 3) := by decide +kernel
theorem dX11_reads_160 : decode cX11_reads 160 = .ok (.iload_n 1, 1) := by decide +kernel
theorem dX11_reads_161 : decode cX11_reads 161 = .ok (.iaload, 1) := by decide +kernel
theorem dX11_reads_162 : decode cX11_reads 162 = .ok (.iconst 1, 1) := by decide +kernel
theorem dX11_reads_163 : decode cX11_reads 163 = .ok (.if_icmp .ne 9, 3) := by decide +kernel
theorem dX11_reads_166 : decode cX11_reads 166 = .ok (.iinc 1 (-1), 3) := by decide +kernel
theorem dX11_reads_169 : decode cX11_reads 169 = .ok (.goto (-17), 3) := by decide +kernel
theorem dX11_reads_172 : decode cX11_reads 172 = .ok (.aload_n 0, 1) := by decide +kernel
theorem dX11_reads_173 : decode cX11_reads 173 = .ok (.invokevirtual 232, 3) := by decide +kernel
theorem dX11_reads_176 : decode cX11_reads 176 = .ok (.goto (-165), 3) := by decide +kernel
theorem dX11_reads_179 : decode cX11_reads 179 = .ok (.aload_n 0, 1) := by decide +kernel
theorem dX11_reads_180 : decode cX11_reads 180 = .ok (.bipush 43, 2) := by decide +kernel
theorem dX11_reads_182 : decode cX11_reads 182 = .ok (.invokevirtual 221, 3) := by decide +kernel
theorem dX11_reads_185 : decode cX11_reads 185 = .ok (.ifCond .ne 21, 3) := by decide +kernel
theorem dX11_reads_188 : decode cX11_reads 188 = .ok (.aload_n 0, 1) := by decide +kernel
theorem dX11_reads_189 : decode cX11_reads 189 = .ok (.bipush 45, 2) := by decide +kernel
theorem dX11_reads_191 : decode cX11_reads 191 = .ok (.invokevirtual 221, 3) := by decide +kernel
theorem dX11_reads_194 : decode cX11_reads 194 = .ok (.ifCond .ne 12, 3) := by decide +kernel
theorem dX11_reads_197 : decode cX11_reads 197 = .ok (.aload_n 0, 1) := by decide +kernel
theorem dX11_reads_198 : decode cX11_reads 198 = .ok (.bipush 42, 2) := by decide +kernel
theorem dX11_reads_200 : decode cX11_reads 200 = .ok (.invokevirtual 221, 3) := by decide +kernel
theorem dX11_reads_203 : decode cX11_reads 203 = .ok (.ifCond .eq 42, 3) := by decide +kernel
theorem dX11_reads_206 : decode cX11_reads 206 = .ok (.aload_n 0, 1) := by decide +kernel
theorem dX11_reads_207 : decode cX11_reads 207 = .ok (.aload_n 0, 1) := by decide +kernel
theorem dX11_reads_208 : decode cX11_reads 208 = .ok (.bipush 43, 2) := by decide +kernel
theorem dX11_reads_210 : decode cX11_reads 210 = .ok (.invokevirtual 221, 3) := by decide +kernel
theorem dX11_reads_213 : decode cX11_reads 213 = .ok (.ifCond .eq 8, 3) := by decide +kernel
theorem dX11_reads_216 : decode cX11_reads 216 = .ok (.bipush 20, 2) := by decide +kernel
theorem dX11_reads_218 : decode cX11_reads 218 = .ok (.goto 19, 3) := by decide +kernel
theorem dX11_reads_221 : decode cX11_reads 221 = .ok (.aload_n 0, 1) := by decide +kernel
theorem dX11_reads_222 : decode cX11_reads 222 = .ok (.bipush 45, 2) := by decide +kernel
theorem dX11_reads_224 : decode cX11_reads 224 = .ok (.invokevirtual 221, 3) := by decide +kernel
theorem dX11_reads_227 : decode cX11_reads 227 = .ok (.ifCond .eq 8, 3) := by decide +kernel
theorem dX11_reads_230 : decode cX11_reads 230 = .ok (.bipush 21, 2) := by decide +kernel
theorem dX11_reads_232 : decode cX11_reads 232 = .ok (.goto 5, 3) := by decide +kernel
theorem dX11_reads_235 : decode cX11_reads 235 = .ok (.bipush 22, 2) := by decide +kernel
theorem dX11_reads_237 : decode cX11_reads 237 = .ok (.invokevirtual 228, 3) := by decide +kernel
theorem dX11_reads_240 : decode cX11_reads 240 = .ok (.iconst 1, 1) := by decide +kernel
theorem dX11_reads_241 : decode cX11_reads 241 = .ok (.istore_n 2, 1) := by decide +kernel
theorem dX11_reads_242 : decode cX11_reads 242 = .ok (.goto 182, 3) := by decide +kernel
theorem dX11_reads_245 : decode cX11_reads 245 = .ok (.aload_n 0, 1) := by decide +kernel
theorem dX11_reads_246 : decode cX11_reads 246 = .ok (.bipush 60, 2) := by decide +kernel
theorem dX11_reads_248 : decode cX11_reads 248 = .ok (.invokevirtual 221, 3) := by decide +kernel
theorem dX11_reads_251 : decode cX11_reads 251 = .ok (.ifCond .ne 12, 3) := by decide +kernel
theorem dX11_reads_254 : decode cX11_reads 254 = .ok (.aload_n 0, 1) := by decide +kernel
theorem dX11_reads_255 : decode cX11_reads 255 = .ok (.bipush 61, 2) := by decide +kernel
theorem dX11_reads_257 : decode cX11_reads 257 = .ok (.invokevirtual 221, 3) := by decide +kernel
theorem dX11_reads_260 : decode cX11_reads 260 = .ok (.ifCond .eq 44, 3) := by decide +kernel
theorem dX11_reads_263 : decode cX11_reads 263 = .ok (.aload_n 0, 1) := by decide +kernel
theorem dX11_reads_264 : decode cX11_reads 264 = .ok (.getfield 56, 3) := by decide +kernel
theorem dX11_reads_267 : decode cX11_reads 267 = .ok (.iload_n 1, 1) := by decide +kernel
theorem dX11_reads_268 : decode cX11_reads 268 = .ok (.baload, 1) := by decide +kernel
theorem dX11_reads_269 : decode cX11_reads 269 = .ok (.ifCond .ne 35, 3) := by decide +kernel
theorem dX11_reads_272 : decode cX11_reads 272 = .ok (.aload_n 0, 1) := by decide +kernel
theorem dX11_reads_273 : decode cX11_reads 273 = .ok (.aload_n 0, 1) := by decide +kernel
theorem dX11_reads_274 : decode cX11_reads 274 = .ok (.bipush 60, 2) := by decide +kernel
theorem dX11_reads_276 : decode cX11_reads 276 = .ok (.invokevirtual 221, 3) := by decide +kernel
theorem dX11_reads_279 : decode cX11_reads 279 = .ok (.ifCond .eq 8, 3) := by decide +kernel
theorem dX11_reads_282 : decode cX11_reads 282 = .ok (.bipush 24, 2) := by decide +kernel
theorem dX11_reads_284 : decode cX11_reads 284 = .ok (.goto 5, 3) := by decide +kernel
theorem dX11_reads_287 : decode cX11_reads 287 = .ok (.bipush 25, 2) := by decide +kernel
theorem dX11_reads_289 : decode cX11_reads 289 = .ok (.invokevirtual 228, 3) := by decide +kernel
theorem dX11_reads_292 : decode cX11_reads 292 = .ok (.aload_n 0, 1) := by decide +kernel
theorem dX11_reads_293 : decode cX11_reads 293 = .ok (.getfield 56, 3) := by decide +kernel
theorem dX11_reads_296 : decode cX11_reads 296 = .ok (.iload_n 1, 1) := by decide +kernel
theorem dX11_reads_297 : decode cX11_reads 297 = .ok (.iconst 1, 1) := by decide +kernel
theorem dX11_reads_298 : decode cX11_reads 298 = .ok (.bastore, 1) := by decide +kernel
theorem dX11_reads_299 : decode cX11_reads 299 = .ok (.iconst 1, 1) := by decide +kernel
theorem dX11_reads_300 : decode cX11_reads 300 = .ok (.istore_n 2, 1) := by decide +kernel
theorem dX11_reads_301 : decode cX11_reads 301 = .ok (.goto 123, 3) := by decide +kernel
theorem dX11_reads_304 : decode cX11_reads 304 = .ok (.aload_n 0, 1) := by decide +kernel
theorem dX11_reads_305 : decode cX11_reads 305 = .ok (.ldc2_w 235, 3) := by decide +kernel
theorem dX11_reads_308 : decode cX11_reads 308 = .ok (.invokevirtual 217, 3) := by decide +kernel
theorem dX11_reads_311 : decode cX11_reads 311 = .ok (.ifCond .ne 13, 3) := by decide +kernel
theorem dX11_reads_314 : decode cX11_reads 314 = .ok (.aload_n 0, 1) := by decide +kernel
theorem dX11_reads_315 : decode cX11_reads 315 = .ok (.ldc2_w 237, 3) := by decide +kernel
theorem dX11_reads_318 : decode cX11_reads 318 = .ok (.invokevirtual 217, 3) := by decide +kernel
theorem dX11_reads_321 : decode cX11_reads 321 = .ok (.ifCond .eq 36, 3) := by decide +kernel
theorem dX11_reads_324 : decode cX11_reads 324 = .ok (.aload_n 0, 1) := by decide +kernel
theorem dX11_reads_325 : decode cX11_reads 325 = .ok (.aload_n 0, 1) := by decide +kernel
theorem dX11_reads_326 : decode cX11_reads 326 = .ok (.ldc2_w 235, 3) := by decide +kernel
theorem dX11_reads_329 : decode cX11_reads 329 = .ok (.invokevirtual 217, 3) := by decide +kernel
theorem dX11_reads_332 : decode cX11_reads 332 = .ok (.ifCond .eq 8, 3) := by decide +kernel
theorem dX11_reads_335 : decode cX11_reads 335 = .ok (.bipush 26, 2) := by decide +kernel
theorem dX11_reads_337 : decode cX11_reads 337 = .ok (.goto 5, 3) := by decide +kernel
theorem dX11_reads_340 : decode cX11_reads 340 = .ok (.bipush 27, 2) := by decide +kernel
theorem dX11_reads_342 : decode cX11_reads 342 = .ok (.invokevirtual 228, 3) := by decide +kernel
theorem dX11_reads_345 : decode cX11_reads 345 = .ok (.aload_n 0, 1) := by decide +kernel
theorem dX11_reads_346 : decode cX11_reads 346 = .ok (.getfield 56, 3) := by decide +kernel
theorem dX11_reads_349 : decode cX11_reads 349 = .ok (.iload_n 1, 1) := by decide +kernel
theorem dX11_reads_350 : decode cX11_reads 350 = .ok (.iconst 0, 1) := by decide +kernel
theorem dX11_reads_351 : decode cX11_reads 351 = .ok (.bastore, 1) := by decide +kernel
theorem dX11_reads_352 : decode cX11_reads 352 = .ok (.iconst 1, 1) := by decide +kernel
theorem dX11_reads_353 : decode cX11_reads 353 = .ok (.istore_n 2, 1) := by decide +kernel
theorem dX11_reads_354 : decode cX11_reads 354 = .ok (.goto 70, 3) := by decide +kernel
theorem dX11_reads_357 : decode cX11_reads 357 = .ok (.aload_n 0, 1) := by decide +kernel
theorem dX11_reads_358 : decode cX11_reads 358 = .ok (.bipush 41, 2) := by decide +kernel
theorem dX11_reads_360 : decode cX11_reads 360 = .ok (.invokevirtual 221, 3) := by decide +kernel
theorem dX11_reads_363 : decode cX11_reads 363 = .ok (.ifCond .eq 36, 3) := by decide +kernel
theorem dX11_reads_366 : decode cX11_reads 366 = .ok (.iload_n 1, 1) := by decide +kernel
theorem dX11_reads_367 : decode cX11_reads 367 = .ok (.ifCond .le 32, 3) := by decide +kernel
theorem dX11_reads_370 : decode cX11_reads 370 = .ok (.aload_n 0, 1) := by decide +kernel
theorem dX11_reads_371 : decode cX11_reads 371 = .ok (.bipush 29, 2) := by decide +kernel
theorem dX11_reads_373 : decode cX11_reads 373 = .ok (.invokevirtual 228, 3) := by decide +kernel
theorem dX11_reads_376 : decode cX11_reads 376 = .ok (.iinc 1 (-1), 3) := by decide +kernel
theorem dX11_reads_379 : decode cX11_reads 379 = .ok (.iload_n 1, 1) := by decide +kernel
theorem dX11_reads_380 : decode cX11_reads 380 = .ok (.ifCond .le 44, 3) := by decide +kernel
theorem dX11_reads_383 : decode cX11_reads 383 = .ok (.aload_n 0, 1) := by decide +kernel
theorem dX11_reads_384 : decode cX11_reads 384 = .ok (.getfield 53, 3) := by decide +kernel
theorem dX11_reads_387 : decode cX11_reads 387 = .ok (.iload_n 1, 1) := by decide +kernel
theorem dX11_reads_388 : decode cX11_reads 388 = .ok (.iaload, 1) := by decide +kernel
theorem dX11_reads_389 : decode cX11_reads 389 = .ok (.iconst 1, 1) := by decide +kernel
theorem dX11_reads_390 : decode cX11_reads 390 = .ok (.if_icmp .ne 34, 3) := by decide +kernel
theorem dX11_reads_393 : decode cX11_reads 393 = .ok (.iinc 1 (-1), 3) := by decide +kernel
theorem dX11_reads_396 : decode cX11_reads 396 = .ok (.goto (-17), 3) := by decide +kernel
theorem dX11_reads_399 : decode cX11_reads 399 = .ok (.iload_n 1, 1) := by decide +kernel
theorem dX11_reads_400 : decode cX11_reads 400 = .ok (.ifCond .ne 18, 3) := by decide +kernel
theorem dX11_reads_403 : decode cX11_reads 403 = .ok (.aload_n 0, 1) := by decide +kernel
theorem dX11_reads_404 : decode cX11_reads 404 = .ok (.bipush 59, 2) := by decide +kernel
theorem dX11_reads_406 : decode cX11_reads 406 = .ok (.invokevirtual 221, 3) := by decide +kernel
theorem dX11_reads_409 : decode cX11_reads 409 = .ok (.ifCond .eq 9, 3) := by decide +kernel
theorem dX11_reads_412 : decode cX11_reads 412 = .ok (.aload_n 0, 1) := by decide +kernel
theorem dX11_reads_413 : decode cX11_reads 413 = .ok (.invokevirtual 232, 3) := by decide +kernel
theorem dX11_reads_416 : decode cX11_reads 416 = .ok (.iconst 1, 1) := by decide +kernel
theorem dX11_reads_417 : decode cX11_reads 417 = .ok (.ireturn, 1) := by decide +kernel
theorem dX11_reads_418 : decode cX11_reads 418 = .ok (.aload_n 0, 1) := by decide +kernel
theorem dX11_reads_419 : decode cX11_reads 419 = .ok (.iconst 1, 1) := by decide +kernel
theorem dX11_reads_420 : decode cX11_reads 420 = .ok (.invokevirtual 225, 3) := by decide +kernel
theorem dX11_reads_423 : decode cX11_reads 423 = .ok (.ireturn, 1) := by decide +kernel
theorem dX11_reads_424 : decode cX11_reads 424 = .ok (.aload_n 0, 1) := by decide +kernel
theorem dX11_reads_425 : decode cX11_reads 425 = .ok (.invokevirtual 232, 3) := by decide +kernel
theorem dX11_reads_428 : decode cX11_reads 428 = .ok (.goto (-417), 3) := by decide +kernel
theorem dX11_opens_0 : decode cX11_opens 0 = .ok (.aload_n 0, 1) := by decide +kernel
theorem dX11_opens_1 : decode cX11_opens 1 = .ok (.getfield 63, 3) := by decide +kernel
theorem dX11_opens_4 : decode cX11_opens 4 = .ok (.iload_n 1, 1) := by decide +kernel
theorem dX11_opens_5 : decode cX11_opens 5 = .ok (.iconst 0, 1) := by decide +kernel
theorem dX11_opens_6 : decode cX11_opens 6 = .ok (.iastore, 1) := by decide +kernel
theorem dX11_opens_7 : decode cX11_opens 7 = .ok (.aload_n 0, 1) := by decide +kernel
theorem dX11_opens_8 : decode cX11_opens 8 = .ok (.getfield 69, 3) := by decide +kernel
theorem dX11_opens_11 : decode cX11_opens 11 = .ok (.iload_n 1, 1) := by decide +kernel
theorem dX11_opens_12 : decode cX11_opens 12 = .ok (.iconst 0, 1) := by decide +kernel
theorem dX11_opens_13 : decode cX11_opens 13 = .ok (.iastore, 1) := by decide +kernel
theorem dX11_opens_14 : decode cX11_opens 14 = .ok (.aload_n 0, 1) := by decide +kernel
theorem dX11_opens_15 : decode cX11_opens 15 = .ok (.getfield 72, 3) := by decide +kernel
theorem dX11_opens_18 : decode cX11_opens 18 = .ok (.iload_n 1, 1) := by decide +kernel
theorem dX11_opens_19 : decode cX11_opens 19 = .ok (.iconst 0, 1) := by decide +kernel
theorem dX11_opens_20 : decode cX11_opens 20 = .ok (.iastore, 1) := by decide +kernel
theorem dX11_opens_21 : decode cX11_opens 21 = .ok (.aload_n 0, 1) := by decide +kernel
theorem dX11_opens_22 : decode cX11_opens 22 = .ok (.getfield 75, 3) := by decide +kernel
theorem dX11_opens_25 : decode cX11_opens 25 = .ok (.iload_n 1, 1) := by decide +kernel
theorem dX11_opens_26 : decode cX11_opens 26 = .ok (.bipush 20, 2) := by decide +kernel
theorem dX11_opens_28 : decode cX11_opens 28 = .ok (.iastore, 1) := by decide +kernel
theorem dX11_opens_29 : decode cX11_opens 29 = .ok (.aload_n 0, 1) := by decide +kernel
theorem dX11_opens_30 : decode cX11_opens 30 = .ok (.getfield 81, 3) := by decide +kernel
theorem dX11_opens_33 : decode cX11_opens 33 = .ok (.iload_n 1, 1) := by decide +kernel
theorem dX11_opens_34 : decode cX11_opens 34 = .ok (.iconst 0, 1) := by decide +kernel
theorem dX11_opens_35 : decode cX11_opens 35 = .ok (.iastore, 1) := by decide +kernel
theorem dX11_opens_36 : decode cX11_opens 36 = .ok (.return_, 1) := by decide +kernel
theorem dX11_sums_0 : decode cX11_sums 0 = .ok (.aload_n 0, 1) := by decide +kernel
theorem dX11_sums_1 : decode cX11_sums 1 = .ok (.getfield 72, 3) := by decide +kernel
theorem dX11_sums_4 : decode cX11_sums 4 = .ok (.iload_n 1, 1) := by decide +kernel
theorem dX11_sums_5 : decode cX11_sums 5 = .ok (.aload_n 0, 1) := by decide +kernel
theorem dX11_sums_6 : decode cX11_sums 6 = .ok (.getfield 75, 3) := by decide +kernel
theorem dX11_sums_9 : decode cX11_sums 9 = .ok (.iload_n 1, 1) := by decide +kernel
theorem dX11_sums_10 : decode cX11_sums 10 = .ok (.iaload, 1) := by decide +kernel
theorem dX11_sums_11 : decode cX11_sums 11 = .ok (.bipush 21, 2) := by decide +kernel
theorem dX11_sums_13 : decode cX11_sums 13 = .ok (.if_icmp .ne 19, 3) := by decide +kernel
theorem dX11_sums_16 : decode cX11_sums 16 = .ok (.aload_n 0, 1) := by decide +kernel
theorem dX11_sums_17 : decode cX11_sums 17 = .ok (.getfield 72, 3) := by decide +kernel
theorem dX11_sums_20 : decode cX11_sums 20 = .ok (.iload_n 1, 1) := by decide +kernel
theorem dX11_sums_21 : decode cX11_sums 21 = .ok (.iaload, 1) := by decide +kernel
theorem dX11_sums_22 : decode cX11_sums 22 = .ok (.aload_n 0, 1) := by decide +kernel
theorem dX11_sums_23 : decode cX11_sums 23 = .ok (.getfield 78, 3) := by decide +kernel
theorem dX11_sums_26 : decode cX11_sums 26 = .ok (.iload_n 1, 1) := by decide +kernel
theorem dX11_sums_27 : decode cX11_sums 27 = .ok (.iaload, 1) := by decide +kernel
theorem dX11_sums_28 : decode cX11_sums 28 = .ok (.isub, 1) := by decide +kernel
theorem dX11_sums_29 : decode cX11_sums 29 = .ok (.goto 16, 3) := by decide +kernel
theorem dX11_sums_32 : decode cX11_sums 32 = .ok (.aload_n 0, 1) := by decide +kernel
theorem dX11_sums_33 : decode cX11_sums 33 = .ok (.getfield 72, 3) := by decide +kernel
theorem dX11_sums_36 : decode cX11_sums 36 = .ok (.iload_n 1, 1) := by decide +kernel
theorem dX11_sums_37 : decode cX11_sums 37 = .ok (.iaload, 1) := by decide +kernel
theorem dX11_sums_38 : decode cX11_sums 38 = .ok (.aload_n 0, 1) := by decide +kernel
theorem dX11_sums_39 : decode cX11_sums 39 = .ok (.getfield 78, 3) := by decide +kernel
theorem dX11_sums_42 : decode cX11_sums 42 = .ok (.iload_n 1, 1) := by decide +kernel
theorem dX11_sums_43 : decode cX11_sums 43 = .ok (.iaload, 1) := by decide +kernel
theorem dX11_sums_44 : decode cX11_sums 44 = .ok (.iadd, 1) := by decide +kernel
theorem dX11_sums_45 : decode cX11_sums 45 = .ok (.iastore, 1) := by decide +kernel
theorem dX11_sums_46 : decode cX11_sums 46 = .ok (.aload_n 0, 1) := by decide +kernel
theorem dX11_sums_47 : decode cX11_sums 47 = .ok (.getfield 81, 3) := by decide +kernel
theorem dX11_sums_50 : decode cX11_sums 50 = .ok (.iload_n 1, 1) := by decide +kernel
theorem dX11_sums_51 : decode cX11_sums 51 = .ok (.iconst 0, 1) := by decide +kernel
theorem dX11_sums_52 : decode cX11_sums 52 = .ok (.iastore, 1) := by decide +kernel
theorem dX11_sums_53 : decode cX11_sums 53 = .ok (.return_, 1) := by decide +kernel
theorem dX11_tests_0 : decode cX11_tests 0 = .ok (.aload_n 0, 1) := by decide +kernel
theorem dX11_tests_1 : decode cX11_tests 1 = .ok (.iload_n 1, 1) := by decide +kernel
theorem dX11_tests_2 : decode cX11_tests 2 = .ok (.invokevirtual 239, 3) := by decide +kernel
theorem dX11_tests_5 : decode cX11_tests 5 = .ok (.aload_n 0, 1) := by decide +kernel
theorem dX11_tests_6 : decode cX11_tests 6 = .ok (.getfield 72, 3) := by decide +kernel
theorem dX11_tests_9 : decode cX11_tests 9 = .ok (.iload_n 1, 1) := by decide +kernel
theorem dX11_tests_10 : decode cX11_tests 10 = .ok (.iaload, 1) := by decide +kernel
theorem dX11_tests_11 : decode cX11_tests 11 = .ok (.istore_n 2, 1) := by decide +kernel
theorem dX11_tests_12 : decode cX11_tests 12 = .ok (.aload_n 0, 1) := by decide +kernel
theorem dX11_tests_13 : decode cX11_tests 13 = .ok (.getfield 69, 3) := by decide +kernel
theorem dX11_tests_16 : decode cX11_tests 16 = .ok (.iload_n 1, 1) := by decide +kernel
theorem dX11_tests_17 : decode cX11_tests 17 = .ok (.iaload, 1) := by decide +kernel
theorem dX11_tests_18 : decode cX11_tests 18 = .ok (.bipush 24, 2) := by decide +kernel
theorem dX11_tests_20 : decode cX11_tests 20 = .ok (.if_icmp .ne 24, 3) := by decide +kernel
theorem dX11_tests_23 : decode cX11_tests 23 = .ok (.aload_n 0, 1) := by decide +kernel
theorem dX11_tests_24 : decode cX11_tests 24 = .ok (.getfield 66, 3) := by decide +kernel
theorem dX11_tests_27 : decode cX11_tests 27 = .ok (.iload_n 1, 1) := by decide +kernel
theorem dX11_tests_28 : decode cX11_tests 28 = .ok (.iaload, 1) := by decide +kernel
theorem dX11_tests_29 : decode cX11_tests 29 = .ok (.aload_n 0, 1) := by decide +kernel
theorem dX11_tests_30 : decode cX11_tests 30 = .ok (.getfield 72, 3) := by decide +kernel
theorem dX11_tests_33 : decode cX11_tests 33 = .ok (.iload_n 1, 1) := by decide +kernel
theorem dX11_tests_34 : decode cX11_tests 34 = .ok (.iaload, 1) := by decide +kernel
theorem dX11_tests_35 : decode cX11_tests 35 = .ok (.if_icmp .ge 7, 3) := by decide +kernel
theorem dX11_tests_38 : decode cX11_tests 38 = .ok (.iconst 1, 1) := by decide +kernel
theorem dX11_tests_39 : decode cX11_tests 39 = .ok (.goto 4, 3) := by decide +kernel
theorem dX11_tests_42 : decode cX11_tests 42 = .ok (.iconst 0, 1) := by decide +kernel
theorem dX11_tests_43 : decode cX11_tests 43 = .ok (.istore_n 2, 1) := by decide +kernel
theorem dX11_tests_44 : decode cX11_tests 44 = .ok (.aload_n 0, 1) := by decide +kernel
theorem dX11_tests_45 : decode cX11_tests 45 = .ok (.getfield 69, 3) := by decide +kernel
theorem dX11_tests_48 : decode cX11_tests 48 = .ok (.iload_n 1, 1) := by decide +kernel
theorem dX11_tests_49 : decode cX11_tests 49 = .ok (.iaload, 1) := by decide +kernel
theorem dX11_tests_50 : decode cX11_tests 50 = .ok (.bipush 25, 2) := by decide +kernel
theorem dX11_tests_52 : decode cX11_tests 52 = .ok (.if_icmp .ne 24, 3) := by decide +kernel
theorem dX11_tests_55 : decode cX11_tests 55 = .ok (.aload_n 0, 1) := by decide +kernel
theorem dX11_tests_56 : decode cX11_tests 56 = .ok (.getfield 66, 3) := by decide +kernel
theorem dX11_tests_59 : decode cX11_tests 59 = .ok (.iload_n 1, 1) := by decide +kernel
theorem dX11_tests_60 : decode cX11_tests 60 = .ok (.iaload, 1) := by decide +kernel
theorem dX11_tests_61 : decode cX11_tests 61 = .ok (.aload_n 0, 1) := by decide +kernel
theorem dX11_tests_62 : decode cX11_tests 62 = .ok (.getfield 72, 3) := by decide +kernel
theorem dX11_tests_65 : decode cX11_tests 65 = .ok (.iload_n 1, 1) := by decide +kernel
theorem dX11_tests_66 : decode cX11_tests 66 = .ok (.iaload, 1) := by decide +kernel
theorem dX11_tests_67 : decode cX11_tests 67 = .ok (.if_icmp .ne 7, 3) := by decide +kernel
theorem dX11_tests_70 : decode cX11_tests 70 = .ok (.iconst 1, 1) := by decide +kernel
theorem dX11_tests_71 : decode cX11_tests 71 = .ok (.goto 4, 3) := by decide +kernel
theorem dX11_tests_74 : decode cX11_tests 74 = .ok (.iconst 0, 1) := by decide +kernel
theorem dX11_tests_75 : decode cX11_tests 75 = .ok (.istore_n 2, 1) := by decide +kernel
theorem dX11_tests_76 : decode cX11_tests 76 = .ok (.aload_n 0, 1) := by decide +kernel
theorem dX11_tests_77 : decode cX11_tests 77 = .ok (.getfield 63, 3) := by decide +kernel
theorem dX11_tests_80 : decode cX11_tests 80 = .ok (.iload_n 1, 1) := by decide +kernel
theorem dX11_tests_81 : decode cX11_tests 81 = .ok (.iaload, 1) := by decide +kernel
theorem dX11_tests_82 : decode cX11_tests 82 = .ok (.bipush 26, 2) := by decide +kernel
theorem dX11_tests_84 : decode cX11_tests 84 = .ok (.if_icmp .ne 22, 3) := by decide +kernel
theorem dX11_tests_87 : decode cX11_tests 87 = .ok (.aload_n 0, 1) := by decide +kernel
theorem dX11_tests_88 : decode cX11_tests 88 = .ok (.getfield 60, 3) := by decide +kernel
theorem dX11_tests_91 : decode cX11_tests 91 = .ok (.iload_n 1, 1) := by decide +kernel
theorem dX11_tests_92 : decode cX11_tests 92 = .ok (.iaload, 1) := by decide +kernel
theorem dX11_tests_93 : decode cX11_tests 93 = .ok (.ifCond .eq 11, 3) := by decide +kernel
theorem dX11_tests_96 : decode cX11_tests 96 = .ok (.iload_n 2, 1) := by decide +kernel
theorem dX11_tests_97 : decode cX11_tests 97 = .ok (.ifCond .eq 7, 3) := by decide +kernel
theorem dX11_tests_100 : decode cX11_tests 100 = .ok (.iconst 1, 1) := by decide +kernel
theorem dX11_tests_101 : decode cX11_tests 101 = .ok (.goto 4, 3) := by decide +kernel
theorem dX11_tests_104 : decode cX11_tests 104 = .ok (.iconst 0, 1) := by decide +kernel
theorem dX11_tests_105 : decode cX11_tests 105 = .ok (.istore_n 2, 1) := by decide +kernel
theorem dX11_tests_106 : decode cX11_tests 106 = .ok (.aload_n 0, 1) := by decide +kernel
theorem dX11_tests_107 : decode cX11_tests 107 = .ok (.getfield 63, 3) := by decide +kernel
theorem dX11_tests_110 : decode cX11_tests 110 = .ok (.iload_n 1, 1) := by decide +kernel
theorem dX11_tests_111 : decode cX11_tests 111 = .ok (.iaload, 1) := by decide +kernel
theorem dX11_tests_112 : decode cX11_tests 112 = .ok (.bipush 27, 2) := by decide +kernel
theorem dX11_tests_114 : decode cX11_tests 114 = .ok (.if_icmp .ne 22, 3) := by decide +kernel
theorem dX11_tests_117 : decode cX11_tests 117 = .ok (.aload_n 0, 1) := by decide +kernel
theorem dX11_tests_118 : decode cX11_tests 118 = .ok (.getfield 60, 3) := by decide +kernel
theorem dX11_tests_121 : decode cX11_tests 121 = .ok (.iload_n 1, 1) := by decide +kernel
theorem dX11_tests_122 : decode cX11_tests 122 = .ok (.iaload, 1) := by decide +kernel
theorem dX11_tests_123 : decode cX11_tests 123 = .ok (.ifCond .ne 7, 3) := by decide +kernel
theorem dX11_tests_126 : decode cX11_tests 126 = .ok (.iload_n 2, 1) := by decide +kernel
theorem dX11_tests_127 : decode cX11_tests 127 = .ok (.ifCond .eq 7, 3) := by decide +kernel
theorem dX11_tests_130 : decode cX11_tests 130 = .ok (.iconst 1, 1) := by decide +kernel
theorem dX11_tests_131 : decode cX11_tests 131 = .ok (.goto 4, 3) := by decide +kernel
theorem dX11_tests_134 : decode cX11_tests 134 = .ok (.iconst 0, 1) := by decide +kernel
theorem dX11_tests_135 : decode cX11_tests 135 = .ok (.istore_n 2, 1) := by decide +kernel
theorem dX11_tests_136 : decode cX11_tests 136 = .ok (.aload_n 0, 1) := by decide +kernel
theorem dX11_tests_137 : decode cX11_tests 137 = .ok (.getfield 60, 3) := by decide +kernel
theorem dX11_tests_140 : decode cX11_tests 140 = .ok (.iload_n 1, 1) := by decide +kernel
theorem dX11_tests_141 : decode cX11_tests 141 = .ok (.iload_n 2, 1) := by decide +kernel
theorem dX11_tests_142 : decode cX11_tests 142 = .ok (.iastore, 1) := by decide +kernel
theorem dX11_tests_143 : decode cX11_tests 143 = .ok (.aload_n 0, 1) := by decide +kernel
theorem dX11_tests_144 : decode cX11_tests 144 = .ok (.getfield 69, 3) := by decide +kernel
theorem dX11_tests_147 : decode cX11_tests 147 = .ok (.iload_n 1, 1) := by decide +kernel
theorem dX11_tests_148 : decode cX11_tests 148 = .ok (.iconst 0, 1) := by decide +kernel
theorem dX11_tests_149 : decode cX11_tests 149 = .ok (.iastore, 1) := by decide +kernel
theorem dX11_tests_150 : decode cX11_tests 150 = .ok (.aload_n 0, 1) := by decide +kernel
theorem dX11_tests_151 : decode cX11_tests 151 = .ok (.getfield 72, 3) := by decide +kernel
theorem dX11_tests_154 : decode cX11_tests 154 = .ok (.iload_n 1, 1) := by decide +kernel
theorem dX11_tests_155 : decode cX11_tests 155 = .ok (.iconst 0, 1) := by decide +kernel
theorem dX11_tests_156 : decode cX11_tests 156 = .ok (.iastore, 1) := by decide +kernel
theorem dX11_tests_157 : decode cX11_tests 157 = .ok (.aload_n 0, 1) := by decide +kernel
theorem dX11_tests_158 : decode cX11_tests 158 = .ok (.getfield 75, 3) := by decide +kernel
theorem dX11_tests_161 : decode cX11_tests 161 = .ok (.iload_n 1, 1) := by decide +kernel
theorem dX11_tests_162 : decode cX11_tests 162 = .ok (.bipush 20, 2) := by decide +kernel
theorem dX11_tests_164 : decode cX11_tests 164 = .ok (.iastore, 1) := by decide +kernel
theorem dX11_tests_165 : decode cX11_tests 165 = .ok (.return_, 1) := by decide +kernel
theorem dX11_worked_0 : decode cX11_worked 0 = .ok (.iconst 0, 1) := by decide +kernel
theorem dX11_worked_1 : decode cX11_worked 1 = .ok (.istore_n 2, 1) := by decide +kernel
theorem dX11_worked_2 : decode cX11_worked 2 = .ok (.aload_n 0, 1) := by decide +kernel
theorem dX11_worked_3 : decode cX11_worked 3 = .ok (.iconst 0, 1) := by decide +kernel
theorem dX11_worked_4 : decode cX11_worked 4 = .ok (.invokevirtual 242, 3) := by decide +kernel
theorem dX11_worked_7 : decode cX11_worked 7 = .ok (.aload_n 0, 1) := by decide +kernel
theorem dX11_worked_8 : decode cX11_worked 8 = .ok (.getfield 44, 3) := by decide +kernel
theorem dX11_worked_11 : decode cX11_worked 11 = .ok (.iload_n 1, 1) := by decide +kernel
theorem dX11_worked_12 : decode cX11_worked 12 = .ok (.iaload, 1) := by decide +kernel
theorem dX11_worked_13 : decode cX11_worked 13 = .ok (.istore_n 3, 1) := by decide +kernel
theorem dX11_worked_14 : decode cX11_worked 14 = .ok (.iload_n 3, 1) := by decide +kernel
theorem dX11_worked_15 : decode cX11_worked 15 = .ok (.aload_n 0, 1) := by decide +kernel
theorem dX11_worked_16 : decode cX11_worked 16 = .ok (.getfield 47, 3) := by decide +kernel
theorem dX11_worked_19 : decode cX11_worked 19 = .ok (.iload_n 1, 1) := by decide +kernel
theorem dX11_worked_20 : decode cX11_worked 20 = .ok (.iaload, 1) := by decide +kernel
theorem dX11_worked_21 : decode cX11_worked 21 = .ok (.if_icmp .ge 314, 3) := by decide +kernel
theorem dX11_worked_24 : decode cX11_worked 24 = .ok (.aload_n 0, 1) := by decide +kernel
theorem dX11_worked_25 : decode cX11_worked 25 = .ok (.getfield 50, 3) := by decide +kernel
theorem dX11_worked_28 : decode cX11_worked 28 = .ok (.iload_n 3, 1) := by decide +kernel
theorem dX11_worked_29 : decode cX11_worked 29 = .ok (.iaload, 1) := by decide +kernel
theorem dX11_worked_30 : decode cX11_worked 30 = .ok (.istore 4, 2) := by decide +kernel
theorem dX11_worked_32 : decode cX11_worked 32 = .ok (.iload 4, 2) := by decide +kernel
theorem dX11_worked_34 : decode cX11_worked 34 = .ok (.bipush 28, 2) := by decide +kernel
theorem dX11_worked_36 : decode cX11_worked 36 = .ok (.if_icmp .eq 10, 3) := by decide +kernel
theorem dX11_worked_39 : decode cX11_worked 39 = .ok (.iload 4, 2) := by decide +kernel
theorem dX11_worked_41 : decode cX11_worked 41 = .ok (.bipush 30, 2) := by decide +kernel
theorem dX11_worked_43 : decode cX11_worked 43 = .ok (.if_icmp .ne 32, 3) := by decide +kernel
theorem dX11_worked_46 : decode cX11_worked 46 = .ok (.iinc 2 1, 3) := by decide +kernel
theorem dX11_worked_49 : decode cX11_worked 49 = .ok (.aload_n 0, 1) := by decide +kernel
theorem dX11_worked_50 : decode cX11_worked 50 = .ok (.getfield 84, 3) := by decide +kernel
theorem dX11_worked_53 : decode cX11_worked 53 = .ok (.iload_n 2, 1) := by decide +kernel
theorem dX11_worked_54 : decode cX11_worked 54 = .ok (.iload 4, 2) := by decide +kernel
theorem dX11_worked_56 : decode cX11_worked 56 = .ok (.bipush 30, 2) := by decide +kernel
theorem dX11_worked_58 : decode cX11_worked 58 = .ok (.if_icmp .ne 7, 3) := by decide +kernel
theorem dX11_worked_61 : decode cX11_worked 61 = .ok (.iconst 1, 1) := by decide +kernel
theorem dX11_worked_62 : decode cX11_worked 62 = .ok (.goto 4, 3) := by decide +kernel
theorem dX11_worked_65 : decode cX11_worked 65 = .ok (.iconst 0, 1) := by decide +kernel
theorem dX11_worked_66 : decode cX11_worked 66 = .ok (.iastore, 1) := by decide +kernel
theorem dX11_worked_67 : decode cX11_worked 67 = .ok (.aload_n 0, 1) := by decide +kernel
theorem dX11_worked_68 : decode cX11_worked 68 = .ok (.iload_n 2, 1) := by decide +kernel
theorem dX11_worked_69 : decode cX11_worked 69 = .ok (.invokevirtual 242, 3) := by decide +kernel
theorem dX11_worked_72 : decode cX11_worked 72 = .ok (.goto 257, 3) := by decide +kernel
theorem dX11_worked_75 : decode cX11_worked 75 = .ok (.iload 4, 2) := by decide +kernel
theorem dX11_worked_77 : decode cX11_worked 77 = .ok (.bipush 20, 2) := by decide +kernel
theorem dX11_worked_79 : decode cX11_worked 79 = .ok (.if_icmp .eq 10, 3) := by decide +kernel
theorem dX11_worked_82 : decode cX11_worked 82 = .ok (.iload 4, 2) := by decide +kernel
theorem dX11_worked_84 : decode cX11_worked 84 = .ok (.bipush 21, 2) := by decide +kernel
theorem dX11_worked_86 : decode cX11_worked 86 = .ok (.if_icmp .ne 19, 3) := by decide +kernel
theorem dX11_worked_89 : decode cX11_worked 89 = .ok (.aload_n 0, 1) := by decide +kernel
theorem dX11_worked_90 : decode cX11_worked 90 = .ok (.iload_n 2, 1) := by decide +kernel
theorem dX11_worked_91 : decode cX11_worked 91 = .ok (.invokevirtual 239, 3) := by decide +kernel
theorem dX11_worked_94 : decode cX11_worked 94 = .ok (.aload_n 0, 1) := by decide +kernel
theorem dX11_worked_95 : decode cX11_worked 95 = .ok (.getfield 75, 3) := by decide +kernel
theorem dX11_worked_98 : decode cX11_worked 98 = .ok (.iload_n 2, 1) := by decide +kernel
theorem dX11_worked_99 : decode cX11_worked 99 = .ok (.iload 4, 2) := by decide +kernel
theorem dX11_worked_101 : decode cX11_worked 101 = .ok (.iastore, 1) := by decide +kernel
theorem dX11_worked_102 : decode cX11_worked 102 = .ok (.goto 227, 3) := by decide +kernel
theorem dX11_worked_105 : decode cX11_worked 105 = .ok (.iload 4, 2) := by decide +kernel
theorem dX11_worked_107 : decode cX11_worked 107 = .ok (.bipush 22, 2) := by decide +kernel
theorem dX11_worked_109 : decode cX11_worked 109 = .ok (.if_icmp .ne 14, 3) := by decide +kernel
theorem dX11_worked_112 : decode cX11_worked 112 = .ok (.aload_n 0, 1) := by decide +kernel
theorem dX11_worked_113 : decode cX11_worked 113 = .ok (.getfield 81, 3) := by decide +kernel
theorem dX11_worked_116 : decode cX11_worked 116 = .ok (.iload_n 2, 1) := by decide +kernel
theorem dX11_worked_117 : decode cX11_worked 117 = .ok (.iload 4, 2) := by decide +kernel
theorem dX11_worked_119 : decode cX11_worked 119 = .ok (.iastore, 1) := by decide +kernel
theorem dX11_worked_120 : decode cX11_worked 120 = .ok (.goto 209, 3) := by decide +kernel
theorem dX11_worked_123 : decode cX11_worked 123 = .ok (.iload 4, 2) := by decide +kernel
theorem dX11_worked_125 : decode cX11_worked 125 = .ok (.bipush 24, 2) := by decide +kernel
theorem dX11_worked_127 : decode cX11_worked 127 = .ok (.if_icmp .eq 10, 3) := by decide +kernel
theorem dX11_worked_130 : decode cX11_worked 130 = .ok (.iload 4, 2) := by decide +kernel
theorem dX11_worked_132 : decode cX11_worked 132 = .ok (.bipush 25, 2) := by decide +kernel
theorem dX11_worked_134 : decode cX11_worked 134 = .ok (.if_icmp .ne 46, 3) := by decide +kernel
theorem dX11_worked_137 : decode cX11_worked 137 = .ok (.aload_n 0, 1) := by decide +kernel
theorem dX11_worked_138 : decode cX11_worked 138 = .ok (.iload_n 2, 1) := by decide +kernel
theorem dX11_worked_139 : decode cX11_worked 139 = .ok (.invokevirtual 239, 3) := by decide +kernel
theorem dX11_worked_142 : decode cX11_worked 142 = .ok (.aload_n 0, 1) := by decide +kernel
theorem dX11_worked_143 : decode cX11_worked 143 = .ok (.getfield 66, 3) := by decide +kernel
theorem dX11_worked_146 : decode cX11_worked 146 = .ok (.iload_n 2, 1) := by decide +kernel
theorem dX11_worked_147 : decode cX11_worked 147 = .ok (.aload_n 0, 1) := by decide +kernel
theorem dX11_worked_148 : decode cX11_worked 148 = .ok (.getfield 72, 3) := by decide +kernel
theorem dX11_worked_151 : decode cX11_worked 151 = .ok (.iload_n 2, 1) := by decide +kernel
theorem dX11_worked_152 : decode cX11_worked 152 = .ok (.iaload, 1) := by decide +kernel
theorem dX11_worked_153 : decode cX11_worked 153 = .ok (.iastore, 1) := by decide +kernel
theorem dX11_worked_154 : decode cX11_worked 154 = .ok (.aload_n 0, 1) := by decide +kernel
theorem dX11_worked_155 : decode cX11_worked 155 = .ok (.getfield 69, 3) := by decide +kernel
theorem dX11_worked_158 : decode cX11_worked 158 = .ok (.iload_n 2, 1) := by decide +kernel
theorem dX11_worked_159 : decode cX11_worked 159 = .ok (.iload 4, 2) := by decide +kernel
theorem dX11_worked_161 : decode cX11_worked 161 = .ok (.iastore, 1) := by decide +kernel
theorem dX11_worked_162 : decode cX11_worked 162 = .ok (.aload_n 0, 1) := by decide +kernel
theorem dX11_worked_163 : decode cX11_worked 163 = .ok (.getfield 72, 3) := by decide +kernel
theorem dX11_worked_166 : decode cX11_worked 166 = .ok (.iload_n 2, 1) := by decide +kernel
theorem dX11_worked_167 : decode cX11_worked 167 = .ok (.iconst 0, 1) := by decide +kernel
theorem dX11_worked_168 : decode cX11_worked 168 = .ok (.iastore, 1) := by decide +kernel
theorem dX11_worked_169 : decode cX11_worked 169 = .ok (.aload_n 0, 1) := by decide +kernel
theorem dX11_worked_170 : decode cX11_worked 170 = .ok (.getfield 75, 3) := by decide +kernel
theorem dX11_worked_173 : decode cX11_worked 173 = .ok (.iload_n 2, 1) := by decide +kernel
theorem dX11_worked_174 : decode cX11_worked 174 = .ok (.bipush 20, 2) := by decide +kernel
theorem dX11_worked_176 : decode cX11_worked 176 = .ok (.iastore, 1) := by decide +kernel
theorem dX11_worked_177 : decode cX11_worked 177 = .ok (.goto 152, 3) := by decide +kernel
theorem dX11_worked_180 : decode cX11_worked 180 = .ok (.iload 4, 2) := by decide +kernel
theorem dX11_worked_182 : decode cX11_worked 182 = .ok (.bipush 26, 2) := by decide +kernel
theorem dX11_worked_184 : decode cX11_worked 184 = .ok (.if_icmp .eq 10, 3) := by decide +kernel
theorem dX11_worked_187 : decode cX11_worked 187 = .ok (.iload 4, 2) := by decide +kernel
theorem dX11_worked_189 : decode cX11_worked 189 = .ok (.bipush 27, 2) := by decide +kernel
theorem dX11_worked_191 : decode cX11_worked 191 = .ok (.if_icmp .ne 19, 3) := by decide +kernel
theorem dX11_worked_194 : decode cX11_worked 194 = .ok (.aload_n 0, 1) := by decide +kernel
theorem dX11_worked_195 : decode cX11_worked 195 = .ok (.iload_n 2, 1) := by decide +kernel
theorem dX11_worked_196 : decode cX11_worked 196 = .ok (.invokevirtual 245, 3) := by decide +kernel
theorem dX11_worked_199 : decode cX11_worked 199 = .ok (.aload_n 0, 1) := by decide +kernel
theorem dX11_worked_200 : decode cX11_worked 200 = .ok (.getfield 63, 3) := by decide +kernel
theorem dX11_worked_203 : decode cX11_worked 203 = .ok (.iload_n 2, 1) := by decide +kernel
theorem dX11_worked_204 : decode cX11_worked 204 = .ok (.iload 4, 2) := by decide +kernel
theorem dX11_worked_206 : decode cX11_worked 206 = .ok (.iastore, 1) := by decide +kernel
theorem dX11_worked_207 : decode cX11_worked 207 = .ok (.goto 122, 3) := by decide +kernel
theorem dX11_worked_210 : decode cX11_worked 210 = .ok (.iload 4, 2) := by decide +kernel
theorem dX11_worked_212 : decode cX11_worked 212 = .ok (.bipush 100, 2) := by decide +kernel
theorem dX11_worked_214 : decode cX11_worked 214 = .ok (.if_icmp .lt 11, 3) := by decide +kernel
theorem dX11_worked_217 : decode cX11_worked 217 = .ok (.iload 4, 2) := by decide +kernel
theorem dX11_worked_219 : decode cX11_worked 219 = .ok (.bipush 100, 2) := by decide +kernel
theorem dX11_worked_221 : decode cX11_worked 221 = .ok (.isub, 1) := by decide +kernel
theorem dX11_worked_222 : decode cX11_worked 222 = .ok (.goto 21, 3) := by decide +kernel
theorem dX11_worked_225 : decode cX11_worked 225 = .ok (.iload 4, 2) := by decide +kernel
theorem dX11_worked_227 : decode cX11_worked 227 = .ok (.bipush 20, 2) := by decide +kernel
theorem dX11_worked_229 : decode cX11_worked 229 = .ok (.if_icmp .ge 13, 3) := by decide +kernel
theorem dX11_worked_232 : decode cX11_worked 232 = .ok (.aload_n 0, 1) := by decide +kernel
theorem dX11_worked_233 : decode cX11_worked 233 = .ok (.getfield 87, 3) := by decide +kernel
theorem dX11_worked_236 : decode cX11_worked 236 = .ok (.iload 4, 2) := by decide +kernel
theorem dX11_worked_238 : decode cX11_worked 238 = .ok (.iaload, 1) := by decide +kernel
theorem dX11_worked_239 : decode cX11_worked 239 = .ok (.goto 4, 3) := by decide +kernel
theorem dX11_worked_242 : decode cX11_worked 242 = .ok (.iconst 0, 1) := by decide +kernel
theorem dX11_worked_243 : decode cX11_worked 243 = .ok (.istore 5, 2) := by decide +kernel
theorem dX11_worked_245 : decode cX11_worked 245 = .ok (.iload 4, 2) := by decide +kernel
theorem dX11_worked_247 : decode cX11_worked 247 = .ok (.bipush 29, 2) := by decide +kernel
theorem dX11_worked_249 : decode cX11_worked 249 = .ok (.if_icmp .ne 19, 3) := by decide +kernel
theorem dX11_worked_252 : decode cX11_worked 252 = .ok (.aload_n 0, 1) := by decide +kernel
theorem dX11_worked_253 : decode cX11_worked 253 = .ok (.iload_n 2, 1) := by decide +kernel
theorem dX11_worked_254 : decode cX11_worked 254 = .ok (.invokevirtual 245, 3) := by decide +kernel
theorem dX11_worked_257 : decode cX11_worked 257 = .ok (.aload_n 0, 1) := by decide +kernel
theorem dX11_worked_258 : decode cX11_worked 258 = .ok (.getfield 60, 3) := by decide +kernel
theorem dX11_worked_261 : decode cX11_worked 261 = .ok (.iload_n 2, 1) := by decide +kernel
theorem dX11_worked_262 : decode cX11_worked 262 = .ok (.iaload, 1) := by decide +kernel
theorem dX11_worked_263 : decode cX11_worked 263 = .ok (.istore 5, 2) := by decide +kernel
theorem dX11_worked_265 : decode cX11_worked 265 = .ok (.iinc 2 (-1), 3) := by decide +kernel
theorem dX11_worked_268 : decode cX11_worked 268 = .ok (.iload_n 2, 1) := by decide +kernel
theorem dX11_worked_269 : decode cX11_worked 269 = .ok (.ifCond .le 31, 3) := by decide +kernel
theorem dX11_worked_272 : decode cX11_worked 272 = .ok (.aload_n 0, 1) := by decide +kernel
theorem dX11_worked_273 : decode cX11_worked 273 = .ok (.getfield 84, 3) := by decide +kernel
theorem dX11_worked_276 : decode cX11_worked 276 = .ok (.iload_n 2, 1) := by decide +kernel
theorem dX11_worked_277 : decode cX11_worked 277 = .ok (.iaload, 1) := by decide +kernel
theorem dX11_worked_278 : decode cX11_worked 278 = .ok (.iconst 1, 1) := by decide +kernel
theorem dX11_worked_279 : decode cX11_worked 279 = .ok (.if_icmp .ne 21, 3) := by decide +kernel
theorem dX11_worked_282 : decode cX11_worked 282 = .ok (.iload 5, 2) := by decide +kernel
theorem dX11_worked_284 : decode cX11_worked 284 = .ok (.ifCond .ne 7, 3) := by decide +kernel
theorem dX11_worked_287 : decode cX11_worked 287 = .ok (.iconst 1, 1) := by decide +kernel
theorem dX11_worked_288 : decode cX11_worked 288 = .ok (.goto 4, 3) := by decide +kernel
theorem dX11_worked_291 : decode cX11_worked 291 = .ok (.iconst 0, 1) := by decide +kernel
theorem dX11_worked_292 : decode cX11_worked 292 = .ok (.istore 5, 2) := by decide +kernel
theorem dX11_worked_294 : decode cX11_worked 294 = .ok (.iinc 2 (-1), 3) := by decide +kernel
theorem dX11_worked_297 : decode cX11_worked 297 = .ok (.goto (-29), 3) := by decide +kernel
theorem dX11_worked_300 : decode cX11_worked 300 = .ok (.aload_n 0, 1) := by decide +kernel
theorem dX11_worked_301 : decode cX11_worked 301 = .ok (.getfield 78, 3) := by decide +kernel
theorem dX11_worked_304 : decode cX11_worked 304 = .ok (.iload_n 2, 1) := by decide +kernel
theorem dX11_worked_305 : decode cX11_worked 305 = .ok (.aload_n 0, 1) := by decide +kernel
theorem dX11_worked_306 : decode cX11_worked 306 = .ok (.getfield 81, 3) := by decide +kernel
theorem dX11_worked_309 : decode cX11_worked 309 = .ok (.iload_n 2, 1) := by decide +kernel
theorem dX11_worked_310 : decode cX11_worked 310 = .ok (.iaload, 1) := by decide +kernel
theorem dX11_worked_311 : decode cX11_worked 311 = .ok (.ifCond .ne 8, 3) := by decide +kernel
theorem dX11_worked_314 : decode cX11_worked 314 = .ok (.iload 5, 2) := by decide +kernel
theorem dX11_worked_316 : decode cX11_worked 316 = .ok (.goto 12, 3) := by decide +kernel
theorem dX11_worked_319 : decode cX11_worked 319 = .ok (.aload_n 0, 1) := by decide +kernel
theorem dX11_worked_320 : decode cX11_worked 320 = .ok (.getfield 78, 3) := by decide +kernel
theorem dX11_worked_323 : decode cX11_worked 323 = .ok (.iload_n 2, 1) := by decide +kernel
theorem dX11_worked_324 : decode cX11_worked 324 = .ok (.iaload, 1) := by decide +kernel
theorem dX11_worked_325 : decode cX11_worked 325 = .ok (.iload 5, 2) := by decide +kernel
theorem dX11_worked_327 : decode cX11_worked 327 = .ok (.imul, 1) := by decide +kernel
theorem dX11_worked_328 : decode cX11_worked 328 = .ok (.iastore, 1) := by decide +kernel
theorem dX11_worked_329 : decode cX11_worked 329 = .ok (.iinc 3 1, 3) := by decide +kernel
theorem dX11_worked_332 : decode cX11_worked 332 = .ok (.goto (-318), 3) := by decide +kernel
theorem dX11_worked_335 : decode cX11_worked 335 = .ok (.aload_n 0, 1) := by decide +kernel
theorem dX11_worked_336 : decode cX11_worked 336 = .ok (.iconst 0, 1) := by decide +kernel
theorem dX11_worked_337 : decode cX11_worked 337 = .ok (.invokevirtual 245, 3) := by decide +kernel
theorem dX11_worked_340 : decode cX11_worked 340 = .ok (.aload_n 0, 1) := by decide +kernel
theorem dX11_worked_341 : decode cX11_worked 341 = .ok (.getfield 60, 3) := by decide +kernel
theorem dX11_worked_344 : decode cX11_worked 344 = .ok (.iconst 0, 1) := by decide +kernel
theorem dX11_worked_345 : decode cX11_worked 345 = .ok (.iaload, 1) := by decide +kernel
theorem dX11_worked_346 : decode cX11_worked 346 = .ok (.ireturn, 1) := by decide +kernel
theorem dX11_isKept_0 : decode cX11_isKept 0 = .ok (.aload_n 0, 1) := by decide +kernel
theorem dX11_isKept_1 : decode cX11_isKept 1 = .ok (.getfield 181, 3) := by decide +kernel
theorem dX11_isKept_4 : decode cX11_isKept 4 = .ok (.iconst 1, 1) := by decide +kernel
theorem dX11_isKept_5 : decode cX11_isKept 5 = .ok (.if_icmp .eq 5, 3) := by decide +kernel
theorem dX11_isKept_8 : decode cX11_isKept 8 = .ok (.iconst 1, 1) := by decide +kernel
theorem dX11_isKept_9 : decode cX11_isKept 9 = .ok (.ireturn, 1) := by decide +kernel
theorem dX11_isKept_10 : decode cX11_isKept 10 = .ok (.aload_n 0, 1) := by decide +kernel
theorem dX11_isKept_11 : decode cX11_isKept 11 = .ok (.getfield 174, 3) := by decide +kernel
theorem dX11_isKept_14 : decode cX11_isKept 14 = .ok (.ldc2_w 248, 3) := by decide +kernel
theorem dX11_isKept_17 : decode cX11_isKept 17 = .ok (.lcmp, 1) := by decide +kernel
theorem dX11_isKept_18 : decode cX11_isKept 18 = .ok (.ifCond .eq 234, 3) := by decide +kernel
theorem dX11_isKept_21 : decode cX11_isKept 21 = .ok (.aload_n 0, 1) := by decide +kernel
theorem dX11_isKept_22 : decode cX11_isKept 22 = .ok (.getfield 174, 3) := by decide +kernel
theorem dX11_isKept_25 : decode cX11_isKept 25 = .ok (.ldc2_w 250, 3) := by decide +kernel
theorem dX11_isKept_28 : decode cX11_isKept 28 = .ok (.lcmp, 1) := by decide +kernel
theorem dX11_isKept_29 : decode cX11_isKept 29 = .ok (.ifCond .eq 223, 3) := by decide +kernel
theorem dX11_isKept_32 : decode cX11_isKept 32 = .ok (.aload_n 0, 1) := by decide +kernel
theorem dX11_isKept_33 : decode cX11_isKept 33 = .ok (.getfield 174, 3) := by decide +kernel
theorem dX11_isKept_36 : decode cX11_isKept 36 = .ok (.ldc2_w 252, 3) := by decide +kernel
theorem dX11_isKept_39 : decode cX11_isKept 39 = .ok (.lcmp, 1) := by decide +kernel
theorem dX11_isKept_40 : decode cX11_isKept 40 = .ok (.ifCond .eq 212, 3) := by decide +kernel
theorem dX11_isKept_43 : decode cX11_isKept 43 = .ok (.aload_n 0, 1) := by decide +kernel
theorem dX11_isKept_44 : decode cX11_isKept 44 = .ok (.getfield 174, 3) := by decide +kernel
theorem dX11_isKept_47 : decode cX11_isKept 47 = .ok (.ldc2_w 254, 3) := by decide +kernel
theorem dX11_isKept_50 : decode cX11_isKept 50 = .ok (.lcmp, 1) := by decide +kernel
theorem dX11_isKept_51 : decode cX11_isKept 51 = .ok (.ifCond .eq 201, 3) := by decide +kernel
theorem dX11_isKept_54 : decode cX11_isKept 54 = .ok (.aload_n 0, 1) := by decide +kernel
theorem dX11_isKept_55 : decode cX11_isKept 55 = .ok (.getfield 174, 3) := by decide +kernel
theorem dX11_isKept_58 : decode cX11_isKept 58 = .ok (.ldc2_w 256, 3) := by decide +kernel
theorem dX11_isKept_61 : decode cX11_isKept 61 = .ok (.lcmp, 1) := by decide +kernel
theorem dX11_isKept_62 : decode cX11_isKept 62 = .ok (.ifCond .eq 190, 3) := by decide +kernel
theorem dX11_isKept_65 : decode cX11_isKept 65 = .ok (.aload_n 0, 1) := by decide +kernel
theorem dX11_isKept_66 : decode cX11_isKept 66 = .ok (.getfield 174, 3) := by decide +kernel
theorem dX11_isKept_69 : decode cX11_isKept 69 = .ok (.ldc2_w 258, 3) := by decide +kernel
theorem dX11_isKept_72 : decode cX11_isKept 72 = .ok (.lcmp, 1) := by decide +kernel
theorem dX11_isKept_73 : decode cX11_isKept 73 = .ok (.ifCond .eq 179, 3) := by decide +kernel
theorem dX11_isKept_76 : decode cX11_isKept 76 = .ok (.aload_n 0, 1) := by decide +kernel
theorem dX11_isKept_77 : decode cX11_isKept 77 = .ok (.getfield 174, 3) := by decide +kernel
theorem dX11_isKept_80 : decode cX11_isKept 80 = .ok (.ldc2_w 260, 3) := by decide +kernel
theorem dX11_isKept_83 : decode cX11_isKept 83 = .ok (.lcmp, 1) := by decide +kernel
theorem dX11_isKept_84 : decode cX11_isKept 84 = .ok (.ifCond .eq 168, 3) := by decide +kernel
theorem dX11_isKept_87 : decode cX11_isKept 87 = .ok (.aload_n 0, 1) := by decide +kernel
theorem dX11_isKept_88 : decode cX11_isKept 88 = .ok (.getfield 174, 3) := by decide +kernel
theorem dX11_isKept_91 : decode cX11_isKept 91 = .ok (.ldc2_w 262, 3) := by decide +kernel
theorem dX11_isKept_94 : decode cX11_isKept 94 = .ok (.lcmp, 1) := by decide +kernel
theorem dX11_isKept_95 : decode cX11_isKept 95 = .ok (.ifCond .eq 157, 3) := by decide +kernel
theorem dX11_isKept_98 : decode cX11_isKept 98 = .ok (.aload_n 0, 1) := by decide +kernel
theorem dX11_isKept_99 : decode cX11_isKept 99 = .ok (.getfield 174, 3) := by decide +kernel
theorem dX11_isKept_102 : decode cX11_isKept 102 = .ok (.ldc2_w 264, 3) := by decide +kernel
theorem dX11_isKept_105 : decode cX11_isKept 105 = .ok (.lcmp, 1) := by decide +kernel
theorem dX11_isKept_106 : decode cX11_isKept 106 = .ok (.ifCond .eq 146, 3) := by decide +kernel
theorem dX11_isKept_109 : decode cX11_isKept 109 = .ok (.aload_n 0, 1) := by decide +kernel
theorem dX11_isKept_110 : decode cX11_isKept 110 = .ok (.getfield 174, 3) := by decide +kernel
theorem dX11_isKept_113 : decode cX11_isKept 113 = .ok (.ldc2_w 266, 3) := by decide +kernel
theorem dX11_isKept_116 : decode cX11_isKept 116 = .ok (.lcmp, 1) := by decide +kernel
theorem dX11_isKept_117 : decode cX11_isKept 117 = .ok (.ifCond .eq 135, 3) := by decide +kernel
theorem dX11_isKept_120 : decode cX11_isKept 120 = .ok (.aload_n 0, 1) := by decide +kernel
theorem dX11_isKept_121 : decode cX11_isKept 121 = .ok (.getfield 174, 3) := by decide +kernel
theorem dX11_isKept_124 : decode cX11_isKept 124 = .ok (.ldc2_w 268, 3) := by decide +kernel
theorem dX11_isKept_127 : decode cX11_isKept 127 = .ok (.lcmp, 1) := by decide +kernel
theorem dX11_isKept_128 : decode cX11_isKept 128 = .ok (.ifCond .eq 124, 3) := by decide +kernel
theorem dX11_isKept_131 : decode cX11_isKept 131 = .ok (.aload_n 0, 1) := by decide +kernel
theorem dX11_isKept_132 : decode cX11_isKept 132 = .ok (.getfield 174, 3) := by decide +kernel
theorem dX11_isKept_135 : decode cX11_isKept 135 = .ok (.ldc2_w 270, 3) := by decide +kernel
theorem dX11_isKept_138 : decode cX11_isKept 138 = .ok (.lcmp, 1) := by decide +kernel
theorem dX11_isKept_139 : decode cX11_isKept 139 = .ok (.ifCond .eq 113, 3) := by decide +kernel
theorem dX11_isKept_142 : decode cX11_isKept 142 = .ok (.aload_n 0, 1) := by decide +kernel
theorem dX11_isKept_143 : decode cX11_isKept 143 = .ok (.getfield 174, 3) := by decide +kernel
theorem dX11_isKept_146 : decode cX11_isKept 146 = .ok (.ldc2_w 272, 3) := by decide +kernel
theorem dX11_isKept_149 : decode cX11_isKept 149 = .ok (.lcmp, 1) := by decide +kernel
theorem dX11_isKept_150 : decode cX11_isKept 150 = .ok (.ifCond .eq 102, 3) := by decide +kernel
theorem dX11_isKept_153 : decode cX11_isKept 153 = .ok (.aload_n 0, 1) := by decide +kernel
theorem dX11_isKept_154 : decode cX11_isKept 154 = .ok (.getfield 174, 3) := by decide +kernel
theorem dX11_isKept_157 : decode cX11_isKept 157 = .ok (.ldc2_w 274, 3) := by decide +kernel
theorem dX11_isKept_160 : decode cX11_isKept 160 = .ok (.lcmp, 1) := by decide +kernel
theorem dX11_isKept_161 : decode cX11_isKept 161 = .ok (.ifCond .eq 91, 3) := by decide +kernel
theorem dX11_isKept_164 : decode cX11_isKept 164 = .ok (.aload_n 0, 1) := by decide +kernel
theorem dX11_isKept_165 : decode cX11_isKept 165 = .ok (.getfield 174, 3) := by decide +kernel
theorem dX11_isKept_168 : decode cX11_isKept 168 = .ok (.ldc2_w 276, 3) := by decide +kernel
theorem dX11_isKept_171 : decode cX11_isKept 171 = .ok (.lcmp, 1) := by decide +kernel
theorem dX11_isKept_172 : decode cX11_isKept 172 = .ok (.ifCond .eq 80, 3) := by decide +kernel
theorem dX11_isKept_175 : decode cX11_isKept 175 = .ok (.aload_n 0, 1) := by decide +kernel
theorem dX11_isKept_176 : decode cX11_isKept 176 = .ok (.getfield 174, 3) := by decide +kernel
theorem dX11_isKept_179 : decode cX11_isKept 179 = .ok (.ldc2_w 278, 3) := by decide +kernel
theorem dX11_isKept_182 : decode cX11_isKept 182 = .ok (.lcmp, 1) := by decide +kernel
theorem dX11_isKept_183 : decode cX11_isKept 183 = .ok (.ifCond .eq 69, 3) := by decide +kernel
theorem dX11_isKept_186 : decode cX11_isKept 186 = .ok (.aload_n 0, 1) := by decide +kernel
theorem dX11_isKept_187 : decode cX11_isKept 187 = .ok (.getfield 174, 3) := by decide +kernel
theorem dX11_isKept_190 : decode cX11_isKept 190 = .ok (.ldc2_w 280, 3) := by decide +kernel
theorem dX11_isKept_193 : decode cX11_isKept 193 = .ok (.lcmp, 1) := by decide +kernel
theorem dX11_isKept_194 : decode cX11_isKept 194 = .ok (.ifCond .eq 58, 3) := by decide +kernel
theorem dX11_isKept_197 : decode cX11_isKept 197 = .ok (.aload_n 0, 1) := by decide +kernel
theorem dX11_isKept_198 : decode cX11_isKept 198 = .ok (.getfield 174, 3) := by decide +kernel
theorem dX11_isKept_201 : decode cX11_isKept 201 = .ok (.ldc2_w 282, 3) := by decide +kernel
theorem dX11_isKept_204 : decode cX11_isKept 204 = .ok (.lcmp, 1) := by decide +kernel
theorem dX11_isKept_205 : decode cX11_isKept 205 = .ok (.ifCond .eq 47, 3) := by decide +kernel
theorem dX11_isKept_208 : decode cX11_isKept 208 = .ok (.aload_n 0, 1) := by decide +kernel
theorem dX11_isKept_209 : decode cX11_isKept 209 = .ok (.getfield 174, 3) := by decide +kernel
theorem dX11_isKept_212 : decode cX11_isKept 212 = .ok (.ldc2_w 284, 3) := by decide +kernel
theorem dX11_isKept_215 : decode cX11_isKept 215 = .ok (.lcmp, 1) := by decide +kernel
theorem dX11_isKept_216 : decode cX11_isKept 216 = .ok (.ifCond .eq 36, 3) := by decide +kernel
theorem dX11_isKept_219 : decode cX11_isKept 219 = .ok (.aload_n 0, 1) := by decide +kernel
theorem dX11_isKept_220 : decode cX11_isKept 220 = .ok (.getfield 174, 3) := by decide +kernel
theorem dX11_isKept_223 : decode cX11_isKept 223 = .ok (.ldc2_w 215, 3) := by decide +kernel
theorem dX11_isKept_226 : decode cX11_isKept 226 = .ok (.lcmp, 1) := by decide +kernel
theorem dX11_isKept_227 : decode cX11_isKept 227 = .ok (.ifCond .eq 25, 3) := by decide +kernel
theorem dX11_isKept_230 : decode cX11_isKept 230 = .ok (.aload_n 0, 1) := by decide +kernel
theorem dX11_isKept_231 : decode cX11_isKept 231 = .ok (.getfield 174, 3) := by decide +kernel
theorem dX11_isKept_234 : decode cX11_isKept 234 = .ok (.ldc2_w 235, 3) := by decide +kernel
theorem dX11_isKept_237 : decode cX11_isKept 237 = .ok (.lcmp, 1) := by decide +kernel
theorem dX11_isKept_238 : decode cX11_isKept 238 = .ok (.ifCond .eq 14, 3) := by decide +kernel
theorem dX11_isKept_241 : decode cX11_isKept 241 = .ok (.aload_n 0, 1) := by decide +kernel
theorem dX11_isKept_242 : decode cX11_isKept 242 = .ok (.getfield 174, 3) := by decide +kernel
theorem dX11_isKept_245 : decode cX11_isKept 245 = .ok (.ldc2_w 237, 3) := by decide +kernel
theorem dX11_isKept_248 : decode cX11_isKept 248 = .ok (.lcmp, 1) := by decide +kernel
theorem dX11_isKept_249 : decode cX11_isKept 249 = .ok (.ifCond .ne 7, 3) := by decide +kernel
theorem dX11_isKept_252 : decode cX11_isKept 252 = .ok (.iconst 1, 1) := by decide +kernel
theorem dX11_isKept_253 : decode cX11_isKept 253 = .ok (.goto 4, 3) := by decide +kernel
theorem dX11_isKept_256 : decode cX11_isKept 256 = .ok (.iconst 0, 1) := by decide +kernel
theorem dX11_isKept_257 : decode cX11_isKept 257 = .ok (.ireturn, 1) := by decide +kernel
theorem dX11_firstName_0 : decode cX11_firstName 0 = .ok (.iload_n 0, 1) := by decide +kernel
theorem dX11_firstName_1 : decode cX11_firstName 1 = .ok (.ifCond .ne 7, 3) := by decide +kernel
theorem dX11_firstName_4 : decode cX11_firstName 4 = .ok (.iconst 0, 1) := by decide +kernel
theorem dX11_firstName_5 : decode cX11_firstName 5 = .ok (.goto 34, 3) := by decide +kernel
theorem dX11_firstName_8 : decode cX11_firstName 8 = .ok (.iload_n 0, 1) := by decide +kernel
theorem dX11_firstName_9 : decode cX11_firstName 9 = .ok (.iconst 1, 1) := by decide +kernel
theorem dX11_firstName_10 : decode cX11_firstName 10 = .ok (.if_icmp .ne 7, 3) := by decide +kernel
theorem dX11_firstName_13 : decode cX11_firstName 13 = .ok (.iconst 5, 1) := by decide +kernel
theorem dX11_firstName_14 : decode cX11_firstName 14 = .ok (.goto 25, 3) := by decide +kernel
theorem dX11_firstName_17 : decode cX11_firstName 17 = .ok (.iload_n 0, 1) := by decide +kernel
theorem dX11_firstName_18 : decode cX11_firstName 18 = .ok (.iconst 2, 1) := by decide +kernel
theorem dX11_firstName_19 : decode cX11_firstName 19 = .ok (.if_icmp .ne 8, 3) := by decide +kernel
theorem dX11_firstName_22 : decode cX11_firstName 22 = .ok (.bipush 8, 2) := by decide +kernel
theorem dX11_firstName_24 : decode cX11_firstName 24 = .ok (.goto 15, 3) := by decide +kernel
theorem dX11_firstName_27 : decode cX11_firstName 27 = .ok (.iload_n 0, 1) := by decide +kernel
theorem dX11_firstName_28 : decode cX11_firstName 28 = .ok (.iconst 3, 1) := by decide +kernel
theorem dX11_firstName_29 : decode cX11_firstName 29 = .ok (.if_icmp .ne 8, 3) := by decide +kernel
theorem dX11_firstName_32 : decode cX11_firstName 32 = .ok (.bipush 12, 2) := by decide +kernel
theorem dX11_firstName_34 : decode cX11_firstName 34 = .ok (.goto 5, 3) := by decide +kernel
theorem dX11_firstName_37 : decode cX11_firstName 37 = .ok (.bipush 18, 2) := by decide +kernel
theorem dX11_firstName_39 : decode cX11_firstName 39 = .ok (.ireturn, 1) := by decide +kernel
theorem dX11_named_0 : decode cX11_named 0 = .ok (.bipush 22, 2) := by decide +kernel
theorem dX11_named_2 : decode cX11_named 2 = .ok (.iload_n 1, 1) := by decide +kernel
theorem dX11_named_3 : decode cX11_named 3 = .ok (.imul, 1) := by decide +kernel
theorem dX11_named_4 : decode cX11_named 4 = .ok (.iload_n 2, 1) := by decide +kernel
theorem dX11_named_5 : decode cX11_named 5 = .ok (.invokestatic 286, 3) := by decide +kernel
theorem dX11_named_8 : decode cX11_named 8 = .ok (.iadd, 1) := by decide +kernel
theorem dX11_named_9 : decode cX11_named 9 = .ok (.istore_n 3, 1) := by decide +kernel
theorem dX11_named_10 : decode cX11_named 10 = .ok (.iconst 0, 1) := by decide +kernel
theorem dX11_named_11 : decode cX11_named 11 = .ok (.istore 4, 2) := by decide +kernel
theorem dX11_named_13 : decode cX11_named 13 = .ok (.iload 4, 2) := by decide +kernel
theorem dX11_named_15 : decode cX11_named 15 = .ok (.aload_n 0, 1) := by decide +kernel
theorem dX11_named_16 : decode cX11_named 16 = .ok (.getfield 13, 3) := by decide +kernel
theorem dX11_named_19 : decode cX11_named 19 = .ok (.bipush 6, 2) := by decide +kernel
theorem dX11_named_21 : decode cX11_named 21 = .ok (.iload_n 1, 1) := by decide +kernel
theorem dX11_named_22 : decode cX11_named 22 = .ok (.imul, 1) := by decide +kernel
theorem dX11_named_23 : decode cX11_named 23 = .ok (.iload_n 2, 1) := by decide +kernel
theorem dX11_named_24 : decode cX11_named 24 = .ok (.iadd, 1) := by decide +kernel
theorem dX11_named_25 : decode cX11_named 25 = .ok (.iaload, 1) := by decide +kernel
theorem dX11_named_26 : decode cX11_named 26 = .ok (.if_icmp .ge 29, 3) := by decide +kernel
theorem dX11_named_29 : decode cX11_named 29 = .ok (.aload_n 0, 1) := by decide +kernel
theorem dX11_named_30 : decode cX11_named 30 = .ok (.getfield 16, 3) := by decide +kernel
theorem dX11_named_33 : decode cX11_named 33 = .ok (.iload_n 3, 1) := by decide +kernel
theorem dX11_named_34 : decode cX11_named 34 = .ok (.iload 4, 2) := by decide +kernel
theorem dX11_named_36 : decode cX11_named 36 = .ok (.iadd, 1) := by decide +kernel
theorem dX11_named_37 : decode cX11_named 37 = .ok (.laload, 1) := by decide +kernel
theorem dX11_named_38 : decode cX11_named 38 = .ok (.aload_n 0, 1) := by decide +kernel
theorem dX11_named_39 : decode cX11_named 39 = .ok (.getfield 174, 3) := by decide +kernel
theorem dX11_named_42 : decode cX11_named 42 = .ok (.lcmp, 1) := by decide +kernel
theorem dX11_named_43 : decode cX11_named 43 = .ok (.ifCond .ne 6, 3) := by decide +kernel
theorem dX11_named_46 : decode cX11_named 46 = .ok (.iload 4, 2) := by decide +kernel
theorem dX11_named_48 : decode cX11_named 48 = .ok (.ireturn, 1) := by decide +kernel
theorem dX11_named_49 : decode cX11_named 49 = .ok (.iinc 4 1, 3) := by decide +kernel
theorem dX11_named_52 : decode cX11_named 52 = .ok (.goto (-39), 3) := by decide +kernel
theorem dX11_named_55 : decode cX11_named 55 = .ok (.iconst (-1), 1) := by decide +kernel
theorem dX11_named_56 : decode cX11_named 56 = .ok (.ireturn, 1) := by decide +kernel
theorem dX11_needsNumber_0 : decode cX11_needsNumber 0 = .ok (.aload_n 0, 1) := by decide +kernel
theorem dX11_needsNumber_1 : decode cX11_needsNumber 1 = .ok (.getfield 181, 3) := by decide +kernel
theorem dX11_needsNumber_4 : decode cX11_needsNumber 4 = .ok (.iconst 2, 1) := by decide +kernel
theorem dX11_needsNumber_5 : decode cX11_needsNumber 5 = .ok (.if_icmp .eq 9, 3) := by decide +kernel
theorem dX11_needsNumber_8 : decode cX11_needsNumber 8 = .ok (.aload_n 0, 1) := by decide +kernel
theorem dX11_needsNumber_9 : decode cX11_needsNumber 9 = .ok (.iconst 1, 1) := by decide +kernel
theorem dX11_needsNumber_10 : decode cX11_needsNumber 10 = .ok (.invokevirtual 225, 3) := by decide +kernel
theorem dX11_needsNumber_13 : decode cX11_needsNumber 13 = .ok (.ireturn, 1) := by decide +kernel
theorem dX11_needsNumber_14 : decode cX11_needsNumber 14 = .ok (.aload_n 0, 1) := by decide +kernel
theorem dX11_needsNumber_15 : decode cX11_needsNumber 15 = .ok (.getfield 178, 3) := by decide +kernel
theorem dX11_needsNumber_18 : decode cX11_needsNumber 18 = .ok (.iload_n 1, 1) := by decide +kernel
theorem dX11_needsNumber_19 : decode cX11_needsNumber 19 = .ok (.iload_n 2, 1) := by decide +kernel
theorem dX11_needsNumber_20 : decode cX11_needsNumber 20 = .ok (.invokestatic 289, 3) := by decide +kernel
theorem dX11_needsNumber_23 : decode cX11_needsNumber 23 = .ok (.ifCond .ne 9, 3) := by decide +kernel
theorem dX11_needsNumber_26 : decode cX11_needsNumber 26 = .ok (.aload_n 0, 1) := by decide +kernel
theorem dX11_needsNumber_27 : decode cX11_needsNumber 27 = .ok (.iconst 4, 1) := by decide +kernel
theorem dX11_needsNumber_28 : decode cX11_needsNumber 28 = .ok (.invokevirtual 225, 3) := by decide +kernel
theorem dX11_needsNumber_31 : decode cX11_needsNumber 31 = .ok (.ireturn, 1) := by decide +kernel
theorem dX11_needsNumber_32 : decode cX11_needsNumber 32 = .ok (.aload_n 0, 1) := by decide +kernel
theorem dX11_needsNumber_33 : decode cX11_needsNumber 33 = .ok (.aload_n 0, 1) := by decide +kernel
theorem dX11_needsNumber_34 : decode cX11_needsNumber 34 = .ok (.getfield 178, 3) := by decide +kernel
theorem dX11_needsNumber_37 : decode cX11_needsNumber 37 = .ok (.putfield 293, 3) := by decide +kernel
theorem dX11_needsNumber_40 : decode cX11_needsNumber 40 = .ok (.aload_n 0, 1) := by decide +kernel
theorem dX11_needsNumber_41 : decode cX11_needsNumber 41 = .ok (.invokevirtual 232, 3) := by decide +kernel
theorem dX11_needsNumber_44 : decode cX11_needsNumber 44 = .ok (.iconst 1, 1) := by decide +kernel
theorem dX11_needsNumber_45 : decode cX11_needsNumber 45 = .ok (.ireturn, 1) := by decide +kernel
theorem dX11_needsWord_0 : decode cX11_needsWord 0 = .ok (.aload_n 0, 1) := by decide +kernel
theorem dX11_needsWord_1 : decode cX11_needsWord 1 = .ok (.lload_n 1, 1) := by decide +kernel
theorem dX11_needsWord_2 : decode cX11_needsWord 2 = .ok (.invokevirtual 217, 3) := by decide +kernel
theorem dX11_needsWord_5 : decode cX11_needsWord 5 = .ok (.ifCond .ne 9, 3) := by decide +kernel
theorem dX11_needsWord_8 : decode cX11_needsWord 8 = .ok (.aload_n 0, 1) := by decide +kernel
theorem dX11_needsWord_9 : decode cX11_needsWord 9 = .ok (.iconst 1, 1) := by decide +kernel
theorem dX11_needsWord_10 : decode cX11_needsWord 10 = .ok (.invokevirtual 225, 3) := by decide +kernel
theorem dX11_needsWord_13 : decode cX11_needsWord 13 = .ok (.ireturn, 1) := by decide +kernel
theorem dX11_needsWord_14 : decode cX11_needsWord 14 = .ok (.aload_n 0, 1) := by decide +kernel
theorem dX11_needsWord_15 : decode cX11_needsWord 15 = .ok (.invokevirtual 232, 3) := by decide +kernel
theorem dX11_needsWord_18 : decode cX11_needsWord 18 = .ok (.iconst 1, 1) := by decide +kernel
theorem dX11_needsWord_19 : decode cX11_needsWord 19 = .ok (.ireturn, 1) := by decide +kernel
theorem dX11_needsBoth_0 : decode cX11_needsBoth 0 = .ok (.aload_n 0, 1) := by decide +kernel
theorem dX11_needsBoth_1 : decode cX11_needsBoth 1 = .ok (.lload_n 1, 1) := by decide +kernel
theorem dX11_needsBoth_2 : decode cX11_needsBoth 2 = .ok (.invokevirtual 296, 3) := by decide +kernel
theorem dX11_needsBoth_5 : decode cX11_needsBoth 5 = .ok (.ifCond .eq 17, 3) := by decide +kernel
theorem dX11_needsBoth_8 : decode cX11_needsBoth 8 = .ok (.aload_n 0, 1) := by decide +kernel
theorem dX11_needsBoth_9 : decode cX11_needsBoth 9 = .ok (.iload_n 3, 1) := by decide +kernel
theorem dX11_needsBoth_10 : decode cX11_needsBoth 10 = .ok (.iload 4, 2) := by decide +kernel
theorem dX11_needsBoth_12 : decode cX11_needsBoth 12 = .ok (.invokevirtual 299, 3) := by decide +kernel
theorem dX11_needsBoth_15 : decode cX11_needsBoth 15 = .ok (.ifCond .eq 7, 3) := by decide +kernel
theorem dX11_needsBoth_18 : decode cX11_needsBoth 18 = .ok (.iconst 1, 1) := by decide +kernel
theorem dX11_needsBoth_19 : decode cX11_needsBoth 19 = .ok (.goto 4, 3) := by decide +kernel
theorem dX11_needsBoth_22 : decode cX11_needsBoth 22 = .ok (.iconst 0, 1) := by decide +kernel
theorem dX11_needsBoth_23 : decode cX11_needsBoth 23 = .ok (.ireturn, 1) := by decide +kernel
theorem dX11_closes_0 : decode cX11_closes 0 = .ok (.aload_n 0, 1) := by decide +kernel
theorem dX11_closes_1 : decode cX11_closes 1 = .ok (.bipush 59, 2) := by decide +kernel
theorem dX11_closes_3 : decode cX11_closes 3 = .ok (.invokevirtual 221, 3) := by decide +kernel
theorem dX11_closes_6 : decode cX11_closes 6 = .ok (.ifCond .ne 9, 3) := by decide +kernel
theorem dX11_closes_9 : decode cX11_closes 9 = .ok (.aload_n 0, 1) := by decide +kernel
theorem dX11_closes_10 : decode cX11_closes 10 = .ok (.iconst 1, 1) := by decide +kernel
theorem dX11_closes_11 : decode cX11_closes 11 = .ok (.invokevirtual 225, 3) := by decide +kernel
theorem dX11_closes_14 : decode cX11_closes 14 = .ok (.ireturn, 1) := by decide +kernel
theorem dX11_closes_15 : decode cX11_closes 15 = .ok (.aload_n 0, 1) := by decide +kernel
theorem dX11_closes_16 : decode cX11_closes 16 = .ok (.invokevirtual 232, 3) := by decide +kernel
theorem dX11_closes_19 : decode cX11_closes 19 = .ok (.iconst 1, 1) := by decide +kernel
theorem dX11_closes_20 : decode cX11_closes 20 = .ok (.ireturn, 1) := by decide +kernel
theorem dX11_needsNew_0 : decode cX11_needsNew 0 = .ok (.aload_n 0, 1) := by decide +kernel
theorem dX11_needsNew_1 : decode cX11_needsNew 1 = .ok (.invokevirtual 303, 3) := by decide +kernel
theorem dX11_needsNew_4 : decode cX11_needsNew 4 = .ok (.ifCond .eq 9, 3) := by decide +kernel
theorem dX11_needsNew_7 : decode cX11_needsNew 7 = .ok (.aload_n 0, 1) := by decide +kernel
theorem dX11_needsNew_8 : decode cX11_needsNew 8 = .ok (.iconst 1, 1) := by decide +kernel
theorem dX11_needsNew_9 : decode cX11_needsNew 9 = .ok (.invokevirtual 225, 3) := by decide +kernel
theorem dX11_needsNew_12 : decode cX11_needsNew 12 = .ok (.ireturn, 1) := by decide +kernel
theorem dX11_needsNew_13 : decode cX11_needsNew 13 = .ok (.iconst 0, 1) := by decide +kernel
theorem dX11_needsNew_14 : decode cX11_needsNew 14 = .ok (.istore_n 1, 1) := by decide +kernel
theorem dX11_needsNew_15 : decode cX11_needsNew 15 = .ok (.iload_n 1, 1) := by decide +kernel
theorem dX11_needsNew_16 : decode cX11_needsNew 16 = .ok (.iconst 4, 1) := by decide +kernel
theorem dX11_needsNew_17 : decode cX11_needsNew 17 = .ok (.if_icmp .gt 24, 3) := by decide +kernel
theorem dX11_needsNew_20 : decode cX11_needsNew 20 = .ok (.aload_n 0, 1) := by decide +kernel
theorem dX11_needsNew_21 : decode cX11_needsNew 21 = .ok (.iconst 1, 1) := by decide +kernel
theorem dX11_needsNew_22 : decode cX11_needsNew 22 = .ok (.iload_n 1, 1) := by decide +kernel
theorem dX11_needsNew_23 : decode cX11_needsNew 23 = .ok (.invokevirtual 307, 3) := by decide +kernel
theorem dX11_needsNew_26 : decode cX11_needsNew 26 = .ok (.ifCond .lt 9, 3) := by decide +kernel
theorem dX11_needsNew_29 : decode cX11_needsNew 29 = .ok (.aload_n 0, 1) := by decide +kernel
theorem dX11_needsNew_30 : decode cX11_needsNew 30 = .ok (.iconst 3, 1) := by decide +kernel
theorem dX11_needsNew_31 : decode cX11_needsNew 31 = .ok (.invokevirtual 225, 3) := by decide +kernel
theorem dX11_needsNew_34 : decode cX11_needsNew 34 = .ok (.ireturn, 1) := by decide +kernel
theorem dX11_needsNew_35 : decode cX11_needsNew 35 = .ok (.iinc 1 1, 3) := by decide +kernel
theorem dX11_needsNew_38 : decode cX11_needsNew 38 = .ok (.goto (-23), 3) := by decide +kernel
theorem dX11_needsNew_41 : decode cX11_needsNew 41 = .ok (.aload_n 0, 1) := by decide +kernel
theorem dX11_needsNew_42 : decode cX11_needsNew 42 = .ok (.aload_n 0, 1) := by decide +kernel
theorem dX11_needsNew_43 : decode cX11_needsNew 43 = .ok (.getfield 174, 3) := by decide +kernel
theorem dX11_needsNew_46 : decode cX11_needsNew 46 = .ok (.putfield 311, 3) := by decide +kernel
theorem dX11_needsNew_49 : decode cX11_needsNew 49 = .ok (.aload_n 0, 1) := by decide +kernel
theorem dX11_needsNew_50 : decode cX11_needsNew 50 = .ok (.invokevirtual 232, 3) := by decide +kernel
theorem dX11_needsNew_53 : decode cX11_needsNew 53 = .ok (.iconst 1, 1) := by decide +kernel
theorem dX11_needsNew_54 : decode cX11_needsNew 54 = .ok (.ireturn, 1) := by decide +kernel
theorem dX11_keepsName_0 : decode cX11_keepsName 0 = .ok (.aload_n 0, 1) := by decide +kernel
theorem dX11_keepsName_1 : decode cX11_keepsName 1 = .ok (.getfield 16, 3) := by decide +kernel
theorem dX11_keepsName_4 : decode cX11_keepsName 4 = .ok (.bipush 22, 2) := by decide +kernel
theorem dX11_keepsName_6 : decode cX11_keepsName 6 = .ok (.iload_n 1, 1) := by decide +kernel
theorem dX11_keepsName_7 : decode cX11_keepsName 7 = .ok (.invokestatic 286, 3) := by decide +kernel
theorem dX11_keepsName_10 : decode cX11_keepsName 10 = .ok (.iadd, 1) := by decide +kernel
theorem dX11_keepsName_11 : decode cX11_keepsName 11 = .ok (.aload_n 0, 1) := by decide +kernel
theorem dX11_keepsName_12 : decode cX11_keepsName 12 = .ok (.getfield 13, 3) := by decide +kernel
theorem dX11_keepsName_15 : decode cX11_keepsName 15 = .ok (.bipush 6, 2) := by decide +kernel
theorem dX11_keepsName_17 : decode cX11_keepsName 17 = .ok (.iload_n 1, 1) := by decide +kernel
theorem dX11_keepsName_18 : decode cX11_keepsName 18 = .ok (.iadd, 1) := by decide +kernel
theorem dX11_keepsName_19 : decode cX11_keepsName 19 = .ok (.iaload, 1) := by decide +kernel
theorem dX11_keepsName_20 : decode cX11_keepsName 20 = .ok (.iadd, 1) := by decide +kernel
theorem dX11_keepsName_21 : decode cX11_keepsName 21 = .ok (.aload_n 0, 1) := by decide +kernel
theorem dX11_keepsName_22 : decode cX11_keepsName 22 = .ok (.getfield 311, 3) := by decide +kernel
theorem dX11_keepsName_25 : decode cX11_keepsName 25 = .ok (.lastore, 1) := by decide +kernel
theorem dX11_keepsName_26 : decode cX11_keepsName 26 = .ok (.aload_n 0, 1) := by decide +kernel
theorem dX11_keepsName_27 : decode cX11_keepsName 27 = .ok (.getfield 13, 3) := by decide +kernel
theorem dX11_keepsName_30 : decode cX11_keepsName 30 = .ok (.bipush 6, 2) := by decide +kernel
theorem dX11_keepsName_32 : decode cX11_keepsName 32 = .ok (.iload_n 1, 1) := by decide +kernel
theorem dX11_keepsName_33 : decode cX11_keepsName 33 = .ok (.iadd, 1) := by decide +kernel
theorem dX11_keepsName_34 : decode cX11_keepsName 34 = .ok (.dup2, 1) := by decide +kernel
theorem dX11_keepsName_35 : decode cX11_keepsName 35 = .ok (.iaload, 1) := by decide +kernel
theorem dX11_keepsName_36 : decode cX11_keepsName 36 = .ok (.iconst 1, 1) := by decide +kernel
theorem dX11_keepsName_37 : decode cX11_keepsName 37 = .ok (.iadd, 1) := by decide +kernel
theorem dX11_keepsName_38 : decode cX11_keepsName 38 = .ok (.iastore, 1) := by decide +kernel
theorem dX11_keepsName_39 : decode cX11_keepsName 39 = .ok (.return_, 1) := by decide +kernel
theorem dX11_needsNamed_0 : decode cX11_needsNamed 0 = .ok (.aload_n 0, 1) := by decide +kernel
theorem dX11_needsNamed_1 : decode cX11_needsNamed 1 = .ok (.invokevirtual 303, 3) := by decide +kernel
theorem dX11_needsNamed_4 : decode cX11_needsNamed 4 = .ok (.ifCond .eq 9, 3) := by decide +kernel
theorem dX11_needsNamed_7 : decode cX11_needsNamed 7 = .ok (.aload_n 0, 1) := by decide +kernel
theorem dX11_needsNamed_8 : decode cX11_needsNamed 8 = .ok (.iconst 1, 1) := by decide +kernel
theorem dX11_needsNamed_9 : decode cX11_needsNamed 9 = .ok (.invokevirtual 225, 3) := by decide +kernel
theorem dX11_needsNamed_12 : decode cX11_needsNamed 12 = .ok (.ireturn, 1) := by decide +kernel
theorem dX11_needsNamed_13 : decode cX11_needsNamed 13 = .ok (.aload_n 0, 1) := by decide +kernel
theorem dX11_needsNamed_14 : decode cX11_needsNamed 14 = .ok (.aload_n 0, 1) := by decide +kernel
theorem dX11_needsNamed_15 : decode cX11_needsNamed 15 = .ok (.iload_n 1, 1) := by decide +kernel
theorem dX11_needsNamed_16 : decode cX11_needsNamed 16 = .ok (.iload_n 2, 1) := by decide +kernel
theorem dX11_needsNamed_17 : decode cX11_needsNamed 17 = .ok (.invokevirtual 307, 3) := by decide +kernel
theorem dX11_needsNamed_20 : decode cX11_needsNamed 20 = .ok (.putfield 293, 3) := by decide +kernel
theorem dX11_needsNamed_23 : decode cX11_needsNamed 23 = .ok (.aload_n 0, 1) := by decide +kernel
theorem dX11_needsNamed_24 : decode cX11_needsNamed 24 = .ok (.getfield 293, 3) := by decide +kernel
theorem dX11_needsNamed_27 : decode cX11_needsNamed 27 = .ok (.ifCond .ge 11, 3) := by decide +kernel
theorem dX11_needsNamed_30 : decode cX11_needsNamed 30 = .ok (.aload_n 0, 1) := by decide +kernel
theorem dX11_needsNamed_31 : decode cX11_needsNamed 31 = .ok (.iconst 2, 1) := by decide +kernel
theorem dX11_needsNamed_32 : decode cX11_needsNamed 32 = .ok (.invokevirtual 225, 3) := by decide +kernel
theorem dX11_needsNamed_35 : decode cX11_needsNamed 35 = .ok (.ifCond .eq 7, 3) := by decide +kernel
theorem dX11_needsNamed_38 : decode cX11_needsNamed 38 = .ok (.iconst 1, 1) := by decide +kernel
theorem dX11_needsNamed_39 : decode cX11_needsNamed 39 = .ok (.goto 4, 3) := by decide +kernel
theorem dX11_needsNamed_42 : decode cX11_needsNamed 42 = .ok (.iconst 0, 1) := by decide +kernel
theorem dX11_needsNamed_43 : decode cX11_needsNamed 43 = .ok (.ireturn, 1) := by decide +kernel
theorem dX11_readsFuel_0 : decode cX11_readsFuel 0 = .ok (.iconst 5, 1) := by decide +kernel
theorem dX11_readsFuel_1 : decode cX11_readsFuel 1 = .ok (.aload_n 0, 1) := by decide +kernel
theorem dX11_readsFuel_2 : decode cX11_readsFuel 2 = .ok (.getfield 13, 3) := by decide +kernel
theorem dX11_readsFuel_5 : decode cX11_readsFuel 5 = .ok (.bipush 6, 2) := by decide +kernel
theorem dX11_readsFuel_7 : decode cX11_readsFuel 7 = .ok (.iaload, 1) := by decide +kernel
theorem dX11_readsFuel_8 : decode cX11_readsFuel 8 = .ok (.iadd, 1) := by decide +kernel
theorem dX11_readsFuel_9 : decode cX11_readsFuel 9 = .ok (.istore_n 1, 1) := by decide +kernel
theorem dX11_readsFuel_10 : decode cX11_readsFuel 10 = .ok (.iload_n 1, 1) := by decide +kernel
theorem dX11_readsFuel_11 : decode cX11_readsFuel 11 = .ok (.bipush 10, 2) := by decide +kernel
theorem dX11_readsFuel_13 : decode cX11_readsFuel 13 = .ok (.if_icmp .ne 9, 3) := by decide +kernel
theorem dX11_readsFuel_16 : decode cX11_readsFuel 16 = .ok (.aload_n 0, 1) := by decide +kernel
theorem dX11_readsFuel_17 : decode cX11_readsFuel 17 = .ok (.iconst 5, 1) := by decide +kernel
theorem dX11_readsFuel_18 : decode cX11_readsFuel 18 = .ok (.invokevirtual 225, 3) := by decide +kernel
theorem dX11_readsFuel_21 : decode cX11_readsFuel 21 = .ok (.ireturn, 1) := by decide +kernel
theorem dX11_readsFuel_22 : decode cX11_readsFuel 22 = .ok (.aload_n 0, 1) := by decide +kernel
theorem dX11_readsFuel_23 : decode cX11_readsFuel 23 = .ok (.invokevirtual 232, 3) := by decide +kernel
theorem dX11_readsFuel_26 : decode cX11_readsFuel 26 = .ok (.aload_n 0, 1) := by decide +kernel
theorem dX11_readsFuel_27 : decode cX11_readsFuel 27 = .ok (.invokevirtual 313, 3) := by decide +kernel
theorem dX11_readsFuel_30 : decode cX11_readsFuel 30 = .ok (.ifCond .eq 16, 3) := by decide +kernel
theorem dX11_readsFuel_33 : decode cX11_readsFuel 33 = .ok (.aload_n 0, 1) := by decide +kernel
theorem dX11_readsFuel_34 : decode cX11_readsFuel 34 = .ok (.ldc2_w 250, 3) := by decide +kernel
theorem dX11_readsFuel_37 : decode cX11_readsFuel 37 = .ok (.iconst 0, 1) := by decide +kernel
theorem dX11_readsFuel_38 : decode cX11_readsFuel 38 = .ok (.bipush 99, 2) := by decide +kernel
theorem dX11_readsFuel_40 : decode cX11_readsFuel 40 = .ok (.invokevirtual 316, 3) := by decide +kernel
theorem dX11_readsFuel_43 : decode cX11_readsFuel 43 = .ok (.ifCond .ne 5, 3) := by decide +kernel
theorem dX11_readsFuel_46 : decode cX11_readsFuel 46 = .ok (.iconst 0, 1) := by decide +kernel
theorem dX11_readsFuel_47 : decode cX11_readsFuel 47 = .ok (.ireturn, 1) := by decide +kernel
theorem dX11_readsFuel_48 : decode cX11_readsFuel 48 = .ok (.aload_n 0, 1) := by decide +kernel
theorem dX11_readsFuel_49 : decode cX11_readsFuel 49 = .ok (.getfield 20, 3) := by decide +kernel
theorem dX11_readsFuel_52 : decode cX11_readsFuel 52 = .ok (.iload_n 1, 1) := by decide +kernel
theorem dX11_readsFuel_53 : decode cX11_readsFuel 53 = .ok (.aload_n 0, 1) := by decide +kernel
theorem dX11_readsFuel_54 : decode cX11_readsFuel 54 = .ok (.getfield 293, 3) := by decide +kernel
theorem dX11_readsFuel_57 : decode cX11_readsFuel 57 = .ok (.iastore, 1) := by decide +kernel
theorem dX11_readsFuel_58 : decode cX11_readsFuel 58 = .ok (.aload_n 0, 1) := by decide +kernel
theorem dX11_readsFuel_59 : decode cX11_readsFuel 59 = .ok (.ldc2_w 252, 3) := by decide +kernel
theorem dX11_readsFuel_62 : decode cX11_readsFuel 62 = .ok (.iconst 0, 1) := by decide +kernel
theorem dX11_readsFuel_63 : decode cX11_readsFuel 63 = .ok (.bipush 99, 2) := by decide +kernel
theorem dX11_readsFuel_65 : decode cX11_readsFuel 65 = .ok (.invokevirtual 316, 3) := by decide +kernel
theorem dX11_readsFuel_68 : decode cX11_readsFuel 68 = .ok (.ifCond .ne 5, 3) := by decide +kernel
theorem dX11_readsFuel_71 : decode cX11_readsFuel 71 = .ok (.iconst 0, 1) := by decide +kernel
theorem dX11_readsFuel_72 : decode cX11_readsFuel 72 = .ok (.ireturn, 1) := by decide +kernel
theorem dX11_readsFuel_73 : decode cX11_readsFuel 73 = .ok (.aload_n 0, 1) := by decide +kernel
theorem dX11_readsFuel_74 : decode cX11_readsFuel 74 = .ok (.getfield 23, 3) := by decide +kernel
theorem dX11_readsFuel_77 : decode cX11_readsFuel 77 = .ok (.iload_n 1, 1) := by decide +kernel
theorem dX11_readsFuel_78 : decode cX11_readsFuel 78 = .ok (.aload_n 0, 1) := by decide +kernel
theorem dX11_readsFuel_79 : decode cX11_readsFuel 79 = .ok (.getfield 293, 3) := by decide +kernel
theorem dX11_readsFuel_82 : decode cX11_readsFuel 82 = .ok (.iastore, 1) := by decide +kernel
theorem dX11_readsFuel_83 : decode cX11_readsFuel 83 = .ok (.aload_n 0, 1) := by decide +kernel
theorem dX11_readsFuel_84 : decode cX11_readsFuel 84 = .ok (.ldc2_w 254, 3) := by decide +kernel
theorem dX11_readsFuel_87 : decode cX11_readsFuel 87 = .ok (.iconst 1, 1) := by decide +kernel
theorem dX11_readsFuel_88 : decode cX11_readsFuel 88 = .ok (.bipush 9, 2) := by decide +kernel
theorem dX11_readsFuel_90 : decode cX11_readsFuel 90 = .ok (.invokevirtual 316, 3) := by decide +kernel
theorem dX11_readsFuel_93 : decode cX11_readsFuel 93 = .ok (.ifCond .ne 5, 3) := by decide +kernel
theorem dX11_readsFuel_96 : decode cX11_readsFuel 96 = .ok (.iconst 0, 1) := by decide +kernel
theorem dX11_readsFuel_97 : decode cX11_readsFuel 97 = .ok (.ireturn, 1) := by decide +kernel
theorem dX11_readsFuel_98 : decode cX11_readsFuel 98 = .ok (.aload_n 0, 1) := by decide +kernel
theorem dX11_readsFuel_99 : decode cX11_readsFuel 99 = .ok (.getfield 26, 3) := by decide +kernel
theorem dX11_readsFuel_102 : decode cX11_readsFuel 102 = .ok (.iload_n 1, 1) := by decide +kernel
theorem dX11_readsFuel_103 : decode cX11_readsFuel 103 = .ok (.aload_n 0, 1) := by decide +kernel
theorem dX11_readsFuel_104 : decode cX11_readsFuel 104 = .ok (.getfield 293, 3) := by decide +kernel
theorem dX11_readsFuel_107 : decode cX11_readsFuel 107 = .ok (.iastore, 1) := by decide +kernel
theorem dX11_readsFuel_108 : decode cX11_readsFuel 108 = .ok (.aload_n 0, 1) := by decide +kernel
theorem dX11_readsFuel_109 : decode cX11_readsFuel 109 = .ok (.iconst 0, 1) := by decide +kernel
theorem dX11_readsFuel_110 : decode cX11_readsFuel 110 = .ok (.invokevirtual 320, 3) := by decide +kernel
theorem dX11_readsFuel_113 : decode cX11_readsFuel 113 = .ok (.aload_n 0, 1) := by decide +kernel
theorem dX11_readsFuel_114 : decode cX11_readsFuel 114 = .ok (.invokevirtual 323, 3) := by decide +kernel
theorem dX11_readsFuel_117 : decode cX11_readsFuel 117 = .ok (.ireturn, 1) := by decide +kernel
theorem dX11_readsFlue_0 : decode cX11_readsFlue 0 = .ok (.aload_n 0, 1) := by decide +kernel
theorem dX11_readsFlue_1 : decode cX11_readsFlue 1 = .ok (.getfield 13, 3) := by decide +kernel
theorem dX11_readsFlue_4 : decode cX11_readsFlue 4 = .ok (.bipush 7, 2) := by decide +kernel
theorem dX11_readsFlue_6 : decode cX11_readsFlue 6 = .ok (.iaload, 1) := by decide +kernel
theorem dX11_readsFlue_7 : decode cX11_readsFlue 7 = .ok (.iconst 3, 1) := by decide +kernel
theorem dX11_readsFlue_8 : decode cX11_readsFlue 8 = .ok (.if_icmp .ne 9, 3) := by decide +kernel
theorem dX11_readsFlue_11 : decode cX11_readsFlue 11 = .ok (.aload_n 0, 1) := by decide +kernel
theorem dX11_readsFlue_12 : decode cX11_readsFlue 12 = .ok (.iconst 5, 1) := by decide +kernel
theorem dX11_readsFlue_13 : decode cX11_readsFlue 13 = .ok (.invokevirtual 225, 3) := by decide +kernel
theorem dX11_readsFlue_16 : decode cX11_readsFlue 16 = .ok (.ireturn, 1) := by decide +kernel
theorem dX11_readsFlue_17 : decode cX11_readsFlue 17 = .ok (.aload_n 0, 1) := by decide +kernel
theorem dX11_readsFlue_18 : decode cX11_readsFlue 18 = .ok (.invokevirtual 232, 3) := by decide +kernel
theorem dX11_readsFlue_21 : decode cX11_readsFlue 21 = .ok (.aload_n 0, 1) := by decide +kernel
theorem dX11_readsFlue_22 : decode cX11_readsFlue 22 = .ok (.invokevirtual 313, 3) := by decide +kernel
theorem dX11_readsFlue_25 : decode cX11_readsFlue 25 = .ok (.ifCond .ne 5, 3) := by decide +kernel
theorem dX11_readsFlue_28 : decode cX11_readsFlue 28 = .ok (.iconst 0, 1) := by decide +kernel
theorem dX11_readsFlue_29 : decode cX11_readsFlue 29 = .ok (.ireturn, 1) := by decide +kernel
theorem dX11_readsFlue_30 : decode cX11_readsFlue 30 = .ok (.aload_n 0, 1) := by decide +kernel
theorem dX11_readsFlue_31 : decode cX11_readsFlue 31 = .ok (.iconst 1, 1) := by decide +kernel
theorem dX11_readsFlue_32 : decode cX11_readsFlue 32 = .ok (.invokevirtual 320, 3) := by decide +kernel
theorem dX11_readsFlue_35 : decode cX11_readsFlue 35 = .ok (.aload_n 0, 1) := by decide +kernel
theorem dX11_readsFlue_36 : decode cX11_readsFlue 36 = .ok (.invokevirtual 323, 3) := by decide +kernel
theorem dX11_readsFlue_39 : decode cX11_readsFlue 39 = .ok (.ireturn, 1) := by decide +kernel
theorem dX11_readsHouse_0 : decode cX11_readsHouse 0 = .ok (.iconst 4, 1) := by decide +kernel
theorem dX11_readsHouse_1 : decode cX11_readsHouse 1 = .ok (.aload_n 0, 1) := by decide +kernel
theorem dX11_readsHouse_2 : decode cX11_readsHouse 2 = .ok (.getfield 13, 3) := by decide +kernel
theorem dX11_readsHouse_5 : decode cX11_readsHouse 5 = .ok (.bipush 8, 2) := by decide +kernel
theorem dX11_readsHouse_7 : decode cX11_readsHouse 7 = .ok (.iaload, 1) := by decide +kernel
theorem dX11_readsHouse_8 : decode cX11_readsHouse 8 = .ok (.iadd, 1) := by decide +kernel
theorem dX11_readsHouse_9 : decode cX11_readsHouse 9 = .ok (.istore_n 1, 1) := by decide +kernel
theorem dX11_readsHouse_10 : decode cX11_readsHouse 10 = .ok (.iload_n 1, 1) := by decide +kernel
theorem dX11_readsHouse_11 : decode cX11_readsHouse 11 = .ok (.bipush 8, 2) := by decide +kernel
theorem dX11_readsHouse_13 : decode cX11_readsHouse 13 = .ok (.if_icmp .ne 9, 3) := by decide +kernel
theorem dX11_readsHouse_16 : decode cX11_readsHouse 16 = .ok (.aload_n 0, 1) := by decide +kernel
theorem dX11_readsHouse_17 : decode cX11_readsHouse 17 = .ok (.iconst 5, 1) := by decide +kernel
theorem dX11_readsHouse_18 : decode cX11_readsHouse 18 = .ok (.invokevirtual 225, 3) := by decide +kernel
theorem dX11_readsHouse_21 : decode cX11_readsHouse 21 = .ok (.ireturn, 1) := by decide +kernel
theorem dX11_readsHouse_22 : decode cX11_readsHouse 22 = .ok (.aload_n 0, 1) := by decide +kernel
theorem dX11_readsHouse_23 : decode cX11_readsHouse 23 = .ok (.invokevirtual 232, 3) := by decide +kernel
theorem dX11_readsHouse_26 : decode cX11_readsHouse 26 = .ok (.aload_n 0, 1) := by decide +kernel
theorem dX11_readsHouse_27 : decode cX11_readsHouse 27 = .ok (.invokevirtual 313, 3) := by decide +kernel
theorem dX11_readsHouse_30 : decode cX11_readsHouse 30 = .ok (.ifCond .ne 5, 3) := by decide +kernel
theorem dX11_readsHouse_33 : decode cX11_readsHouse 33 = .ok (.iconst 0, 1) := by decide +kernel
theorem dX11_readsHouse_34 : decode cX11_readsHouse 34 = .ok (.ireturn, 1) := by decide +kernel
theorem dX11_readsHouse_35 : decode cX11_readsHouse 35 = .ok (.aload_n 0, 1) := by decide +kernel
theorem dX11_readsHouse_36 : decode cX11_readsHouse 36 = .ok (.getfield 311, 3) := by decide +kernel
theorem dX11_readsHouse_39 : decode cX11_readsHouse 39 = .ok (.lstore_n 2, 1) := by decide +kernel
theorem dX11_readsHouse_40 : decode cX11_readsHouse 40 = .ok (.aload_n 0, 1) := by decide +kernel
theorem dX11_readsHouse_41 : decode cX11_readsHouse 41 = .ok (.ldc2_w 260, 3) := by decide +kernel
theorem dX11_readsHouse_44 : decode cX11_readsHouse 44 = .ok (.invokevirtual 296, 3) := by decide +kernel
theorem dX11_readsHouse_47 : decode cX11_readsHouse 47 = .ok (.ifCond .eq 12, 3) := by decide +kernel
theorem dX11_readsHouse_50 : decode cX11_readsHouse 50 = .ok (.aload_n 0, 1) := by decide +kernel
theorem dX11_readsHouse_51 : decode cX11_readsHouse 51 = .ok (.iconst 1, 1) := by decide +kernel
theorem dX11_readsHouse_52 : decode cX11_readsHouse 52 = .ok (.iconst 1, 1) := by decide +kernel
theorem dX11_readsHouse_53 : decode cX11_readsHouse 53 = .ok (.invokevirtual 326, 3) := by decide +kernel
theorem dX11_readsHouse_56 : decode cX11_readsHouse 56 = .ok (.ifCond .ne 5, 3) := by decide +kernel
theorem dX11_readsHouse_59 : decode cX11_readsHouse 59 = .ok (.iconst 0, 1) := by decide +kernel
theorem dX11_readsHouse_60 : decode cX11_readsHouse 60 = .ok (.ireturn, 1) := by decide +kernel
theorem dX11_readsHouse_61 : decode cX11_readsHouse 61 = .ok (.aload_n 0, 1) := by decide +kernel
theorem dX11_readsHouse_62 : decode cX11_readsHouse 62 = .ok (.getfield 29, 3) := by decide +kernel
theorem dX11_readsHouse_65 : decode cX11_readsHouse 65 = .ok (.iload_n 1, 1) := by decide +kernel
theorem dX11_readsHouse_66 : decode cX11_readsHouse 66 = .ok (.aload_n 0, 1) := by decide +kernel
theorem dX11_readsHouse_67 : decode cX11_readsHouse 67 = .ok (.getfield 293, 3) := by decide +kernel
theorem dX11_readsHouse_70 : decode cX11_readsHouse 70 = .ok (.iastore, 1) := by decide +kernel
theorem dX11_readsHouse_71 : decode cX11_readsHouse 71 = .ok (.iconst 0, 1) := by decide +kernel
theorem dX11_readsHouse_72 : decode cX11_readsHouse 72 = .ok (.istore 4, 2) := by decide +kernel
theorem dX11_readsHouse_74 : decode cX11_readsHouse 74 = .ok (.iload 4, 2) := by decide +kernel
theorem dX11_readsHouse_76 : decode cX11_readsHouse 76 = .ok (.iconst 5, 1) := by decide +kernel
theorem dX11_readsHouse_77 : decode cX11_readsHouse 77 = .ok (.if_icmp .ge 21, 3) := by decide +kernel
theorem dX11_readsHouse_80 : decode cX11_readsHouse 80 = .ok (.aload_n 0, 1) := by decide +kernel
theorem dX11_readsHouse_81 : decode cX11_readsHouse 81 = .ok (.getfield 32, 3) := by decide +kernel
theorem dX11_readsHouse_84 : decode cX11_readsHouse 84 = .ok (.iconst 5, 1) := by decide +kernel
theorem dX11_readsHouse_85 : decode cX11_readsHouse 85 = .ok (.iload_n 1, 1) := by decide +kernel
theorem dX11_readsHouse_86 : decode cX11_readsHouse 86 = .ok (.imul, 1) := by decide +kernel
theorem dX11_readsHouse_87 : decode cX11_readsHouse 87 = .ok (.iload 4, 2) := by decide +kernel
theorem dX11_readsHouse_89 : decode cX11_readsHouse 89 = .ok (.iadd, 1) := by decide +kernel
theorem dX11_readsHouse_90 : decode cX11_readsHouse 90 = .ok (.iconst (-1), 1) := by decide +kernel
theorem dX11_readsHouse_91 : decode cX11_readsHouse 91 = .ok (.iastore, 1) := by decide +kernel
theorem dX11_readsHouse_92 : decode cX11_readsHouse 92 = .ok (.iinc 4 1, 3) := by decide +kernel
theorem dX11_readsHouse_95 : decode cX11_readsHouse 95 = .ok (.goto (-21), 3) := by decide +kernel
theorem dX11_readsHouse_98 : decode cX11_readsHouse 98 = .ok (.aload_n 0, 1) := by decide +kernel
theorem dX11_readsHouse_99 : decode cX11_readsHouse 99 = .ok (.invokevirtual 232, 3) := by decide +kernel
theorem dX11_readsHouse_102 : decode cX11_readsHouse 102 = .ok (.aload_n 0, 1) := by decide +kernel
theorem dX11_readsHouse_103 : decode cX11_readsHouse 103 = .ok (.lload_n 2, 1) := by decide +kernel
theorem dX11_readsHouse_104 : decode cX11_readsHouse 104 = .ok (.putfield 311, 3) := by decide +kernel
theorem dX11_readsHouse_107 : decode cX11_readsHouse 107 = .ok (.aload_n 0, 1) := by decide +kernel
theorem dX11_readsHouse_108 : decode cX11_readsHouse 108 = .ok (.iconst 2, 1) := by decide +kernel
theorem dX11_readsHouse_109 : decode cX11_readsHouse 109 = .ok (.invokevirtual 320, 3) := by decide +kernel
theorem dX11_readsHouse_112 : decode cX11_readsHouse 112 = .ok (.aload_n 0, 1) := by decide +kernel
theorem dX11_readsHouse_113 : decode cX11_readsHouse 113 = .ok (.invokevirtual 323, 3) := by decide +kernel
theorem dX11_readsHouse_116 : decode cX11_readsHouse 116 = .ok (.ireturn, 1) := by decide +kernel
theorem dX11_readsStock_0 : decode cX11_readsStock 0 = .ok (.aload_n 0, 1) := by decide +kernel
theorem dX11_readsStock_1 : decode cX11_readsStock 1 = .ok (.invokevirtual 232, 3) := by decide +kernel
theorem dX11_readsStock_4 : decode cX11_readsStock 4 = .ok (.aload_n 0, 1) := by decide +kernel
theorem dX11_readsStock_5 : decode cX11_readsStock 5 = .ok (.iconst 1, 1) := by decide +kernel
theorem dX11_readsStock_6 : decode cX11_readsStock 6 = .ok (.iconst 2, 1) := by decide +kernel
theorem dX11_readsStock_7 : decode cX11_readsStock 7 = .ok (.invokevirtual 326, 3) := by decide +kernel
theorem dX11_readsStock_10 : decode cX11_readsStock 10 = .ok (.ifCond .ne 5, 3) := by decide +kernel
theorem dX11_readsStock_13 : decode cX11_readsStock 13 = .ok (.iconst 0, 1) := by decide +kernel
theorem dX11_readsStock_14 : decode cX11_readsStock 14 = .ok (.ireturn, 1) := by decide +kernel
theorem dX11_readsStock_15 : decode cX11_readsStock 15 = .ok (.aload_n 0, 1) := by decide +kernel
theorem dX11_readsStock_16 : decode cX11_readsStock 16 = .ok (.getfield 293, 3) := by decide +kernel
theorem dX11_readsStock_19 : decode cX11_readsStock 19 = .ok (.istore_n 1, 1) := by decide +kernel
theorem dX11_readsStock_20 : decode cX11_readsStock 20 = .ok (.aload_n 0, 1) := by decide +kernel
theorem dX11_readsStock_21 : decode cX11_readsStock 21 = .ok (.invokevirtual 232, 3) := by decide +kernel
theorem dX11_readsStock_24 : decode cX11_readsStock 24 = .ok (.aload_n 0, 1) := by decide +kernel
theorem dX11_readsStock_25 : decode cX11_readsStock 25 = .ok (.iconst 1, 1) := by decide +kernel
theorem dX11_readsStock_26 : decode cX11_readsStock 26 = .ok (.iconst 0, 1) := by decide +kernel
theorem dX11_readsStock_27 : decode cX11_readsStock 27 = .ok (.invokevirtual 326, 3) := by decide +kernel
theorem dX11_readsStock_30 : decode cX11_readsStock 30 = .ok (.ifCond .ne 5, 3) := by decide +kernel
theorem dX11_readsStock_33 : decode cX11_readsStock 33 = .ok (.iconst 0, 1) := by decide +kernel
theorem dX11_readsStock_34 : decode cX11_readsStock 34 = .ok (.ireturn, 1) := by decide +kernel
theorem dX11_readsStock_35 : decode cX11_readsStock 35 = .ok (.bipush 20, 2) := by decide +kernel
theorem dX11_readsStock_37 : decode cX11_readsStock 37 = .ok (.iconst 5, 1) := by decide +kernel
theorem dX11_readsStock_38 : decode cX11_readsStock 38 = .ok (.iload_n 1, 1) := by decide +kernel
theorem dX11_readsStock_39 : decode cX11_readsStock 39 = .ok (.imul, 1) := by decide +kernel
theorem dX11_readsStock_40 : decode cX11_readsStock 40 = .ok (.iadd, 1) := by decide +kernel
theorem dX11_readsStock_41 : decode cX11_readsStock 41 = .ok (.aload_n 0, 1) := by decide +kernel
theorem dX11_readsStock_42 : decode cX11_readsStock 42 = .ok (.getfield 293, 3) := by decide +kernel
theorem dX11_readsStock_45 : decode cX11_readsStock 45 = .ok (.iadd, 1) := by decide +kernel
theorem dX11_readsStock_46 : decode cX11_readsStock 46 = .ok (.istore_n 2, 1) := by decide +kernel
theorem dX11_readsStock_47 : decode cX11_readsStock 47 = .ok (.aload_n 0, 1) := by decide +kernel
theorem dX11_readsStock_48 : decode cX11_readsStock 48 = .ok (.getfield 32, 3) := by decide +kernel
theorem dX11_readsStock_51 : decode cX11_readsStock 51 = .ok (.iload_n 2, 1) := by decide +kernel
theorem dX11_readsStock_52 : decode cX11_readsStock 52 = .ok (.iaload, 1) := by decide +kernel
theorem dX11_readsStock_53 : decode cX11_readsStock 53 = .ok (.ifCond .lt 9, 3) := by decide +kernel
theorem dX11_readsStock_56 : decode cX11_readsStock 56 = .ok (.aload_n 0, 1) := by decide +kernel
theorem dX11_readsStock_57 : decode cX11_readsStock 57 = .ok (.iconst 3, 1) := by decide +kernel
theorem dX11_readsStock_58 : decode cX11_readsStock 58 = .ok (.invokevirtual 225, 3) := by decide +kernel
theorem dX11_readsStock_61 : decode cX11_readsStock 61 = .ok (.ireturn, 1) := by decide +kernel
theorem dX11_readsStock_62 : decode cX11_readsStock 62 = .ok (.aload_n 0, 1) := by decide +kernel
theorem dX11_readsStock_63 : decode cX11_readsStock 63 = .ok (.invokevirtual 232, 3) := by decide +kernel
theorem dX11_readsStock_66 : decode cX11_readsStock 66 = .ok (.aload_n 0, 1) := by decide +kernel
theorem dX11_readsStock_67 : decode cX11_readsStock 67 = .ok (.iconst 0, 1) := by decide +kernel
theorem dX11_readsStock_68 : decode cX11_readsStock 68 = .ok (.bipush 99, 2) := by decide +kernel
theorem dX11_readsStock_70 : decode cX11_readsStock 70 = .ok (.invokevirtual 299, 3) := by decide +kernel
theorem dX11_readsStock_73 : decode cX11_readsStock 73 = .ok (.ifCond .ne 5, 3) := by decide +kernel
theorem dX11_readsStock_76 : decode cX11_readsStock 76 = .ok (.iconst 0, 1) := by decide +kernel
theorem dX11_readsStock_77 : decode cX11_readsStock 77 = .ok (.ireturn, 1) := by decide +kernel
theorem dX11_readsStock_78 : decode cX11_readsStock 78 = .ok (.aload_n 0, 1) := by decide +kernel
theorem dX11_readsStock_79 : decode cX11_readsStock 79 = .ok (.getfield 32, 3) := by decide +kernel
theorem dX11_readsStock_82 : decode cX11_readsStock 82 = .ok (.iload_n 2, 1) := by decide +kernel
theorem dX11_readsStock_83 : decode cX11_readsStock 83 = .ok (.aload_n 0, 1) := by decide +kernel
theorem dX11_readsStock_84 : decode cX11_readsStock 84 = .ok (.getfield 293, 3) := by decide +kernel
theorem dX11_readsStock_87 : decode cX11_readsStock 87 = .ok (.iastore, 1) := by decide +kernel
theorem dX11_readsStock_88 : decode cX11_readsStock 88 = .ok (.aload_n 0, 1) := by decide +kernel
theorem dX11_readsStock_89 : decode cX11_readsStock 89 = .ok (.invokevirtual 323, 3) := by decide +kernel
theorem dX11_readsStock_92 : decode cX11_readsStock 92 = .ok (.ireturn, 1) := by decide +kernel
theorem dX11_readsSpan_0 : decode cX11_readsSpan 0 = .ok (.aload_n 0, 1) := by decide +kernel
theorem dX11_readsSpan_1 : decode cX11_readsSpan 1 = .ok (.lload_n 1, 1) := by decide +kernel
theorem dX11_readsSpan_2 : decode cX11_readsSpan 2 = .ok (.iconst 0, 1) := by decide +kernel
theorem dX11_readsSpan_3 : decode cX11_readsSpan 3 = .ok (.sipush 999, 3) := by decide +kernel
theorem dX11_readsSpan_6 : decode cX11_readsSpan 6 = .ok (.invokevirtual 316, 3) := by decide +kernel
theorem dX11_readsSpan_9 : decode cX11_readsSpan 9 = .ok (.ifCond .ne 5, 3) := by decide +kernel
theorem dX11_readsSpan_12 : decode cX11_readsSpan 12 = .ok (.iconst 0, 1) := by decide +kernel
theorem dX11_readsSpan_13 : decode cX11_readsSpan 13 = .ok (.ireturn, 1) := by decide +kernel
theorem dX11_readsSpan_14 : decode cX11_readsSpan 14 = .ok (.aload_n 0, 1) := by decide +kernel
theorem dX11_readsSpan_15 : decode cX11_readsSpan 15 = .ok (.getfield 35, 3) := by decide +kernel
theorem dX11_readsSpan_18 : decode cX11_readsSpan 18 = .ok (.iload_n 3, 1) := by decide +kernel
theorem dX11_readsSpan_19 : decode cX11_readsSpan 19 = .ok (.aload_n 0, 1) := by decide +kernel
theorem dX11_readsSpan_20 : decode cX11_readsSpan 20 = .ok (.getfield 293, 3) := by decide +kernel
theorem dX11_readsSpan_23 : decode cX11_readsSpan 23 = .ok (.iastore, 1) := by decide +kernel
theorem dX11_readsSpan_24 : decode cX11_readsSpan 24 = .ok (.aload_n 0, 1) := by decide +kernel
theorem dX11_readsSpan_25 : decode cX11_readsSpan 25 = .ok (.ldc2_w 266, 3) := by decide +kernel
theorem dX11_readsSpan_28 : decode cX11_readsSpan 28 = .ok (.aload_n 0, 1) := by decide +kernel
theorem dX11_readsSpan_29 : decode cX11_readsSpan 29 = .ok (.getfield 35, 3) := by decide +kernel
theorem dX11_readsSpan_32 : decode cX11_readsSpan 32 = .ok (.iload_n 3, 1) := by decide +kernel
theorem dX11_readsSpan_33 : decode cX11_readsSpan 33 = .ok (.iaload, 1) := by decide +kernel
theorem dX11_readsSpan_34 : decode cX11_readsSpan 34 = .ok (.sipush 999, 3) := by decide +kernel
theorem dX11_readsSpan_37 : decode cX11_readsSpan 37 = .ok (.invokevirtual 316, 3) := by decide +kernel
theorem dX11_readsSpan_40 : decode cX11_readsSpan 40 = .ok (.ifCond .ne 5, 3) := by decide +kernel
theorem dX11_readsSpan_43 : decode cX11_readsSpan 43 = .ok (.iconst 0, 1) := by decide +kernel
theorem dX11_readsSpan_44 : decode cX11_readsSpan 44 = .ok (.ireturn, 1) := by decide +kernel
theorem dX11_readsSpan_45 : decode cX11_readsSpan 45 = .ok (.aload_n 0, 1) := by decide +kernel
theorem dX11_readsSpan_46 : decode cX11_readsSpan 46 = .ok (.getfield 35, 3) := by decide +kernel
theorem dX11_readsSpan_49 : decode cX11_readsSpan 49 = .ok (.iload_n 3, 1) := by decide +kernel
theorem dX11_readsSpan_50 : decode cX11_readsSpan 50 = .ok (.iconst 1, 1) := by decide +kernel
theorem dX11_readsSpan_51 : decode cX11_readsSpan 51 = .ok (.iadd, 1) := by decide +kernel
theorem dX11_readsSpan_52 : decode cX11_readsSpan 52 = .ok (.aload_n 0, 1) := by decide +kernel
theorem dX11_readsSpan_53 : decode cX11_readsSpan 53 = .ok (.getfield 293, 3) := by decide +kernel
theorem dX11_readsSpan_56 : decode cX11_readsSpan 56 = .ok (.iastore, 1) := by decide +kernel
theorem dX11_readsSpan_57 : decode cX11_readsSpan 57 = .ok (.iconst 1, 1) := by decide +kernel
theorem dX11_readsSpan_58 : decode cX11_readsSpan 58 = .ok (.ireturn, 1) := by decide +kernel
theorem dX11_readsSign_0 : decode cX11_readsSign 0 = .ok (.bipush 6, 2) := by decide +kernel
theorem dX11_readsSign_2 : decode cX11_readsSign 2 = .ok (.aload_n 0, 1) := by decide +kernel
theorem dX11_readsSign_3 : decode cX11_readsSign 3 = .ok (.getfield 13, 3) := by decide +kernel
theorem dX11_readsSign_6 : decode cX11_readsSign 6 = .ok (.bipush 9, 2) := by decide +kernel
theorem dX11_readsSign_8 : decode cX11_readsSign 8 = .ok (.iaload, 1) := by decide +kernel
theorem dX11_readsSign_9 : decode cX11_readsSign 9 = .ok (.iadd, 1) := by decide +kernel
theorem dX11_readsSign_10 : decode cX11_readsSign 10 = .ok (.istore_n 1, 1) := by decide +kernel
theorem dX11_readsSign_11 : decode cX11_readsSign 11 = .ok (.iload_n 1, 1) := by decide +kernel
theorem dX11_readsSign_12 : decode cX11_readsSign 12 = .ok (.bipush 12, 2) := by decide +kernel
theorem dX11_readsSign_14 : decode cX11_readsSign 14 = .ok (.if_icmp .ne 9, 3) := by decide +kernel
theorem dX11_readsSign_17 : decode cX11_readsSign 17 = .ok (.aload_n 0, 1) := by decide +kernel
theorem dX11_readsSign_18 : decode cX11_readsSign 18 = .ok (.iconst 5, 1) := by decide +kernel
theorem dX11_readsSign_19 : decode cX11_readsSign 19 = .ok (.invokevirtual 225, 3) := by decide +kernel
theorem dX11_readsSign_22 : decode cX11_readsSign 22 = .ok (.ireturn, 1) := by decide +kernel
theorem dX11_readsSign_23 : decode cX11_readsSign 23 = .ok (.aload_n 0, 1) := by decide +kernel
theorem dX11_readsSign_24 : decode cX11_readsSign 24 = .ok (.invokevirtual 232, 3) := by decide +kernel
theorem dX11_readsSign_27 : decode cX11_readsSign 27 = .ok (.aload_n 0, 1) := by decide +kernel
theorem dX11_readsSign_28 : decode cX11_readsSign 28 = .ok (.invokevirtual 313, 3) := by decide +kernel
theorem dX11_readsSign_31 : decode cX11_readsSign 31 = .ok (.ifCond .eq 31, 3) := by decide +kernel
theorem dX11_readsSign_34 : decode cX11_readsSign 34 = .ok (.aload_n 0, 1) := by decide +kernel
theorem dX11_readsSign_35 : decode cX11_readsSign 35 = .ok (.ldc2_w 250, 3) := by decide +kernel
theorem dX11_readsSign_38 : decode cX11_readsSign 38 = .ok (.iconst 4, 1) := by decide +kernel
theorem dX11_readsSign_39 : decode cX11_readsSign 39 = .ok (.iload_n 1, 1) := by decide +kernel
theorem dX11_readsSign_40 : decode cX11_readsSign 40 = .ok (.imul, 1) := by decide +kernel
theorem dX11_readsSign_41 : decode cX11_readsSign 41 = .ok (.invokevirtual 329, 3) := by decide +kernel
theorem dX11_readsSign_44 : decode cX11_readsSign 44 = .ok (.ifCond .eq 18, 3) := by decide +kernel
theorem dX11_readsSign_47 : decode cX11_readsSign 47 = .ok (.aload_n 0, 1) := by decide +kernel
theorem dX11_readsSign_48 : decode cX11_readsSign 48 = .ok (.ldc2_w 252, 3) := by decide +kernel
theorem dX11_readsSign_51 : decode cX11_readsSign 51 = .ok (.iconst 4, 1) := by decide +kernel
theorem dX11_readsSign_52 : decode cX11_readsSign 52 = .ok (.iload_n 1, 1) := by decide +kernel
theorem dX11_readsSign_53 : decode cX11_readsSign 53 = .ok (.imul, 1) := by decide +kernel
theorem dX11_readsSign_54 : decode cX11_readsSign 54 = .ok (.iconst 2, 1) := by decide +kernel
theorem dX11_readsSign_55 : decode cX11_readsSign 55 = .ok (.iadd, 1) := by decide +kernel
theorem dX11_readsSign_56 : decode cX11_readsSign 56 = .ok (.invokevirtual 329, 3) := by decide +kernel
theorem dX11_readsSign_59 : decode cX11_readsSign 59 = .ok (.ifCond .ne 5, 3) := by decide +kernel
theorem dX11_readsSign_62 : decode cX11_readsSign 62 = .ok (.iconst 0, 1) := by decide +kernel
theorem dX11_readsSign_63 : decode cX11_readsSign 63 = .ok (.ireturn, 1) := by decide +kernel
theorem dX11_readsSign_64 : decode cX11_readsSign 64 = .ok (.aload_n 0, 1) := by decide +kernel
theorem dX11_readsSign_65 : decode cX11_readsSign 65 = .ok (.iconst 3, 1) := by decide +kernel
theorem dX11_readsSign_66 : decode cX11_readsSign 66 = .ok (.invokevirtual 320, 3) := by decide +kernel
theorem dX11_readsSign_69 : decode cX11_readsSign 69 = .ok (.aload_n 0, 1) := by decide +kernel
theorem dX11_readsSign_70 : decode cX11_readsSign 70 = .ok (.invokevirtual 323, 3) := by decide +kernel
theorem dX11_readsSign_73 : decode cX11_readsSign 73 = .ok (.ireturn, 1) := by decide +kernel
theorem dX11_readsWatcher_0 : decode cX11_readsWatcher 0 = .ok (.iconst 4, 1) := by decide +kernel
