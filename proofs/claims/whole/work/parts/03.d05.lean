theorem dX14_operand_199 : decode cX14_operand 199 = .ok (.bipush 45, 2) := by decide +kernel
theorem dX14_operand_201 : decode cX14_operand 201 = .ok (.if_icmp .ne 7, 3) := by decide +kernel
theorem dX14_operand_204 : decode cX14_operand 204 = .ok (.iconst 1, 1) := by decide +kernel
theorem dX14_operand_205 : decode cX14_operand 205 = .ok (.goto 4, 3) := by decide +kernel
theorem dX14_operand_208 : decode cX14_operand 208 = .ok (.iconst 0, 1) := by decide +kernel
theorem dX14_operand_209 : decode cX14_operand 209 = .ok (.iadd, 1) := by decide +kernel
theorem dX14_operand_210 : decode cX14_operand 210 = .ok (.putfield 341, 3) := by decide +kernel
theorem dX14_operand_213 : decode cX14_operand 213 = .ok (.aload_n 0, 1) := by decide +kernel
theorem dX14_operand_214 : decode cX14_operand 214 = .ok (.iload_n 1, 1) := by decide +kernel
theorem dX14_operand_215 : decode cX14_operand 215 = .ok (.invokevirtual 353, 3) := by decide +kernel
theorem dX14_operand_218 : decode cX14_operand 218 = .ok (.istore 4, 2) := by decide +kernel
theorem dX14_operand_220 : decode cX14_operand 220 = .ok (.aload_n 0, 1) := by decide +kernel
theorem dX14_operand_221 : decode cX14_operand 221 = .ok (.iload_n 2, 1) := by decide +kernel
theorem dX14_operand_222 : decode cX14_operand 222 = .ok (.iload_n 3, 1) := by decide +kernel
theorem dX14_operand_223 : decode cX14_operand 223 = .ok (.bipush 45, 2) := by decide +kernel
theorem dX14_operand_225 : decode cX14_operand 225 = .ok (.if_icmp .ne 9, 3) := by decide +kernel
theorem dX14_operand_228 : decode cX14_operand 228 = .ok (.iload 4, 2) := by decide +kernel
theorem dX14_operand_230 : decode cX14_operand 230 = .ok (.ineg, 1) := by decide +kernel
theorem dX14_operand_231 : decode cX14_operand 231 = .ok (.goto 5, 3) := by decide +kernel
theorem dX14_operand_234 : decode cX14_operand 234 = .ok (.iload 4, 2) := by decide +kernel
theorem dX14_operand_236 : decode cX14_operand 236 = .ok (.invokevirtual 171, 3) := by decide +kernel
theorem dX14_operand_239 : decode cX14_operand 239 = .ok (.iconst 0, 1) := by decide +kernel
theorem dX14_operand_240 : decode cX14_operand 240 = .ok (.ireturn, 1) := by decide +kernel
theorem dX14_worksOut_0 : decode cX14_worksOut 0 = .ok (.aload_n 0, 1) := by decide +kernel
theorem dX14_worksOut_1 : decode cX14_worksOut 1 = .ok (.iload_n 1, 1) := by decide +kernel
theorem dX14_worksOut_2 : decode cX14_worksOut 2 = .ok (.iload_n 2, 1) := by decide +kernel
theorem dX14_worksOut_3 : decode cX14_worksOut 3 = .ok (.invokevirtual 356, 3) := by decide +kernel
theorem dX14_worksOut_6 : decode cX14_worksOut 6 = .ok (.istore_n 3, 1) := by decide +kernel
theorem dX14_worksOut_7 : decode cX14_worksOut 7 = .ok (.iload_n 3, 1) := by decide +kernel
theorem dX14_worksOut_8 : decode cX14_worksOut 8 = .ok (.ifCond .ne 137, 3) := by decide +kernel
theorem dX14_worksOut_11 : decode cX14_worksOut 11 = .ok (.aload_n 0, 1) := by decide +kernel
theorem dX14_worksOut_12 : decode cX14_worksOut 12 = .ok (.iload_n 1, 1) := by decide +kernel
theorem dX14_worksOut_13 : decode cX14_worksOut 13 = .ok (.aload_n 0, 1) := by decide +kernel
theorem dX14_worksOut_14 : decode cX14_worksOut 14 = .ok (.getfield 341, 3) := by decide +kernel
theorem dX14_worksOut_17 : decode cX14_worksOut 17 = .ok (.invokevirtual 344, 3) := by decide +kernel
theorem dX14_worksOut_20 : decode cX14_worksOut 20 = .ok (.bipush 124, 2) := by decide +kernel
theorem dX14_worksOut_22 : decode cX14_worksOut 22 = .ok (.if_icmp .ne 123, 3) := by decide +kernel
theorem dX14_worksOut_25 : decode cX14_worksOut 25 = .ok (.aload_n 0, 1) := by decide +kernel
theorem dX14_worksOut_26 : decode cX14_worksOut 26 = .ok (.dup, 1) := by decide +kernel
theorem dX14_worksOut_27 : decode cX14_worksOut 27 = .ok (.getfield 341, 3) := by decide +kernel
theorem dX14_worksOut_30 : decode cX14_worksOut 30 = .ok (.iconst 1, 1) := by decide +kernel
theorem dX14_worksOut_31 : decode cX14_worksOut 31 = .ok (.iadd, 1) := by decide +kernel
theorem dX14_worksOut_32 : decode cX14_worksOut 32 = .ok (.putfield 341, 3) := by decide +kernel
theorem dX14_worksOut_35 : decode cX14_worksOut 35 = .ok (.aload_n 0, 1) := by decide +kernel
theorem dX14_worksOut_36 : decode cX14_worksOut 36 = .ok (.getfield 341, 3) := by decide +kernel
theorem dX14_worksOut_39 : decode cX14_worksOut 39 = .ok (.istore 4, 2) := by decide +kernel
theorem dX14_worksOut_41 : decode cX14_worksOut 41 = .ok (.aload_n 0, 1) := by decide +kernel
theorem dX14_worksOut_42 : decode cX14_worksOut 42 = .ok (.iload_n 1, 1) := by decide +kernel
theorem dX14_worksOut_43 : decode cX14_worksOut 43 = .ok (.aload_n 0, 1) := by decide +kernel
theorem dX14_worksOut_44 : decode cX14_worksOut 44 = .ok (.getfield 341, 3) := by decide +kernel
theorem dX14_worksOut_47 : decode cX14_worksOut 47 = .ok (.invokevirtual 344, 3) := by decide +kernel
theorem dX14_worksOut_50 : decode cX14_worksOut 50 = .ok (.i2l, 1) := by decide +kernel
theorem dX14_worksOut_51 : decode cX14_worksOut 51 = .ok (.ldc2_w 266, 3) := by decide +kernel
theorem dX14_worksOut_54 : decode cX14_worksOut 54 = .ok (.ldc2_w 268, 3) := by decide +kernel
theorem dX14_worksOut_57 : decode cX14_worksOut 57 = .ok (.invokestatic 155, 3) := by decide +kernel
theorem dX14_worksOut_60 : decode cX14_worksOut 60 = .ok (.ifCond .eq 16, 3) := by decide +kernel
theorem dX14_worksOut_63 : decode cX14_worksOut 63 = .ok (.aload_n 0, 1) := by decide +kernel
theorem dX14_worksOut_64 : decode cX14_worksOut 64 = .ok (.dup, 1) := by decide +kernel
theorem dX14_worksOut_65 : decode cX14_worksOut 65 = .ok (.getfield 341, 3) := by decide +kernel
theorem dX14_worksOut_68 : decode cX14_worksOut 68 = .ok (.iconst 1, 1) := by decide +kernel
theorem dX14_worksOut_69 : decode cX14_worksOut 69 = .ok (.iadd, 1) := by decide +kernel
theorem dX14_worksOut_70 : decode cX14_worksOut 70 = .ok (.putfield 341, 3) := by decide +kernel
theorem dX14_worksOut_73 : decode cX14_worksOut 73 = .ok (.goto (-32), 3) := by decide +kernel
theorem dX14_worksOut_76 : decode cX14_worksOut 76 = .ok (.aload_n 0, 1) := by decide +kernel
theorem dX14_worksOut_77 : decode cX14_worksOut 77 = .ok (.aload_n 0, 1) := by decide +kernel
theorem dX14_worksOut_78 : decode cX14_worksOut 78 = .ok (.getfield 34, 3) := by decide +kernel
theorem dX14_worksOut_81 : decode cX14_worksOut 81 = .ok (.putfield 40, 3) := by decide +kernel
theorem dX14_worksOut_84 : decode cX14_worksOut 84 = .ok (.aload_n 0, 1) := by decide +kernel
theorem dX14_worksOut_85 : decode cX14_worksOut 85 = .ok (.sipush 160, 3) := by decide +kernel
theorem dX14_worksOut_88 : decode cX14_worksOut 88 = .ok (.iload_n 1, 1) := by decide +kernel
theorem dX14_worksOut_89 : decode cX14_worksOut 89 = .ok (.imul, 1) := by decide +kernel
theorem dX14_worksOut_90 : decode cX14_worksOut 90 = .ok (.putfield 232, 3) := by decide +kernel
theorem dX14_worksOut_93 : decode cX14_worksOut 93 = .ok (.aload_n 0, 1) := by decide +kernel
theorem dX14_worksOut_94 : decode cX14_worksOut 94 = .ok (.iload 4, 2) := by decide +kernel
theorem dX14_worksOut_96 : decode cX14_worksOut 96 = .ok (.aload_n 0, 1) := by decide +kernel
theorem dX14_worksOut_97 : decode cX14_worksOut 97 = .ok (.getfield 341, 3) := by decide +kernel
theorem dX14_worksOut_100 : decode cX14_worksOut 100 = .ok (.invokevirtual 270, 3) := by decide +kernel
theorem dX14_worksOut_103 : decode cX14_worksOut 103 = .ok (.istore 5, 2) := by decide +kernel
theorem dX14_worksOut_105 : decode cX14_worksOut 105 = .ok (.iconst 0, 1) := by decide +kernel
theorem dX14_worksOut_106 : decode cX14_worksOut 106 = .ok (.istore 6, 2) := by decide +kernel
theorem dX14_worksOut_108 : decode cX14_worksOut 108 = .ok (.iload 5, 2) := by decide +kernel
theorem dX14_worksOut_110 : decode cX14_worksOut 110 = .ok (.bipush 13, 2) := by decide +kernel
theorem dX14_worksOut_112 : decode cX14_worksOut 112 = .ok (.if_icmp .lt 20, 3) := by decide +kernel
theorem dX14_worksOut_115 : decode cX14_worksOut 115 = .ok (.aload_n 0, 1) := by decide +kernel
theorem dX14_worksOut_116 : decode cX14_worksOut 116 = .ok (.dup, 1) := by decide +kernel
theorem dX14_worksOut_117 : decode cX14_worksOut 117 = .ok (.getfield 341, 3) := by decide +kernel
theorem dX14_worksOut_120 : decode cX14_worksOut 120 = .ok (.iconst 1, 1) := by decide +kernel
theorem dX14_worksOut_121 : decode cX14_worksOut 121 = .ok (.iadd, 1) := by decide +kernel
theorem dX14_worksOut_122 : decode cX14_worksOut 122 = .ok (.putfield 341, 3) := by decide +kernel
theorem dX14_worksOut_125 : decode cX14_worksOut 125 = .ok (.aload_n 0, 1) := by decide +kernel
theorem dX14_worksOut_126 : decode cX14_worksOut 126 = .ok (.iload_n 1, 1) := by decide +kernel
theorem dX14_worksOut_127 : decode cX14_worksOut 127 = .ok (.invokevirtual 353, 3) := by decide +kernel
theorem dX14_worksOut_130 : decode cX14_worksOut 130 = .ok (.istore 6, 2) := by decide +kernel
theorem dX14_worksOut_132 : decode cX14_worksOut 132 = .ok (.aload_n 0, 1) := by decide +kernel
theorem dX14_worksOut_133 : decode cX14_worksOut 133 = .ok (.iload_n 2, 1) := by decide +kernel
theorem dX14_worksOut_134 : decode cX14_worksOut 134 = .ok (.iload 5, 2) := by decide +kernel
theorem dX14_worksOut_136 : decode cX14_worksOut 136 = .ok (.iload 6, 2) := by decide +kernel
theorem dX14_worksOut_138 : decode cX14_worksOut 138 = .ok (.invokevirtual 359, 3) := by decide +kernel
theorem dX14_worksOut_141 : decode cX14_worksOut 141 = .ok (.istore_n 3, 1) := by decide +kernel
theorem dX14_worksOut_142 : decode cX14_worksOut 142 = .ok (.goto (-135), 3) := by decide +kernel
theorem dX14_worksOut_145 : decode cX14_worksOut 145 = .ok (.iload_n 3, 1) := by decide +kernel
theorem dX14_worksOut_146 : decode cX14_worksOut 146 = .ok (.ireturn, 1) := by decide +kernel
theorem dX14_compared_0 : decode cX14_compared 0 = .ok (.aload_n 0, 1) := by decide +kernel
theorem dX14_compared_1 : decode cX14_compared 1 = .ok (.getfield 11, 3) := by decide +kernel
theorem dX14_compared_4 : decode cX14_compared 4 = .ok (.iload_n 1, 1) := by decide +kernel
theorem dX14_compared_5 : decode cX14_compared 5 = .ok (.iaload, 1) := by decide +kernel
theorem dX14_compared_6 : decode cX14_compared 6 = .ok (.iconst 3, 1) := by decide +kernel
theorem dX14_compared_7 : decode cX14_compared 7 = .ok (.if_icmp .ne 78, 3) := by decide +kernel
theorem dX14_compared_10 : decode cX14_compared 10 = .ok (.iconst 0, 1) := by decide +kernel
theorem dX14_compared_11 : decode cX14_compared 11 = .ok (.istore_n 3, 1) := by decide +kernel
theorem dX14_compared_12 : decode cX14_compared 12 = .ok (.iload_n 3, 1) := by decide +kernel
theorem dX14_compared_13 : decode cX14_compared 13 = .ok (.aload_n 0, 1) := by decide +kernel
theorem dX14_compared_14 : decode cX14_compared 14 = .ok (.getfield 18, 3) := by decide +kernel
theorem dX14_compared_17 : decode cX14_compared 17 = .ok (.iload_n 1, 1) := by decide +kernel
theorem dX14_compared_18 : decode cX14_compared 18 = .ok (.iaload, 1) := by decide +kernel
theorem dX14_compared_19 : decode cX14_compared 19 = .ok (.if_icmp .ge 52, 3) := by decide +kernel
theorem dX14_compared_22 : decode cX14_compared 22 = .ok (.iload_n 3, 1) := by decide +kernel
theorem dX14_compared_23 : decode cX14_compared 23 = .ok (.aload_n 0, 1) := by decide +kernel
theorem dX14_compared_24 : decode cX14_compared 24 = .ok (.getfield 18, 3) := by decide +kernel
theorem dX14_compared_27 : decode cX14_compared 27 = .ok (.iload_n 2, 1) := by decide +kernel
theorem dX14_compared_28 : decode cX14_compared 28 = .ok (.iaload, 1) := by decide +kernel
theorem dX14_compared_29 : decode cX14_compared 29 = .ok (.if_icmp .ge 42, 3) := by decide +kernel
theorem dX14_compared_32 : decode cX14_compared 32 = .ok (.aload_n 0, 1) := by decide +kernel
theorem dX14_compared_33 : decode cX14_compared 33 = .ok (.getfield 21, 3) := by decide +kernel
theorem dX14_compared_36 : decode cX14_compared 36 = .ok (.bipush 16, 2) := by decide +kernel
theorem dX14_compared_38 : decode cX14_compared 38 = .ok (.iload_n 1, 1) := by decide +kernel
theorem dX14_compared_39 : decode cX14_compared 39 = .ok (.imul, 1) := by decide +kernel
theorem dX14_compared_40 : decode cX14_compared 40 = .ok (.iload_n 3, 1) := by decide +kernel
theorem dX14_compared_41 : decode cX14_compared 41 = .ok (.iadd, 1) := by decide +kernel
theorem dX14_compared_42 : decode cX14_compared 42 = .ok (.iaload, 1) := by decide +kernel
theorem dX14_compared_43 : decode cX14_compared 43 = .ok (.aload_n 0, 1) := by decide +kernel
theorem dX14_compared_44 : decode cX14_compared 44 = .ok (.getfield 21, 3) := by decide +kernel
theorem dX14_compared_47 : decode cX14_compared 47 = .ok (.bipush 16, 2) := by decide +kernel
theorem dX14_compared_49 : decode cX14_compared 49 = .ok (.iload_n 2, 1) := by decide +kernel
theorem dX14_compared_50 : decode cX14_compared 50 = .ok (.imul, 1) := by decide +kernel
theorem dX14_compared_51 : decode cX14_compared 51 = .ok (.iload_n 3, 1) := by decide +kernel
theorem dX14_compared_52 : decode cX14_compared 52 = .ok (.iadd, 1) := by decide +kernel
theorem dX14_compared_53 : decode cX14_compared 53 = .ok (.iaload, 1) := by decide +kernel
theorem dX14_compared_54 : decode cX14_compared 54 = .ok (.isub, 1) := by decide +kernel
theorem dX14_compared_55 : decode cX14_compared 55 = .ok (.istore 4, 2) := by decide +kernel
theorem dX14_compared_57 : decode cX14_compared 57 = .ok (.iload 4, 2) := by decide +kernel
theorem dX14_compared_59 : decode cX14_compared 59 = .ok (.ifCond .eq 6, 3) := by decide +kernel
theorem dX14_compared_62 : decode cX14_compared 62 = .ok (.iload 4, 2) := by decide +kernel
theorem dX14_compared_64 : decode cX14_compared 64 = .ok (.ireturn, 1) := by decide +kernel
theorem dX14_compared_65 : decode cX14_compared 65 = .ok (.iinc 3 1, 3) := by decide +kernel
theorem dX14_compared_68 : decode cX14_compared 68 = .ok (.goto (-56), 3) := by decide +kernel
theorem dX14_compared_71 : decode cX14_compared 71 = .ok (.aload_n 0, 1) := by decide +kernel
theorem dX14_compared_72 : decode cX14_compared 72 = .ok (.getfield 18, 3) := by decide +kernel
theorem dX14_compared_75 : decode cX14_compared 75 = .ok (.iload_n 1, 1) := by decide +kernel
theorem dX14_compared_76 : decode cX14_compared 76 = .ok (.iaload, 1) := by decide +kernel
theorem dX14_compared_77 : decode cX14_compared 77 = .ok (.aload_n 0, 1) := by decide +kernel
theorem dX14_compared_78 : decode cX14_compared 78 = .ok (.getfield 18, 3) := by decide +kernel
theorem dX14_compared_81 : decode cX14_compared 81 = .ok (.iload_n 2, 1) := by decide +kernel
theorem dX14_compared_82 : decode cX14_compared 82 = .ok (.iaload, 1) := by decide +kernel
theorem dX14_compared_83 : decode cX14_compared 83 = .ok (.isub, 1) := by decide +kernel
theorem dX14_compared_84 : decode cX14_compared 84 = .ok (.ireturn, 1) := by decide +kernel
theorem dX14_compared_85 : decode cX14_compared 85 = .ok (.aload_n 0, 1) := by decide +kernel
theorem dX14_compared_86 : decode cX14_compared 86 = .ok (.getfield 11, 3) := by decide +kernel
theorem dX14_compared_89 : decode cX14_compared 89 = .ok (.iload_n 1, 1) := by decide +kernel
theorem dX14_compared_90 : decode cX14_compared 90 = .ok (.iaload, 1) := by decide +kernel
theorem dX14_compared_91 : decode cX14_compared 91 = .ok (.iconst 1, 1) := by decide +kernel
theorem dX14_compared_92 : decode cX14_compared 92 = .ok (.if_icmp .ne 53, 3) := by decide +kernel
theorem dX14_compared_95 : decode cX14_compared 95 = .ok (.aload_n 0, 1) := by decide +kernel
theorem dX14_compared_96 : decode cX14_compared 96 = .ok (.getfield 11, 3) := by decide +kernel
theorem dX14_compared_99 : decode cX14_compared 99 = .ok (.iload_n 2, 1) := by decide +kernel
theorem dX14_compared_100 : decode cX14_compared 100 = .ok (.iaload, 1) := by decide +kernel
theorem dX14_compared_101 : decode cX14_compared 101 = .ok (.iconst 1, 1) := by decide +kernel
theorem dX14_compared_102 : decode cX14_compared 102 = .ok (.if_icmp .ne 43, 3) := by decide +kernel
theorem dX14_compared_105 : decode cX14_compared 105 = .ok (.aload_n 0, 1) := by decide +kernel
theorem dX14_compared_106 : decode cX14_compared 106 = .ok (.getfield 15, 3) := by decide +kernel
theorem dX14_compared_109 : decode cX14_compared 109 = .ok (.iload_n 1, 1) := by decide +kernel
theorem dX14_compared_110 : decode cX14_compared 110 = .ok (.iaload, 1) := by decide +kernel
theorem dX14_compared_111 : decode cX14_compared 111 = .ok (.aload_n 0, 1) := by decide +kernel
theorem dX14_compared_112 : decode cX14_compared 112 = .ok (.getfield 15, 3) := by decide +kernel
theorem dX14_compared_115 : decode cX14_compared 115 = .ok (.iload_n 2, 1) := by decide +kernel
theorem dX14_compared_116 : decode cX14_compared 116 = .ok (.iaload, 1) := by decide +kernel
theorem dX14_compared_117 : decode cX14_compared 117 = .ok (.if_icmp .ge 7, 3) := by decide +kernel
theorem dX14_compared_120 : decode cX14_compared 120 = .ok (.iconst (-1), 1) := by decide +kernel
theorem dX14_compared_121 : decode cX14_compared 121 = .ok (.goto 23, 3) := by decide +kernel
theorem dX14_compared_124 : decode cX14_compared 124 = .ok (.aload_n 0, 1) := by decide +kernel
theorem dX14_compared_125 : decode cX14_compared 125 = .ok (.getfield 15, 3) := by decide +kernel
theorem dX14_compared_128 : decode cX14_compared 128 = .ok (.iload_n 1, 1) := by decide +kernel
theorem dX14_compared_129 : decode cX14_compared 129 = .ok (.iaload, 1) := by decide +kernel
theorem dX14_compared_130 : decode cX14_compared 130 = .ok (.aload_n 0, 1) := by decide +kernel
theorem dX14_compared_131 : decode cX14_compared 131 = .ok (.getfield 15, 3) := by decide +kernel
theorem dX14_compared_134 : decode cX14_compared 134 = .ok (.iload_n 2, 1) := by decide +kernel
theorem dX14_compared_135 : decode cX14_compared 135 = .ok (.iaload, 1) := by decide +kernel
theorem dX14_compared_136 : decode cX14_compared 136 = .ok (.if_icmp .le 7, 3) := by decide +kernel
theorem dX14_compared_139 : decode cX14_compared 139 = .ok (.iconst 1, 1) := by decide +kernel
theorem dX14_compared_140 : decode cX14_compared 140 = .ok (.goto 4, 3) := by decide +kernel
theorem dX14_compared_143 : decode cX14_compared 143 = .ok (.iconst 0, 1) := by decide +kernel
theorem dX14_compared_144 : decode cX14_compared 144 = .ok (.ireturn, 1) := by decide +kernel
theorem dX14_compared_145 : decode cX14_compared 145 = .ok (.aload_n 0, 1) := by decide +kernel
theorem dX14_compared_146 : decode cX14_compared 146 = .ok (.getfield 11, 3) := by decide +kernel
theorem dX14_compared_149 : decode cX14_compared 149 = .ok (.iload_n 1, 1) := by decide +kernel
theorem dX14_compared_150 : decode cX14_compared 150 = .ok (.iaload, 1) := by decide +kernel
theorem dX14_compared_151 : decode cX14_compared 151 = .ok (.iconst 1, 1) := by decide +kernel
theorem dX14_compared_152 : decode cX14_compared 152 = .ok (.if_icmp .ne 13, 3) := by decide +kernel
theorem dX14_compared_155 : decode cX14_compared 155 = .ok (.aload_n 0, 1) := by decide +kernel
theorem dX14_compared_156 : decode cX14_compared 156 = .ok (.getfield 15, 3) := by decide +kernel
theorem dX14_compared_159 : decode cX14_compared 159 = .ok (.iload_n 1, 1) := by decide +kernel
theorem dX14_compared_160 : decode cX14_compared 160 = .ok (.iaload, 1) := by decide +kernel
theorem dX14_compared_161 : decode cX14_compared 161 = .ok (.i2f, 1) := by decide +kernel
theorem dX14_compared_162 : decode cX14_compared 162 = .ok (.goto 9, 3) := by decide +kernel
theorem dX14_compared_165 : decode cX14_compared 165 = .ok (.aload_n 0, 1) := by decide +kernel
theorem dX14_compared_166 : decode cX14_compared 166 = .ok (.getfield 24, 3) := by decide +kernel
theorem dX14_compared_169 : decode cX14_compared 169 = .ok (.iload_n 1, 1) := by decide +kernel
theorem dX14_compared_170 : decode cX14_compared 170 = .ok (.faload, 1) := by decide +kernel
theorem dX14_compared_171 : decode cX14_compared 171 = .ok (.fstore_n 3, 1) := by decide +kernel
theorem dX14_compared_172 : decode cX14_compared 172 = .ok (.aload_n 0, 1) := by decide +kernel
theorem dX14_compared_173 : decode cX14_compared 173 = .ok (.getfield 11, 3) := by decide +kernel
theorem dX14_compared_176 : decode cX14_compared 176 = .ok (.iload_n 2, 1) := by decide +kernel
theorem dX14_compared_177 : decode cX14_compared 177 = .ok (.iaload, 1) := by decide +kernel
theorem dX14_compared_178 : decode cX14_compared 178 = .ok (.iconst 1, 1) := by decide +kernel
theorem dX14_compared_179 : decode cX14_compared 179 = .ok (.if_icmp .ne 13, 3) := by decide +kernel
theorem dX14_compared_182 : decode cX14_compared 182 = .ok (.aload_n 0, 1) := by decide +kernel
theorem dX14_compared_183 : decode cX14_compared 183 = .ok (.getfield 15, 3) := by decide +kernel
theorem dX14_compared_186 : decode cX14_compared 186 = .ok (.iload_n 2, 1) := by decide +kernel
theorem dX14_compared_187 : decode cX14_compared 187 = .ok (.iaload, 1) := by decide +kernel
theorem dX14_compared_188 : decode cX14_compared 188 = .ok (.i2f, 1) := by decide +kernel
theorem dX14_compared_189 : decode cX14_compared 189 = .ok (.goto 9, 3) := by decide +kernel
theorem dX14_compared_192 : decode cX14_compared 192 = .ok (.aload_n 0, 1) := by decide +kernel
theorem dX14_compared_193 : decode cX14_compared 193 = .ok (.getfield 24, 3) := by decide +kernel
theorem dX14_compared_196 : decode cX14_compared 196 = .ok (.iload_n 2, 1) := by decide +kernel
theorem dX14_compared_197 : decode cX14_compared 197 = .ok (.faload, 1) := by decide +kernel
theorem dX14_compared_198 : decode cX14_compared 198 = .ok (.fstore 4, 2) := by decide +kernel
theorem dX14_compared_200 : decode cX14_compared 200 = .ok (.fload_n 3, 1) := by decide +kernel
theorem dX14_compared_201 : decode cX14_compared 201 = .ok (.fload 4, 2) := by decide +kernel
theorem dX14_compared_203 : decode cX14_compared 203 = .ok (.fcmp .g, 1) := by decide +kernel
theorem dX14_compared_204 : decode cX14_compared 204 = .ok (.ifCond .ge 7, 3) := by decide +kernel
theorem dX14_compared_207 : decode cX14_compared 207 = .ok (.iconst (-1), 1) := by decide +kernel
theorem dX14_compared_208 : decode cX14_compared 208 = .ok (.goto 15, 3) := by decide +kernel
theorem dX14_compared_211 : decode cX14_compared 211 = .ok (.fload_n 3, 1) := by decide +kernel
theorem dX14_compared_212 : decode cX14_compared 212 = .ok (.fload 4, 2) := by decide +kernel
theorem dX14_compared_214 : decode cX14_compared 214 = .ok (.fcmp .l, 1) := by decide +kernel
theorem dX14_compared_215 : decode cX14_compared 215 = .ok (.ifCond .le 7, 3) := by decide +kernel
theorem dX14_compared_218 : decode cX14_compared 218 = .ok (.iconst 1, 1) := by decide +kernel
theorem dX14_compared_219 : decode cX14_compared 219 = .ok (.goto 4, 3) := by decide +kernel
theorem dX14_compared_222 : decode cX14_compared 222 = .ok (.iconst 0, 1) := by decide +kernel
theorem dX14_compared_223 : decode cX14_compared 223 = .ok (.ireturn, 1) := by decide +kernel
theorem dX14_areComparable_0 : decode cX14_areComparable 0 = .ok (.aload_n 0, 1) := by decide +kernel
theorem dX14_areComparable_1 : decode cX14_areComparable 1 = .ok (.getfield 11, 3) := by decide +kernel
theorem dX14_areComparable_4 : decode cX14_areComparable 4 = .ok (.iload_n 1, 1) := by decide +kernel
theorem dX14_areComparable_5 : decode cX14_areComparable 5 = .ok (.iaload, 1) := by decide +kernel
theorem dX14_areComparable_6 : decode cX14_areComparable 6 = .ok (.iconst 1, 1) := by decide +kernel
theorem dX14_areComparable_7 : decode cX14_areComparable 7 = .ok (.if_icmp .eq 13, 3) := by decide +kernel
theorem dX14_areComparable_10 : decode cX14_areComparable 10 = .ok (.aload_n 0, 1) := by decide +kernel
theorem dX14_areComparable_11 : decode cX14_areComparable 11 = .ok (.getfield 11, 3) := by decide +kernel
theorem dX14_areComparable_14 : decode cX14_areComparable 14 = .ok (.iload_n 1, 1) := by decide +kernel
theorem dX14_areComparable_15 : decode cX14_areComparable 15 = .ok (.iaload, 1) := by decide +kernel
theorem dX14_areComparable_16 : decode cX14_areComparable 16 = .ok (.iconst 2, 1) := by decide +kernel
theorem dX14_areComparable_17 : decode cX14_areComparable 17 = .ok (.if_icmp .ne 27, 3) := by decide +kernel
theorem dX14_areComparable_20 : decode cX14_areComparable 20 = .ok (.aload_n 0, 1) := by decide +kernel
theorem dX14_areComparable_21 : decode cX14_areComparable 21 = .ok (.getfield 11, 3) := by decide +kernel
theorem dX14_areComparable_24 : decode cX14_areComparable 24 = .ok (.iload_n 2, 1) := by decide +kernel
theorem dX14_areComparable_25 : decode cX14_areComparable 25 = .ok (.iaload, 1) := by decide +kernel
theorem dX14_areComparable_26 : decode cX14_areComparable 26 = .ok (.iconst 1, 1) := by decide +kernel
theorem dX14_areComparable_27 : decode cX14_areComparable 27 = .ok (.if_icmp .eq 13, 3) := by decide +kernel
theorem dX14_areComparable_30 : decode cX14_areComparable 30 = .ok (.aload_n 0, 1) := by decide +kernel
theorem dX14_areComparable_31 : decode cX14_areComparable 31 = .ok (.getfield 11, 3) := by decide +kernel
theorem dX14_areComparable_34 : decode cX14_areComparable 34 = .ok (.iload_n 2, 1) := by decide +kernel
theorem dX14_areComparable_35 : decode cX14_areComparable 35 = .ok (.iaload, 1) := by decide +kernel
theorem dX14_areComparable_36 : decode cX14_areComparable 36 = .ok (.iconst 2, 1) := by decide +kernel
theorem dX14_areComparable_37 : decode cX14_areComparable 37 = .ok (.if_icmp .ne 7, 3) := by decide +kernel
theorem dX14_areComparable_40 : decode cX14_areComparable 40 = .ok (.iconst 1, 1) := by decide +kernel
theorem dX14_areComparable_41 : decode cX14_areComparable 41 = .ok (.goto 4, 3) := by decide +kernel
theorem dX14_areComparable_44 : decode cX14_areComparable 44 = .ok (.iconst 0, 1) := by decide +kernel
theorem dX14_areComparable_45 : decode cX14_areComparable 45 = .ok (.istore_n 3, 1) := by decide +kernel
theorem dX14_areComparable_46 : decode cX14_areComparable 46 = .ok (.iload_n 3, 1) := by decide +kernel
theorem dX14_areComparable_47 : decode cX14_areComparable 47 = .ok (.ifCond .ne 23, 3) := by decide +kernel
theorem dX14_areComparable_50 : decode cX14_areComparable 50 = .ok (.aload_n 0, 1) := by decide +kernel
theorem dX14_areComparable_51 : decode cX14_areComparable 51 = .ok (.getfield 11, 3) := by decide +kernel
theorem dX14_areComparable_54 : decode cX14_areComparable 54 = .ok (.iload_n 1, 1) := by decide +kernel
theorem dX14_areComparable_55 : decode cX14_areComparable 55 = .ok (.iaload, 1) := by decide +kernel
theorem dX14_areComparable_56 : decode cX14_areComparable 56 = .ok (.iconst 3, 1) := by decide +kernel
theorem dX14_areComparable_57 : decode cX14_areComparable 57 = .ok (.if_icmp .ne 17, 3) := by decide +kernel
theorem dX14_areComparable_60 : decode cX14_areComparable 60 = .ok (.aload_n 0, 1) := by decide +kernel
theorem dX14_areComparable_61 : decode cX14_areComparable 61 = .ok (.getfield 11, 3) := by decide +kernel
theorem dX14_areComparable_64 : decode cX14_areComparable 64 = .ok (.iload_n 2, 1) := by decide +kernel
theorem dX14_areComparable_65 : decode cX14_areComparable 65 = .ok (.iaload, 1) := by decide +kernel
theorem dX14_areComparable_66 : decode cX14_areComparable 66 = .ok (.iconst 3, 1) := by decide +kernel
theorem dX14_areComparable_67 : decode cX14_areComparable 67 = .ok (.if_icmp .ne 7, 3) := by decide +kernel
theorem dX14_areComparable_70 : decode cX14_areComparable 70 = .ok (.iconst 1, 1) := by decide +kernel
theorem dX14_areComparable_71 : decode cX14_areComparable 71 = .ok (.goto 4, 3) := by decide +kernel
theorem dX14_areComparable_74 : decode cX14_areComparable 74 = .ok (.iconst 0, 1) := by decide +kernel
theorem dX14_areComparable_75 : decode cX14_areComparable 75 = .ok (.ireturn, 1) := by decide +kernel
theorem dX14_condition_0 : decode cX14_condition 0 = .ok (.aload_n 0, 1) := by decide +kernel
theorem dX14_condition_1 : decode cX14_condition 1 = .ok (.iload_n 1, 1) := by decide +kernel
theorem dX14_condition_2 : decode cX14_condition 2 = .ok (.aload_n 0, 1) := by decide +kernel
theorem dX14_condition_3 : decode cX14_condition 3 = .ok (.getfield 341, 3) := by decide +kernel
theorem dX14_condition_6 : decode cX14_condition 6 = .ok (.invokevirtual 344, 3) := by decide +kernel
theorem dX14_condition_9 : decode cX14_condition 9 = .ok (.bipush 33, 2) := by decide +kernel
theorem dX14_condition_11 : decode cX14_condition 11 = .ok (.if_icmp .ne 7, 3) := by decide +kernel
theorem dX14_condition_14 : decode cX14_condition 14 = .ok (.iconst 1, 1) := by decide +kernel
theorem dX14_condition_15 : decode cX14_condition 15 = .ok (.goto 4, 3) := by decide +kernel
theorem dX14_condition_18 : decode cX14_condition 18 = .ok (.iconst 0, 1) := by decide +kernel
theorem dX14_condition_19 : decode cX14_condition 19 = .ok (.istore_n 2, 1) := by decide +kernel
theorem dX14_condition_20 : decode cX14_condition 20 = .ok (.aload_n 0, 1) := by decide +kernel
theorem dX14_condition_21 : decode cX14_condition 21 = .ok (.dup, 1) := by decide +kernel
theorem dX14_condition_22 : decode cX14_condition 22 = .ok (.getfield 341, 3) := by decide +kernel
theorem dX14_condition_25 : decode cX14_condition 25 = .ok (.iload_n 2, 1) := by decide +kernel
theorem dX14_condition_26 : decode cX14_condition 26 = .ok (.ifCond .eq 7, 3) := by decide +kernel
theorem dX14_condition_29 : decode cX14_condition 29 = .ok (.iconst 1, 1) := by decide +kernel
theorem dX14_condition_30 : decode cX14_condition 30 = .ok (.goto 4, 3) := by decide +kernel
theorem dX14_condition_33 : decode cX14_condition 33 = .ok (.iconst 0, 1) := by decide +kernel
theorem dX14_condition_34 : decode cX14_condition 34 = .ok (.iadd, 1) := by decide +kernel
theorem dX14_condition_35 : decode cX14_condition 35 = .ok (.putfield 341, 3) := by decide +kernel
theorem dX14_condition_38 : decode cX14_condition 38 = .ok (.aload_n 0, 1) := by decide +kernel
theorem dX14_condition_39 : decode cX14_condition 39 = .ok (.iload_n 1, 1) := by decide +kernel
theorem dX14_condition_40 : decode cX14_condition 40 = .ok (.bipush 8, 2) := by decide +kernel
theorem dX14_condition_42 : decode cX14_condition 42 = .ok (.invokevirtual 362, 3) := by decide +kernel
theorem dX14_condition_45 : decode cX14_condition 45 = .ok (.istore_n 3, 1) := by decide +kernel
theorem dX14_condition_46 : decode cX14_condition 46 = .ok (.iload_n 3, 1) := by decide +kernel
theorem dX14_condition_47 : decode cX14_condition 47 = .ok (.ifCond .eq 5, 3) := by decide +kernel
theorem dX14_condition_50 : decode cX14_condition 50 = .ok (.iload_n 3, 1) := by decide +kernel
theorem dX14_condition_51 : decode cX14_condition 51 = .ok (.ireturn, 1) := by decide +kernel
theorem dX14_condition_52 : decode cX14_condition 52 = .ok (.aload_n 0, 1) := by decide +kernel
theorem dX14_condition_53 : decode cX14_condition 53 = .ok (.iload_n 1, 1) := by decide +kernel
theorem dX14_condition_54 : decode cX14_condition 54 = .ok (.aload_n 0, 1) := by decide +kernel
theorem dX14_condition_55 : decode cX14_condition 55 = .ok (.getfield 341, 3) := by decide +kernel
theorem dX14_condition_58 : decode cX14_condition 58 = .ok (.invokevirtual 344, 3) := by decide +kernel
theorem dX14_condition_61 : decode cX14_condition 61 = .ok (.istore 4, 2) := by decide +kernel
theorem dX14_condition_63 : decode cX14_condition 63 = .ok (.aload_n 0, 1) := by decide +kernel
theorem dX14_condition_64 : decode cX14_condition 64 = .ok (.aload_n 0, 1) := by decide +kernel
theorem dX14_condition_65 : decode cX14_condition 65 = .ok (.bipush 8, 2) := by decide +kernel
theorem dX14_condition_67 : decode cX14_condition 67 = .ok (.invokevirtual 365, 3) := by decide +kernel
theorem dX14_condition_70 : decode cX14_condition 70 = .ok (.iload_n 2, 1) := by decide +kernel
theorem dX14_condition_71 : decode cX14_condition 71 = .ok (.if_icmp .eq 7, 3) := by decide +kernel
theorem dX14_condition_74 : decode cX14_condition 74 = .ok (.iconst 1, 1) := by decide +kernel
theorem dX14_condition_75 : decode cX14_condition 75 = .ok (.goto 4, 3) := by decide +kernel
theorem dX14_condition_78 : decode cX14_condition 78 = .ok (.iconst 0, 1) := by decide +kernel
theorem dX14_condition_79 : decode cX14_condition 79 = .ok (.putfield 368, 3) := by decide +kernel
theorem dX14_condition_82 : decode cX14_condition 82 = .ok (.iload 4, 2) := by decide +kernel
theorem dX14_condition_84 : decode cX14_condition 84 = .ok (.bipush 60, 2) := by decide +kernel
theorem dX14_condition_86 : decode cX14_condition 86 = .ok (.if_icmp .eq 12, 3) := by decide +kernel
theorem dX14_condition_89 : decode cX14_condition 89 = .ok (.iload 4, 2) := by decide +kernel
theorem dX14_condition_91 : decode cX14_condition 91 = .ok (.bipush 61, 2) := by decide +kernel
theorem dX14_condition_93 : decode cX14_condition 93 = .ok (.if_icmp .eq 5, 3) := by decide +kernel
theorem dX14_condition_96 : decode cX14_condition 96 = .ok (.iconst 0, 1) := by decide +kernel
theorem dX14_condition_97 : decode cX14_condition 97 = .ok (.ireturn, 1) := by decide +kernel
theorem dX14_condition_98 : decode cX14_condition 98 = .ok (.aload_n 0, 1) := by decide +kernel
theorem dX14_condition_99 : decode cX14_condition 99 = .ok (.dup, 1) := by decide +kernel
theorem dX14_condition_100 : decode cX14_condition 100 = .ok (.getfield 341, 3) := by decide +kernel
theorem dX14_condition_103 : decode cX14_condition 103 = .ok (.iconst 1, 1) := by decide +kernel
theorem dX14_condition_104 : decode cX14_condition 104 = .ok (.iadd, 1) := by decide +kernel
theorem dX14_condition_105 : decode cX14_condition 105 = .ok (.putfield 341, 3) := by decide +kernel
theorem dX14_condition_108 : decode cX14_condition 108 = .ok (.aload_n 0, 1) := by decide +kernel
theorem dX14_condition_109 : decode cX14_condition 109 = .ok (.iload_n 1, 1) := by decide +kernel
theorem dX14_condition_110 : decode cX14_condition 110 = .ok (.bipush 9, 2) := by decide +kernel
theorem dX14_condition_112 : decode cX14_condition 112 = .ok (.invokevirtual 362, 3) := by decide +kernel
theorem dX14_condition_115 : decode cX14_condition 115 = .ok (.istore_n 3, 1) := by decide +kernel
theorem dX14_condition_116 : decode cX14_condition 116 = .ok (.iload_n 3, 1) := by decide +kernel
theorem dX14_condition_117 : decode cX14_condition 117 = .ok (.ifCond .eq 5, 3) := by decide +kernel
theorem dX14_condition_120 : decode cX14_condition 120 = .ok (.iload_n 3, 1) := by decide +kernel
theorem dX14_condition_121 : decode cX14_condition 121 = .ok (.ireturn, 1) := by decide +kernel
theorem dX14_condition_122 : decode cX14_condition 122 = .ok (.aload_n 0, 1) := by decide +kernel
theorem dX14_condition_123 : decode cX14_condition 123 = .ok (.bipush 8, 2) := by decide +kernel
theorem dX14_condition_125 : decode cX14_condition 125 = .ok (.bipush 9, 2) := by decide +kernel
theorem dX14_condition_127 : decode cX14_condition 127 = .ok (.invokevirtual 372, 3) := by decide +kernel
theorem dX14_condition_130 : decode cX14_condition 130 = .ok (.ifCond .ne 5, 3) := by decide +kernel
theorem dX14_condition_133 : decode cX14_condition 133 = .ok (.iconst 2, 1) := by decide +kernel
theorem dX14_condition_134 : decode cX14_condition 134 = .ok (.ireturn, 1) := by decide +kernel
theorem dX14_condition_135 : decode cX14_condition 135 = .ok (.aload_n 0, 1) := by decide +kernel
theorem dX14_condition_136 : decode cX14_condition 136 = .ok (.bipush 8, 2) := by decide +kernel
theorem dX14_condition_138 : decode cX14_condition 138 = .ok (.bipush 9, 2) := by decide +kernel
theorem dX14_condition_140 : decode cX14_condition 140 = .ok (.invokevirtual 375, 3) := by decide +kernel
theorem dX14_condition_143 : decode cX14_condition 143 = .ok (.istore 5, 2) := by decide +kernel
theorem dX14_condition_145 : decode cX14_condition 145 = .ok (.aload_n 0, 1) := by decide +kernel
theorem dX14_condition_146 : decode cX14_condition 146 = .ok (.iload 4, 2) := by decide +kernel
theorem dX14_condition_148 : decode cX14_condition 148 = .ok (.bipush 60, 2) := by decide +kernel
theorem dX14_condition_150 : decode cX14_condition 150 = .ok (.if_icmp .ne 16, 3) := by decide +kernel
theorem dX14_condition_153 : decode cX14_condition 153 = .ok (.iload 5, 2) := by decide +kernel
theorem dX14_condition_155 : decode cX14_condition 155 = .ok (.ifCond .ge 7, 3) := by decide +kernel
theorem dX14_condition_158 : decode cX14_condition 158 = .ok (.iconst 1, 1) := by decide +kernel
theorem dX14_condition_159 : decode cX14_condition 159 = .ok (.goto 17, 3) := by decide +kernel
theorem dX14_condition_162 : decode cX14_condition 162 = .ok (.iconst 0, 1) := by decide +kernel
theorem dX14_condition_163 : decode cX14_condition 163 = .ok (.goto 13, 3) := by decide +kernel
theorem dX14_condition_166 : decode cX14_condition 166 = .ok (.iload 5, 2) := by decide +kernel
theorem dX14_condition_168 : decode cX14_condition 168 = .ok (.ifCond .ne 7, 3) := by decide +kernel
theorem dX14_condition_171 : decode cX14_condition 171 = .ok (.iconst 1, 1) := by decide +kernel
theorem dX14_condition_172 : decode cX14_condition 172 = .ok (.goto 4, 3) := by decide +kernel
theorem dX14_condition_175 : decode cX14_condition 175 = .ok (.iconst 0, 1) := by decide +kernel
theorem dX14_condition_176 : decode cX14_condition 176 = .ok (.putfield 368, 3) := by decide +kernel
theorem dX14_condition_179 : decode cX14_condition 179 = .ok (.iconst 0, 1) := by decide +kernel
theorem dX14_condition_180 : decode cX14_condition 180 = .ok (.ireturn, 1) := by decide +kernel
theorem dX14_isRoom_0 : decode cX14_isRoom 0 = .ok (.aload_n 0, 1) := by decide +kernel
theorem dX14_isRoom_1 : decode cX14_isRoom 1 = .ok (.getfield 378, 3) := by decide +kernel
theorem dX14_isRoom_4 : decode cX14_isRoom 4 = .ok (.aload_n 0, 1) := by decide +kernel
theorem dX14_isRoom_5 : decode cX14_isRoom 5 = .ok (.getfield 49, 3) := by decide +kernel
theorem dX14_isRoom_8 : decode cX14_isRoom 8 = .ok (.if_icmp .ge 7, 3) := by decide +kernel
theorem dX14_isRoom_11 : decode cX14_isRoom 11 = .ok (.iconst 1, 1) := by decide +kernel
theorem dX14_isRoom_12 : decode cX14_isRoom 12 = .ok (.goto 4, 3) := by decide +kernel
theorem dX14_isRoom_15 : decode cX14_isRoom 15 = .ok (.iconst 0, 1) := by decide +kernel
theorem dX14_isRoom_16 : decode cX14_isRoom 16 = .ok (.ireturn, 1) := by decide +kernel
theorem dX14_puts_0 : decode cX14_puts 0 = .ok (.aload_n 0, 1) := by decide +kernel
theorem dX14_puts_1 : decode cX14_puts 1 = .ok (.invokevirtual 381, 3) := by decide +kernel
theorem dX14_puts_4 : decode cX14_puts 4 = .ok (.ifCond .ne 5, 3) := by decide +kernel
theorem dX14_puts_7 : decode cX14_puts 7 = .ok (.iconst 0, 1) := by decide +kernel
theorem dX14_puts_8 : decode cX14_puts 8 = .ok (.ireturn, 1) := by decide +kernel
theorem dX14_puts_9 : decode cX14_puts 9 = .ok (.aload_n 0, 1) := by decide +kernel
theorem dX14_puts_10 : decode cX14_puts 10 = .ok (.getfield 46, 3) := by decide +kernel
theorem dX14_puts_13 : decode cX14_puts 13 = .ok (.aload_n 0, 1) := by decide +kernel
theorem dX14_puts_14 : decode cX14_puts 14 = .ok (.getfield 378, 3) := by decide +kernel
theorem dX14_puts_17 : decode cX14_puts 17 = .ok (.iload_n 1, 1) := by decide +kernel
theorem dX14_puts_18 : decode cX14_puts 18 = .ok (.iastore, 1) := by decide +kernel
theorem dX14_puts_19 : decode cX14_puts 19 = .ok (.aload_n 0, 1) := by decide +kernel
theorem dX14_puts_20 : decode cX14_puts 20 = .ok (.dup, 1) := by decide +kernel
theorem dX14_puts_21 : decode cX14_puts 21 = .ok (.getfield 378, 3) := by decide +kernel
theorem dX14_puts_24 : decode cX14_puts 24 = .ok (.iconst 1, 1) := by decide +kernel
theorem dX14_puts_25 : decode cX14_puts 25 = .ok (.iadd, 1) := by decide +kernel
theorem dX14_puts_26 : decode cX14_puts 26 = .ok (.putfield 378, 3) := by decide +kernel
theorem dX14_puts_29 : decode cX14_puts 29 = .ok (.iconst 1, 1) := by decide +kernel
theorem dX14_puts_30 : decode cX14_puts 30 = .ok (.ireturn, 1) := by decide +kernel
theorem dX14_goesOnBy_0 : decode cX14_goesOnBy 0 = .ok (.aload_n 0, 1) := by decide +kernel
theorem dX14_goesOnBy_1 : decode cX14_goesOnBy 1 = .ok (.getfield 384, 3) := by decide +kernel
theorem dX14_goesOnBy_4 : decode cX14_goesOnBy 4 = .ok (.ifCond .ne 31, 3) := by decide +kernel
theorem dX14_goesOnBy_7 : decode cX14_goesOnBy 7 = .ok (.aload_n 0, 1) := by decide +kernel
theorem dX14_goesOnBy_8 : decode cX14_goesOnBy 8 = .ok (.iload_n 1, 1) := by decide +kernel
theorem dX14_goesOnBy_9 : decode cX14_goesOnBy 9 = .ok (.bipush 60, 2) := by decide +kernel
theorem dX14_goesOnBy_11 : decode cX14_goesOnBy 11 = .ok (.if_icmp .ne 7, 3) := by decide +kernel
theorem dX14_goesOnBy_14 : decode cX14_goesOnBy 14 = .ok (.iconst 1, 1) := by decide +kernel
theorem dX14_goesOnBy_15 : decode cX14_goesOnBy 15 = .ok (.goto 14, 3) := by decide +kernel
theorem dX14_goesOnBy_18 : decode cX14_goesOnBy 18 = .ok (.iload_n 1, 1) := by decide +kernel
theorem dX14_goesOnBy_19 : decode cX14_goesOnBy 19 = .ok (.bipush 96, 2) := by decide +kernel
theorem dX14_goesOnBy_21 : decode cX14_goesOnBy 21 = .ok (.if_icmp .ne 7, 3) := by decide +kernel
theorem dX14_goesOnBy_24 : decode cX14_goesOnBy 24 = .ok (.iconst 3, 1) := by decide +kernel
theorem dX14_goesOnBy_25 : decode cX14_goesOnBy 25 = .ok (.goto 4, 3) := by decide +kernel
theorem dX14_goesOnBy_28 : decode cX14_goesOnBy 28 = .ok (.iconst 0, 1) := by decide +kernel
theorem dX14_goesOnBy_29 : decode cX14_goesOnBy 29 = .ok (.putfield 384, 3) := by decide +kernel
theorem dX14_goesOnBy_32 : decode cX14_goesOnBy 32 = .ok (.goto 80, 3) := by decide +kernel
theorem dX14_goesOnBy_35 : decode cX14_goesOnBy 35 = .ok (.aload_n 0, 1) := by decide +kernel
theorem dX14_goesOnBy_36 : decode cX14_goesOnBy 36 = .ok (.getfield 384, 3) := by decide +kernel
theorem dX14_goesOnBy_39 : decode cX14_goesOnBy 39 = .ok (.iconst 1, 1) := by decide +kernel
theorem dX14_goesOnBy_40 : decode cX14_goesOnBy 40 = .ok (.if_icmp .ne 31, 3) := by decide +kernel
theorem dX14_goesOnBy_43 : decode cX14_goesOnBy 43 = .ok (.aload_n 0, 1) := by decide +kernel
theorem dX14_goesOnBy_44 : decode cX14_goesOnBy 44 = .ok (.iload_n 1, 1) := by decide +kernel
theorem dX14_goesOnBy_45 : decode cX14_goesOnBy 45 = .ok (.bipush 62, 2) := by decide +kernel
theorem dX14_goesOnBy_47 : decode cX14_goesOnBy 47 = .ok (.if_icmp .ne 7, 3) := by decide +kernel
theorem dX14_goesOnBy_50 : decode cX14_goesOnBy 50 = .ok (.iconst 0, 1) := by decide +kernel
theorem dX14_goesOnBy_51 : decode cX14_goesOnBy 51 = .ok (.goto 14, 3) := by decide +kernel
theorem dX14_goesOnBy_54 : decode cX14_goesOnBy 54 = .ok (.iload_n 1, 1) := by decide +kernel
theorem dX14_goesOnBy_55 : decode cX14_goesOnBy 55 = .ok (.bipush 34, 2) := by decide +kernel
theorem dX14_goesOnBy_57 : decode cX14_goesOnBy 57 = .ok (.if_icmp .ne 7, 3) := by decide +kernel
theorem dX14_goesOnBy_60 : decode cX14_goesOnBy 60 = .ok (.iconst 2, 1) := by decide +kernel
theorem dX14_goesOnBy_61 : decode cX14_goesOnBy 61 = .ok (.goto 4, 3) := by decide +kernel
theorem dX14_goesOnBy_64 : decode cX14_goesOnBy 64 = .ok (.iconst 1, 1) := by decide +kernel
theorem dX14_goesOnBy_65 : decode cX14_goesOnBy 65 = .ok (.putfield 384, 3) := by decide +kernel
theorem dX14_goesOnBy_68 : decode cX14_goesOnBy 68 = .ok (.goto 44, 3) := by decide +kernel
theorem dX14_goesOnBy_71 : decode cX14_goesOnBy 71 = .ok (.aload_n 0, 1) := by decide +kernel
theorem dX14_goesOnBy_72 : decode cX14_goesOnBy 72 = .ok (.getfield 384, 3) := by decide +kernel
theorem dX14_goesOnBy_75 : decode cX14_goesOnBy 75 = .ok (.iconst 2, 1) := by decide +kernel
theorem dX14_goesOnBy_76 : decode cX14_goesOnBy 76 = .ok (.if_icmp .ne 21, 3) := by decide +kernel
theorem dX14_goesOnBy_79 : decode cX14_goesOnBy 79 = .ok (.aload_n 0, 1) := by decide +kernel
theorem dX14_goesOnBy_80 : decode cX14_goesOnBy 80 = .ok (.iload_n 1, 1) := by decide +kernel
theorem dX14_goesOnBy_81 : decode cX14_goesOnBy 81 = .ok (.bipush 34, 2) := by decide +kernel
theorem dX14_goesOnBy_83 : decode cX14_goesOnBy 83 = .ok (.if_icmp .ne 7, 3) := by decide +kernel
theorem dX14_goesOnBy_86 : decode cX14_goesOnBy 86 = .ok (.iconst 1, 1) := by decide +kernel
theorem dX14_goesOnBy_87 : decode cX14_goesOnBy 87 = .ok (.goto 4, 3) := by decide +kernel
theorem dX14_goesOnBy_90 : decode cX14_goesOnBy 90 = .ok (.iconst 2, 1) := by decide +kernel
theorem dX14_goesOnBy_91 : decode cX14_goesOnBy 91 = .ok (.putfield 384, 3) := by decide +kernel
theorem dX14_goesOnBy_94 : decode cX14_goesOnBy 94 = .ok (.goto 18, 3) := by decide +kernel
theorem dX14_goesOnBy_97 : decode cX14_goesOnBy 97 = .ok (.aload_n 0, 1) := by decide +kernel
theorem dX14_goesOnBy_98 : decode cX14_goesOnBy 98 = .ok (.iload_n 1, 1) := by decide +kernel
theorem dX14_goesOnBy_99 : decode cX14_goesOnBy 99 = .ok (.bipush 96, 2) := by decide +kernel
theorem dX14_goesOnBy_101 : decode cX14_goesOnBy 101 = .ok (.if_icmp .ne 7, 3) := by decide +kernel
theorem dX14_goesOnBy_104 : decode cX14_goesOnBy 104 = .ok (.iconst 0, 1) := by decide +kernel
theorem dX14_goesOnBy_105 : decode cX14_goesOnBy 105 = .ok (.goto 4, 3) := by decide +kernel
theorem dX14_goesOnBy_108 : decode cX14_goesOnBy 108 = .ok (.iconst 3, 1) := by decide +kernel
theorem dX14_goesOnBy_109 : decode cX14_goesOnBy 109 = .ok (.putfield 384, 3) := by decide +kernel
theorem dX14_goesOnBy_112 : decode cX14_goesOnBy 112 = .ok (.return_, 1) := by decide +kernel
theorem dX14_isLetterOrFigure_0 : decode cX14_isLetterOrFigure 0 = .ok (.iload_n 0, 1) := by decide +kernel
theorem dX14_isLetterOrFigure_1 : decode cX14_isLetterOrFigure 1 = .ok (.i2l, 1) := by decide +kernel
theorem dX14_isLetterOrFigure_2 : decode cX14_isLetterOrFigure 2 = .ok (.ldc2_w 159, 3) := by decide +kernel
theorem dX14_isLetterOrFigure_5 : decode cX14_isLetterOrFigure 5 = .ok (.ldc2_w 161, 3) := by decide +kernel
theorem dX14_isLetterOrFigure_8 : decode cX14_isLetterOrFigure 8 = .ok (.invokestatic 155, 3) := by decide +kernel
theorem dX14_isLetterOrFigure_11 : decode cX14_isLetterOrFigure 11 = .ok (.ifCond .ne 31, 3) := by decide +kernel
theorem dX14_isLetterOrFigure_14 : decode cX14_isLetterOrFigure 14 = .ok (.iload_n 0, 1) := by decide +kernel
theorem dX14_isLetterOrFigure_15 : decode cX14_isLetterOrFigure 15 = .ok (.i2l, 1) := by decide +kernel
theorem dX14_isLetterOrFigure_16 : decode cX14_isLetterOrFigure 16 = .ok (.ldc2_w 266, 3) := by decide +kernel
theorem dX14_isLetterOrFigure_19 : decode cX14_isLetterOrFigure 19 = .ok (.ldc2_w 268, 3) := by decide +kernel
theorem dX14_isLetterOrFigure_22 : decode cX14_isLetterOrFigure 22 = .ok (.invokestatic 155, 3) := by decide +kernel
theorem dX14_isLetterOrFigure_25 : decode cX14_isLetterOrFigure 25 = .ok (.ifCond .ne 17, 3) := by decide +kernel
theorem dX14_isLetterOrFigure_28 : decode cX14_isLetterOrFigure 28 = .ok (.iload_n 0, 1) := by decide +kernel
theorem dX14_isLetterOrFigure_29 : decode cX14_isLetterOrFigure 29 = .ok (.i2l, 1) := by decide +kernel
theorem dX14_isLetterOrFigure_30 : decode cX14_isLetterOrFigure 30 = .ok (.ldc2_w 387, 3) := by decide +kernel
theorem dX14_isLetterOrFigure_33 : decode cX14_isLetterOrFigure 33 = .ok (.ldc2_w 389, 3) := by decide +kernel
theorem dX14_isLetterOrFigure_36 : decode cX14_isLetterOrFigure 36 = .ok (.invokestatic 155, 3) := by decide +kernel
theorem dX14_isLetterOrFigure_39 : decode cX14_isLetterOrFigure 39 = .ok (.ifCond .eq 7, 3) := by decide +kernel
theorem dX14_isLetterOrFigure_42 : decode cX14_isLetterOrFigure 42 = .ok (.iconst 1, 1) := by decide +kernel
theorem dX14_isLetterOrFigure_43 : decode cX14_isLetterOrFigure 43 = .ok (.goto 4, 3) := by decide +kernel
theorem dX14_isLetterOrFigure_46 : decode cX14_isLetterOrFigure 46 = .ok (.iconst 0, 1) := by decide +kernel
theorem dX14_isLetterOrFigure_47 : decode cX14_isLetterOrFigure 47 = .ok (.ireturn, 1) := by decide +kernel
theorem dX14_putsNamed_0 : decode cX14_putsNamed 0 = .ok (.aload_n 0, 1) := by decide +kernel
theorem dX14_putsNamed_1 : decode cX14_putsNamed 1 = .ok (.bipush 38, 2) := by decide +kernel
theorem dX14_putsNamed_3 : decode cX14_putsNamed 3 = .ok (.invokevirtual 391, 3) := by decide +kernel
theorem dX14_putsNamed_6 : decode cX14_putsNamed 6 = .ok (.ifCond .eq 24, 3) := by decide +kernel
theorem dX14_putsNamed_9 : decode cX14_putsNamed 9 = .ok (.aload_n 0, 1) := by decide +kernel
theorem dX14_putsNamed_10 : decode cX14_putsNamed 10 = .ok (.iload_n 1, 1) := by decide +kernel
theorem dX14_putsNamed_11 : decode cX14_putsNamed 11 = .ok (.invokevirtual 391, 3) := by decide +kernel
theorem dX14_putsNamed_14 : decode cX14_putsNamed 14 = .ok (.ifCond .eq 16, 3) := by decide +kernel
theorem dX14_putsNamed_17 : decode cX14_putsNamed 17 = .ok (.aload_n 0, 1) := by decide +kernel
theorem dX14_putsNamed_18 : decode cX14_putsNamed 18 = .ok (.bipush 59, 2) := by decide +kernel
theorem dX14_putsNamed_20 : decode cX14_putsNamed 20 = .ok (.invokevirtual 391, 3) := by decide +kernel
theorem dX14_putsNamed_23 : decode cX14_putsNamed 23 = .ok (.ifCond .eq 7, 3) := by decide +kernel
theorem dX14_putsNamed_26 : decode cX14_putsNamed 26 = .ok (.iconst 1, 1) := by decide +kernel
theorem dX14_putsNamed_27 : decode cX14_putsNamed 27 = .ok (.goto 4, 3) := by decide +kernel
theorem dX14_putsNamed_30 : decode cX14_putsNamed 30 = .ok (.iconst 0, 1) := by decide +kernel
theorem dX14_putsNamed_31 : decode cX14_putsNamed 31 = .ok (.ireturn, 1) := by decide +kernel
theorem dX14_putsEscaped_0 : decode cX14_putsEscaped 0 = .ok (.aload_n 0, 1) := by decide +kernel
theorem dX14_putsEscaped_1 : decode cX14_putsEscaped 1 = .ok (.getfield 384, 3) := by decide +kernel
theorem dX14_putsEscaped_4 : decode cX14_putsEscaped 4 = .ok (.iconst 1, 1) := by decide +kernel
theorem dX14_putsEscaped_5 : decode cX14_putsEscaped 5 = .ok (.if_icmp .ne 21, 3) := by decide +kernel
theorem dX14_putsEscaped_8 : decode cX14_putsEscaped 8 = .ok (.aload_n 0, 1) := by decide +kernel
theorem dX14_putsEscaped_9 : decode cX14_putsEscaped 9 = .ok (.iload_n 1, 1) := by decide +kernel
theorem dX14_putsEscaped_10 : decode cX14_putsEscaped 10 = .ok (.invokestatic 394, 3) := by decide +kernel
theorem dX14_putsEscaped_13 : decode cX14_putsEscaped 13 = .ok (.ifCond .eq 7, 3) := by decide +kernel
theorem dX14_putsEscaped_16 : decode cX14_putsEscaped 16 = .ok (.iload_n 1, 1) := by decide +kernel
theorem dX14_putsEscaped_17 : decode cX14_putsEscaped 17 = .ok (.goto 5, 3) := by decide +kernel
theorem dX14_putsEscaped_20 : decode cX14_putsEscaped 20 = .ok (.bipush 95, 2) := by decide +kernel
theorem dX14_putsEscaped_22 : decode cX14_putsEscaped 22 = .ok (.invokevirtual 391, 3) := by decide +kernel
theorem dX14_putsEscaped_25 : decode cX14_putsEscaped 25 = .ok (.ireturn, 1) := by decide +kernel
theorem dX14_putsEscaped_26 : decode cX14_putsEscaped 26 = .ok (.aload_n 0, 1) := by decide +kernel
theorem dX14_putsEscaped_27 : decode cX14_putsEscaped 27 = .ok (.getfield 384, 3) := by decide +kernel
theorem dX14_putsEscaped_30 : decode cX14_putsEscaped 30 = .ok (.iconst 3, 1) := by decide +kernel
theorem dX14_putsEscaped_31 : decode cX14_putsEscaped 31 = .ok (.if_icmp .ne 38, 3) := by decide +kernel
theorem dX14_putsEscaped_34 : decode cX14_putsEscaped 34 = .ok (.iload_n 1, 1) := by decide +kernel
theorem dX14_putsEscaped_35 : decode cX14_putsEscaped 35 = .ok (.bipush 96, 2) := by decide +kernel
theorem dX14_putsEscaped_37 : decode cX14_putsEscaped 37 = .ok (.if_icmp .eq 9, 3) := by decide +kernel
theorem dX14_putsEscaped_40 : decode cX14_putsEscaped 40 = .ok (.iload_n 1, 1) := by decide +kernel
theorem dX14_putsEscaped_41 : decode cX14_putsEscaped 41 = .ok (.bipush 92, 2) := by decide +kernel
theorem dX14_putsEscaped_43 : decode cX14_putsEscaped 43 = .ok (.if_icmp .ne 12, 3) := by decide +kernel
theorem dX14_putsEscaped_46 : decode cX14_putsEscaped 46 = .ok (.aload_n 0, 1) := by decide +kernel
theorem dX14_putsEscaped_47 : decode cX14_putsEscaped 47 = .ok (.bipush 92, 2) := by decide +kernel
theorem dX14_putsEscaped_49 : decode cX14_putsEscaped 49 = .ok (.invokevirtual 391, 3) := by decide +kernel
theorem dX14_putsEscaped_52 : decode cX14_putsEscaped 52 = .ok (.ifCond .eq 15, 3) := by decide +kernel
theorem dX14_putsEscaped_55 : decode cX14_putsEscaped 55 = .ok (.aload_n 0, 1) := by decide +kernel
theorem dX14_putsEscaped_56 : decode cX14_putsEscaped 56 = .ok (.iload_n 1, 1) := by decide +kernel
theorem dX14_putsEscaped_57 : decode cX14_putsEscaped 57 = .ok (.invokevirtual 391, 3) := by decide +kernel
theorem dX14_putsEscaped_60 : decode cX14_putsEscaped 60 = .ok (.ifCond .eq 7, 3) := by decide +kernel
theorem dX14_putsEscaped_63 : decode cX14_putsEscaped 63 = .ok (.iconst 1, 1) := by decide +kernel
theorem dX14_putsEscaped_64 : decode cX14_putsEscaped 64 = .ok (.goto 4, 3) := by decide +kernel
theorem dX14_putsEscaped_67 : decode cX14_putsEscaped 67 = .ok (.iconst 0, 1) := by decide +kernel
theorem dX14_putsEscaped_68 : decode cX14_putsEscaped 68 = .ok (.ireturn, 1) := by decide +kernel
theorem dX14_putsEscaped_69 : decode cX14_putsEscaped 69 = .ok (.iload_n 1, 1) := by decide +kernel
theorem dX14_putsEscaped_70 : decode cX14_putsEscaped 70 = .ok (.bipush 60, 2) := by decide +kernel
theorem dX14_putsEscaped_72 : decode cX14_putsEscaped 72 = .ok (.if_icmp .ne 10, 3) := by decide +kernel
theorem dX14_putsEscaped_75 : decode cX14_putsEscaped 75 = .ok (.aload_n 0, 1) := by decide +kernel
theorem dX14_putsEscaped_76 : decode cX14_putsEscaped 76 = .ok (.bipush 108, 2) := by decide +kernel
theorem dX14_putsEscaped_78 : decode cX14_putsEscaped 78 = .ok (.invokevirtual 397, 3) := by decide +kernel
theorem dX14_putsEscaped_81 : decode cX14_putsEscaped 81 = .ok (.ireturn, 1) := by decide +kernel
theorem dX14_putsEscaped_82 : decode cX14_putsEscaped 82 = .ok (.iload_n 1, 1) := by decide +kernel
theorem dX14_putsEscaped_83 : decode cX14_putsEscaped 83 = .ok (.bipush 38, 2) := by decide +kernel
theorem dX14_putsEscaped_85 : decode cX14_putsEscaped 85 = .ok (.if_icmp .ne 10, 3) := by decide +kernel
theorem dX14_putsEscaped_88 : decode cX14_putsEscaped 88 = .ok (.aload_n 0, 1) := by decide +kernel
theorem dX14_putsEscaped_89 : decode cX14_putsEscaped 89 = .ok (.bipush 97, 2) := by decide +kernel
theorem dX14_putsEscaped_91 : decode cX14_putsEscaped 91 = .ok (.invokevirtual 397, 3) := by decide +kernel
theorem dX14_putsEscaped_94 : decode cX14_putsEscaped 94 = .ok (.ireturn, 1) := by decide +kernel
theorem dX14_putsEscaped_95 : decode cX14_putsEscaped 95 = .ok (.aload_n 0, 1) := by decide +kernel
theorem dX14_putsEscaped_96 : decode cX14_putsEscaped 96 = .ok (.getfield 384, 3) := by decide +kernel
theorem dX14_putsEscaped_99 : decode cX14_putsEscaped 99 = .ok (.iconst 2, 1) := by decide +kernel
theorem dX14_putsEscaped_100 : decode cX14_putsEscaped 100 = .ok (.if_icmp .ne 18, 3) := by decide +kernel
theorem dX14_putsEscaped_103 : decode cX14_putsEscaped 103 = .ok (.iload_n 1, 1) := by decide +kernel
theorem dX14_putsEscaped_104 : decode cX14_putsEscaped 104 = .ok (.bipush 34, 2) := by decide +kernel
theorem dX14_putsEscaped_106 : decode cX14_putsEscaped 106 = .ok (.if_icmp .ne 12, 3) := by decide +kernel
theorem dX14_putsEscaped_109 : decode cX14_putsEscaped 109 = .ok (.aload_n 0, 1) := by decide +kernel
theorem dX14_putsEscaped_110 : decode cX14_putsEscaped 110 = .ok (.bipush 113, 2) := by decide +kernel
theorem dX14_putsEscaped_112 : decode cX14_putsEscaped 112 = .ok (.invokevirtual 397, 3) := by decide +kernel
theorem dX14_putsEscaped_115 : decode cX14_putsEscaped 115 = .ok (.goto 8, 3) := by decide +kernel
theorem dX14_putsEscaped_118 : decode cX14_putsEscaped 118 = .ok (.aload_n 0, 1) := by decide +kernel
theorem dX14_putsEscaped_119 : decode cX14_putsEscaped 119 = .ok (.iload_n 1, 1) := by decide +kernel
theorem dX14_putsEscaped_120 : decode cX14_putsEscaped 120 = .ok (.invokevirtual 391, 3) := by decide +kernel
theorem dX14_putsEscaped_123 : decode cX14_putsEscaped 123 = .ok (.ireturn, 1) := by decide +kernel
theorem dX14_keeps_0 : decode cX14_keeps 0 = .ok (.iconst 0, 1) := by decide +kernel
theorem dX14_keeps_1 : decode cX14_keeps 1 = .ok (.istore_n 1, 1) := by decide +kernel
theorem dX14_keeps_2 : decode cX14_keeps 2 = .ok (.iload_n 1, 1) := by decide +kernel
theorem dX14_keeps_3 : decode cX14_keeps 3 = .ok (.bipush 8, 2) := by decide +kernel
theorem dX14_keeps_5 : decode cX14_keeps 5 = .ok (.if_icmp .ge 103, 3) := by decide +kernel
theorem dX14_keeps_8 : decode cX14_keeps 8 = .ok (.bipush 8, 2) := by decide +kernel
theorem dX14_keeps_10 : decode cX14_keeps 10 = .ok (.aload_n 0, 1) := by decide +kernel
theorem dX14_keeps_11 : decode cX14_keeps 11 = .ok (.getfield 400, 3) := by decide +kernel
theorem dX14_keeps_14 : decode cX14_keeps 14 = .ok (.imul, 1) := by decide +kernel
theorem dX14_keeps_15 : decode cX14_keeps 15 = .ok (.iload_n 1, 1) := by decide +kernel
theorem dX14_keeps_16 : decode cX14_keeps 16 = .ok (.iadd, 1) := by decide +kernel
theorem dX14_keeps_17 : decode cX14_keeps 17 = .ok (.istore_n 2, 1) := by decide +kernel
theorem dX14_keeps_18 : decode cX14_keeps 18 = .ok (.aload_n 0, 1) := by decide +kernel
theorem dX14_keeps_19 : decode cX14_keeps 19 = .ok (.getfield 53, 3) := by decide +kernel
theorem dX14_keeps_22 : decode cX14_keeps 22 = .ok (.iload_n 2, 1) := by decide +kernel
theorem dX14_keeps_23 : decode cX14_keeps 23 = .ok (.aload_n 0, 1) := by decide +kernel
theorem dX14_keeps_24 : decode cX14_keeps 24 = .ok (.getfield 11, 3) := by decide +kernel
theorem dX14_keeps_27 : decode cX14_keeps 27 = .ok (.iload_n 1, 1) := by decide +kernel
theorem dX14_keeps_28 : decode cX14_keeps 28 = .ok (.iaload, 1) := by decide +kernel
theorem dX14_keeps_29 : decode cX14_keeps 29 = .ok (.iastore, 1) := by decide +kernel
theorem dX14_keeps_30 : decode cX14_keeps 30 = .ok (.aload_n 0, 1) := by decide +kernel
theorem dX14_keeps_31 : decode cX14_keeps 31 = .ok (.getfield 56, 3) := by decide +kernel
theorem dX14_keeps_34 : decode cX14_keeps 34 = .ok (.iload_n 2, 1) := by decide +kernel
theorem dX14_keeps_35 : decode cX14_keeps 35 = .ok (.aload_n 0, 1) := by decide +kernel
theorem dX14_keeps_36 : decode cX14_keeps 36 = .ok (.getfield 15, 3) := by decide +kernel
theorem dX14_keeps_39 : decode cX14_keeps 39 = .ok (.iload_n 1, 1) := by decide +kernel
theorem dX14_keeps_40 : decode cX14_keeps 40 = .ok (.iaload, 1) := by decide +kernel
theorem dX14_keeps_41 : decode cX14_keeps 41 = .ok (.iastore, 1) := by decide +kernel
theorem dX14_keeps_42 : decode cX14_keeps 42 = .ok (.aload_n 0, 1) := by decide +kernel
theorem dX14_keeps_43 : decode cX14_keeps 43 = .ok (.getfield 59, 3) := by decide +kernel
theorem dX14_keeps_46 : decode cX14_keeps 46 = .ok (.iload_n 2, 1) := by decide +kernel
theorem dX14_keeps_47 : decode cX14_keeps 47 = .ok (.aload_n 0, 1) := by decide +kernel
theorem dX14_keeps_48 : decode cX14_keeps 48 = .ok (.getfield 18, 3) := by decide +kernel
theorem dX14_keeps_51 : decode cX14_keeps 51 = .ok (.iload_n 1, 1) := by decide +kernel
theorem dX14_keeps_52 : decode cX14_keeps 52 = .ok (.iaload, 1) := by decide +kernel
theorem dX14_keeps_53 : decode cX14_keeps 53 = .ok (.iastore, 1) := by decide +kernel
theorem dX14_keeps_54 : decode cX14_keeps 54 = .ok (.aload_n 0, 1) := by decide +kernel
theorem dX14_keeps_55 : decode cX14_keeps 55 = .ok (.getfield 65, 3) := by decide +kernel
theorem dX14_keeps_58 : decode cX14_keeps 58 = .ok (.iload_n 2, 1) := by decide +kernel
theorem dX14_keeps_59 : decode cX14_keeps 59 = .ok (.aload_n 0, 1) := by decide +kernel
theorem dX14_keeps_60 : decode cX14_keeps 60 = .ok (.getfield 24, 3) := by decide +kernel
theorem dX14_keeps_63 : decode cX14_keeps 63 = .ok (.iload_n 1, 1) := by decide +kernel
theorem dX14_keeps_64 : decode cX14_keeps 64 = .ok (.faload, 1) := by decide +kernel
theorem dX14_keeps_65 : decode cX14_keeps 65 = .ok (.fastore, 1) := by decide +kernel
theorem dX14_keeps_66 : decode cX14_keeps 66 = .ok (.iconst 0, 1) := by decide +kernel
theorem dX14_keeps_67 : decode cX14_keeps 67 = .ok (.istore_n 3, 1) := by decide +kernel
theorem dX14_keeps_68 : decode cX14_keeps 68 = .ok (.iload_n 3, 1) := by decide +kernel
theorem dX14_keeps_69 : decode cX14_keeps 69 = .ok (.bipush 16, 2) := by decide +kernel
theorem dX14_keeps_71 : decode cX14_keeps 71 = .ok (.if_icmp .ge 31, 3) := by decide +kernel
theorem dX14_keeps_74 : decode cX14_keeps 74 = .ok (.aload_n 0, 1) := by decide +kernel
theorem dX14_keeps_75 : decode cX14_keeps 75 = .ok (.getfield 62, 3) := by decide +kernel
theorem dX14_keeps_78 : decode cX14_keeps 78 = .ok (.bipush 16, 2) := by decide +kernel
theorem dX14_keeps_80 : decode cX14_keeps 80 = .ok (.iload_n 2, 1) := by decide +kernel
theorem dX14_keeps_81 : decode cX14_keeps 81 = .ok (.imul, 1) := by decide +kernel
theorem dX14_keeps_82 : decode cX14_keeps 82 = .ok (.iload_n 3, 1) := by decide +kernel
theorem dX14_keeps_83 : decode cX14_keeps 83 = .ok (.iadd, 1) := by decide +kernel
theorem dX14_keeps_84 : decode cX14_keeps 84 = .ok (.aload_n 0, 1) := by decide +kernel
theorem dX14_keeps_85 : decode cX14_keeps 85 = .ok (.getfield 21, 3) := by decide +kernel
theorem dX14_keeps_88 : decode cX14_keeps 88 = .ok (.bipush 16, 2) := by decide +kernel
theorem dX14_keeps_90 : decode cX14_keeps 90 = .ok (.iload_n 1, 1) := by decide +kernel
theorem dX14_keeps_91 : decode cX14_keeps 91 = .ok (.imul, 1) := by decide +kernel
theorem dX14_keeps_92 : decode cX14_keeps 92 = .ok (.iload_n 3, 1) := by decide +kernel
theorem dX14_keeps_93 : decode cX14_keeps 93 = .ok (.iadd, 1) := by decide +kernel
theorem dX14_keeps_94 : decode cX14_keeps 94 = .ok (.iaload, 1) := by decide +kernel
theorem dX14_keeps_95 : decode cX14_keeps 95 = .ok (.iastore, 1) := by decide +kernel
theorem dX14_keeps_96 : decode cX14_keeps 96 = .ok (.iinc 3 1, 3) := by decide +kernel
theorem dX14_keeps_99 : decode cX14_keeps 99 = .ok (.goto (-31), 3) := by decide +kernel
theorem dX14_keeps_102 : decode cX14_keeps 102 = .ok (.iinc 1 1, 3) := by decide +kernel
theorem dX14_keeps_105 : decode cX14_keeps 105 = .ok (.goto (-103), 3) := by decide +kernel
theorem dX14_keeps_108 : decode cX14_keeps 108 = .ok (.aload_n 0, 1) := by decide +kernel
theorem dX14_keeps_109 : decode cX14_keeps 109 = .ok (.dup, 1) := by decide +kernel
theorem dX14_keeps_110 : decode cX14_keeps 110 = .ok (.getfield 400, 3) := by decide +kernel
theorem dX14_keeps_113 : decode cX14_keeps 113 = .ok (.iconst 1, 1) := by decide +kernel
theorem dX14_keeps_114 : decode cX14_keeps 114 = .ok (.iadd, 1) := by decide +kernel
theorem dX14_keeps_115 : decode cX14_keeps 115 = .ok (.putfield 400, 3) := by decide +kernel
theorem dX14_keeps_118 : decode cX14_keeps 118 = .ok (.return_, 1) := by decide +kernel
theorem dX14_comeBack_0 : decode cX14_comeBack 0 = .ok (.aload_n 0, 1) := by decide +kernel
theorem dX14_comeBack_1 : decode cX14_comeBack 1 = .ok (.dup, 1) := by decide +kernel
theorem dX14_comeBack_2 : decode cX14_comeBack 2 = .ok (.getfield 400, 3) := by decide +kernel
theorem dX14_comeBack_5 : decode cX14_comeBack 5 = .ok (.iconst 1, 1) := by decide +kernel
theorem dX14_comeBack_6 : decode cX14_comeBack 6 = .ok (.isub, 1) := by decide +kernel
theorem dX14_comeBack_7 : decode cX14_comeBack 7 = .ok (.putfield 400, 3) := by decide +kernel
theorem dX14_comeBack_10 : decode cX14_comeBack 10 = .ok (.iconst 0, 1) := by decide +kernel
theorem dX14_comeBack_11 : decode cX14_comeBack 11 = .ok (.istore_n 1, 1) := by decide +kernel
theorem dX14_comeBack_12 : decode cX14_comeBack 12 = .ok (.iload_n 1, 1) := by decide +kernel
theorem dX14_comeBack_13 : decode cX14_comeBack 13 = .ok (.bipush 8, 2) := by decide +kernel
theorem dX14_comeBack_15 : decode cX14_comeBack 15 = .ok (.if_icmp .ge 103, 3) := by decide +kernel
theorem dX14_comeBack_18 : decode cX14_comeBack 18 = .ok (.bipush 8, 2) := by decide +kernel
theorem dX14_comeBack_20 : decode cX14_comeBack 20 = .ok (.aload_n 0, 1) := by decide +kernel
theorem dX14_comeBack_21 : decode cX14_comeBack 21 = .ok (.getfield 400, 3) := by decide +kernel
theorem dX14_comeBack_24 : decode cX14_comeBack 24 = .ok (.imul, 1) := by decide +kernel
theorem dX14_comeBack_25 : decode cX14_comeBack 25 = .ok (.iload_n 1, 1) := by decide +kernel
theorem dX14_comeBack_26 : decode cX14_comeBack 26 = .ok (.iadd, 1) := by decide +kernel
theorem dX14_comeBack_27 : decode cX14_comeBack 27 = .ok (.istore_n 2, 1) := by decide +kernel
theorem dX14_comeBack_28 : decode cX14_comeBack 28 = .ok (.aload_n 0, 1) := by decide +kernel
theorem dX14_comeBack_29 : decode cX14_comeBack 29 = .ok (.getfield 11, 3) := by decide +kernel
theorem dX14_comeBack_32 : decode cX14_comeBack 32 = .ok (.iload_n 1, 1) := by decide +kernel
theorem dX14_comeBack_33 : decode cX14_comeBack 33 = .ok (.aload_n 0, 1) := by decide +kernel
theorem dX14_comeBack_34 : decode cX14_comeBack 34 = .ok (.getfield 53, 3) := by decide +kernel
theorem dX14_comeBack_37 : decode cX14_comeBack 37 = .ok (.iload_n 2, 1) := by decide +kernel
theorem dX14_comeBack_38 : decode cX14_comeBack 38 = .ok (.iaload, 1) := by decide +kernel
theorem dX14_comeBack_39 : decode cX14_comeBack 39 = .ok (.iastore, 1) := by decide +kernel
theorem dX14_comeBack_40 : decode cX14_comeBack 40 = .ok (.aload_n 0, 1) := by decide +kernel
theorem dX14_comeBack_41 : decode cX14_comeBack 41 = .ok (.getfield 15, 3) := by decide +kernel
theorem dX14_comeBack_44 : decode cX14_comeBack 44 = .ok (.iload_n 1, 1) := by decide +kernel
theorem dX14_comeBack_45 : decode cX14_comeBack 45 = .ok (.aload_n 0, 1) := by decide +kernel
theorem dX14_comeBack_46 : decode cX14_comeBack 46 = .ok (.getfield 56, 3) := by decide +kernel
theorem dX14_comeBack_49 : decode cX14_comeBack 49 = .ok (.iload_n 2, 1) := by decide +kernel
theorem dX14_comeBack_50 : decode cX14_comeBack 50 = .ok (.iaload, 1) := by decide +kernel
theorem dX14_comeBack_51 : decode cX14_comeBack 51 = .ok (.iastore, 1) := by decide +kernel
theorem dX14_comeBack_52 : decode cX14_comeBack 52 = .ok (.aload_n 0, 1) := by decide +kernel
theorem dX14_comeBack_53 : decode cX14_comeBack 53 = .ok (.getfield 18, 3) := by decide +kernel
theorem dX14_comeBack_56 : decode cX14_comeBack 56 = .ok (.iload_n 1, 1) := by decide +kernel
theorem dX14_comeBack_57 : decode cX14_comeBack 57 = .ok (.aload_n 0, 1) := by decide +kernel
theorem dX14_comeBack_58 : decode cX14_comeBack 58 = .ok (.getfield 59, 3) := by decide +kernel
theorem dX14_comeBack_61 : decode cX14_comeBack 61 = .ok (.iload_n 2, 1) := by decide +kernel
theorem dX14_comeBack_62 : decode cX14_comeBack 62 = .ok (.iaload, 1) := by decide +kernel
theorem dX14_comeBack_63 : decode cX14_comeBack 63 = .ok (.iastore, 1) := by decide +kernel
theorem dX14_comeBack_64 : decode cX14_comeBack 64 = .ok (.aload_n 0, 1) := by decide +kernel
theorem dX14_comeBack_65 : decode cX14_comeBack 65 = .ok (.getfield 24, 3) := by decide +kernel
theorem dX14_comeBack_68 : decode cX14_comeBack 68 = .ok (.iload_n 1, 1) := by decide +kernel
theorem dX14_comeBack_69 : decode cX14_comeBack 69 = .ok (.aload_n 0, 1) := by decide +kernel
theorem dX14_comeBack_70 : decode cX14_comeBack 70 = .ok (.getfield 65, 3) := by decide +kernel
theorem dX14_comeBack_73 : decode cX14_comeBack 73 = .ok (.iload_n 2, 1) := by decide +kernel
theorem dX14_comeBack_74 : decode cX14_comeBack 74 = .ok (.faload, 1) := by decide +kernel
theorem dX14_comeBack_75 : decode cX14_comeBack 75 = .ok (.fastore, 1) := by decide +kernel
theorem dX14_comeBack_76 : decode cX14_comeBack 76 = .ok (.iconst 0, 1) := by decide +kernel
theorem dX14_comeBack_77 : decode cX14_comeBack 77 = .ok (.istore_n 3, 1) := by decide +kernel
theorem dX14_comeBack_78 : decode cX14_comeBack 78 = .ok (.iload_n 3, 1) := by decide +kernel
theorem dX14_comeBack_79 : decode cX14_comeBack 79 = .ok (.bipush 16, 2) := by decide +kernel
theorem dX14_comeBack_81 : decode cX14_comeBack 81 = .ok (.if_icmp .ge 31, 3) := by decide +kernel
theorem dX14_comeBack_84 : decode cX14_comeBack 84 = .ok (.aload_n 0, 1) := by decide +kernel
theorem dX14_comeBack_85 : decode cX14_comeBack 85 = .ok (.getfield 21, 3) := by decide +kernel
theorem dX14_comeBack_88 : decode cX14_comeBack 88 = .ok (.bipush 16, 2) := by decide +kernel
theorem dX14_comeBack_90 : decode cX14_comeBack 90 = .ok (.iload_n 1, 1) := by decide +kernel
theorem dX14_comeBack_91 : decode cX14_comeBack 91 = .ok (.imul, 1) := by decide +kernel
theorem dX14_comeBack_92 : decode cX14_comeBack 92 = .ok (.iload_n 3, 1) := by decide +kernel
theorem dX14_comeBack_93 : decode cX14_comeBack 93 = .ok (.iadd, 1) := by decide +kernel
theorem dX14_comeBack_94 : decode cX14_comeBack 94 = .ok (.aload_n 0, 1) := by decide +kernel
theorem dX14_comeBack_95 : decode cX14_comeBack 95 = .ok (.getfield 62, 3) := by decide +kernel
theorem dX14_comeBack_98 : decode cX14_comeBack 98 = .ok (.bipush 16, 2) := by decide +kernel
theorem dX14_comeBack_100 : decode cX14_comeBack 100 = .ok (.iload_n 2, 1) := by decide +kernel
theorem dX14_comeBack_101 : decode cX14_comeBack 101 = .ok (.imul, 1) := by decide +kernel
theorem dX14_comeBack_102 : decode cX14_comeBack 102 = .ok (.iload_n 3, 1) := by decide +kernel
theorem dX14_comeBack_103 : decode cX14_comeBack 103 = .ok (.iadd, 1) := by decide +kernel
theorem dX14_comeBack_104 : decode cX14_comeBack 104 = .ok (.iaload, 1) := by decide +kernel
theorem dX14_comeBack_105 : decode cX14_comeBack 105 = .ok (.iastore, 1) := by decide +kernel
theorem dX14_comeBack_106 : decode cX14_comeBack 106 = .ok (.iinc 3 1, 3) := by decide +kernel
theorem dX14_comeBack_109 : decode cX14_comeBack 109 = .ok (.goto (-31), 3) := by decide +kernel
theorem dX14_comeBack_112 : decode cX14_comeBack 112 = .ok (.iinc 1 1, 3) := by decide +kernel
theorem dX14_comeBack_115 : decode cX14_comeBack 115 = .ok (.goto (-103), 3) := by decide +kernel
theorem dX14_comeBack_118 : decode cX14_comeBack 118 = .ok (.return_, 1) := by decide +kernel
theorem dX14_links_0 : decode cX14_links 0 = .ok (.aload_n 0, 1) := by decide +kernel
theorem dX14_links_1 : decode cX14_links 1 = .ok (.getfield 89, 3) := by decide +kernel
theorem dX14_links_4 : decode cX14_links 4 = .ok (.aload_n 0, 1) := by decide +kernel
theorem dX14_links_5 : decode cX14_links 5 = .ok (.getfield 403, 3) := by decide +kernel
theorem dX14_links_8 : decode cX14_links 8 = .ok (.iload_n 1, 1) := by decide +kernel
theorem dX14_links_9 : decode cX14_links 9 = .ok (.iastore, 1) := by decide +kernel
theorem dX14_links_10 : decode cX14_links 10 = .ok (.aload_n 0, 1) := by decide +kernel
theorem dX14_links_11 : decode cX14_links 11 = .ok (.getfield 92, 3) := by decide +kernel
theorem dX14_links_14 : decode cX14_links 14 = .ok (.aload_n 0, 1) := by decide +kernel
theorem dX14_links_15 : decode cX14_links 15 = .ok (.getfield 403, 3) := by decide +kernel
theorem dX14_links_18 : decode cX14_links 18 = .ok (.iload_n 2, 1) := by decide +kernel
theorem dX14_links_19 : decode cX14_links 19 = .ok (.iastore, 1) := by decide +kernel
theorem dX14_links_20 : decode cX14_links 20 = .ok (.aload_n 0, 1) := by decide +kernel
theorem dX14_links_21 : decode cX14_links 21 = .ok (.getfield 95, 3) := by decide +kernel
theorem dX14_links_24 : decode cX14_links 24 = .ok (.aload_n 0, 1) := by decide +kernel
theorem dX14_links_25 : decode cX14_links 25 = .ok (.getfield 403, 3) := by decide +kernel
theorem dX14_links_28 : decode cX14_links 28 = .ok (.iload_n 3, 1) := by decide +kernel
theorem dX14_links_29 : decode cX14_links 29 = .ok (.iastore, 1) := by decide +kernel
theorem dX14_links_30 : decode cX14_links 30 = .ok (.aload_n 0, 1) := by decide +kernel
theorem dX14_links_31 : decode cX14_links 31 = .ok (.dup, 1) := by decide +kernel
theorem dX14_links_32 : decode cX14_links 32 = .ok (.getfield 403, 3) := by decide +kernel
theorem dX14_links_35 : decode cX14_links 35 = .ok (.iconst 1, 1) := by decide +kernel
theorem dX14_links_36 : decode cX14_links 36 = .ok (.iadd, 1) := by decide +kernel
theorem dX14_links_37 : decode cX14_links 37 = .ok (.putfield 403, 3) := by decide +kernel
theorem dX14_links_40 : decode cX14_links 40 = .ok (.return_, 1) := by decide +kernel
theorem dX14_linksBases_0 : decode cX14_linksBases 0 = .ok (.iconst 0, 1) := by decide +kernel
theorem dX14_linksBases_1 : decode cX14_linksBases 1 = .ok (.istore_n 3, 1) := by decide +kernel
theorem dX14_linksBases_2 : decode cX14_linksBases 2 = .ok (.iload_n 3, 1) := by decide +kernel
theorem dX14_linksBases_3 : decode cX14_linksBases 3 = .ok (.iload_n 2, 1) := by decide +kernel
theorem dX14_linksBases_4 : decode cX14_linksBases 4 = .ok (.if_icmp .ge 27, 3) := by decide +kernel
theorem dX14_linksBases_7 : decode cX14_linksBases 7 = .ok (.aload_n 0, 1) := by decide +kernel
theorem dX14_linksBases_8 : decode cX14_linksBases 8 = .ok (.aload_n 0, 1) := by decide +kernel
theorem dX14_linksBases_9 : decode cX14_linksBases 9 = .ok (.getfield 68, 3) := by decide +kernel
theorem dX14_linksBases_12 : decode cX14_linksBases 12 = .ok (.bipush 6, 2) := by decide +kernel
theorem dX14_linksBases_14 : decode cX14_linksBases 14 = .ok (.iload_n 1, 1) := by decide +kernel
theorem dX14_linksBases_15 : decode cX14_linksBases 15 = .ok (.imul, 1) := by decide +kernel
theorem dX14_linksBases_16 : decode cX14_linksBases 16 = .ok (.iload_n 3, 1) := by decide +kernel
theorem dX14_linksBases_17 : decode cX14_linksBases 17 = .ok (.iadd, 1) := by decide +kernel
theorem dX14_linksBases_18 : decode cX14_linksBases 18 = .ok (.iaload, 1) := by decide +kernel
theorem dX14_linksBases_19 : decode cX14_linksBases 19 = .ok (.iconst 1, 1) := by decide +kernel
theorem dX14_linksBases_20 : decode cX14_linksBases 20 = .ok (.bipush 11, 2) := by decide +kernel
theorem dX14_linksBases_22 : decode cX14_linksBases 22 = .ok (.invokevirtual 406, 3) := by decide +kernel
theorem dX14_linksBases_25 : decode cX14_linksBases 25 = .ok (.iinc 3 1, 3) := by decide +kernel
theorem dX14_linksBases_28 : decode cX14_linksBases 28 = .ok (.goto (-26), 3) := by decide +kernel
theorem dX14_linksBases_31 : decode cX14_linksBases 31 = .ok (.return_, 1) := by decide +kernel
theorem dX14_faults_0 : decode cX14_faults 0 = .ok (.aload_n 0, 1) := by decide +kernel
theorem dX14_faults_1 : decode cX14_faults 1 = .ok (.getfield 409, 3) := by decide +kernel
theorem dX14_faults_4 : decode cX14_faults 4 = .ok (.ifCond .eq 4, 3) := by decide +kernel
theorem dX14_faults_7 : decode cX14_faults 7 = .ok (.return_, 1) := by decide +kernel
theorem dX14_faults_8 : decode cX14_faults 8 = .ok (.aload_n 0, 1) := by decide +kernel
theorem dX14_faults_9 : decode cX14_faults 9 = .ok (.iconst 1, 1) := by decide +kernel
theorem dX14_faults_10 : decode cX14_faults 10 = .ok (.putfield 409, 3) := by decide +kernel
theorem dX14_faults_13 : decode cX14_faults 13 = .ok (.aload_n 0, 1) := by decide +kernel
theorem dX14_faults_14 : decode cX14_faults 14 = .ok (.iconst 0, 1) := by decide +kernel
theorem dX14_faults_15 : decode cX14_faults 15 = .ok (.putfield 403, 3) := by decide +kernel
theorem dX14_faults_18 : decode cX14_faults 18 = .ok (.iconst 0, 1) := by decide +kernel
theorem dX14_faults_19 : decode cX14_faults 19 = .ok (.istore 5, 2) := by decide +kernel
theorem dX14_faults_21 : decode cX14_faults 21 = .ok (.iload 5, 2) := by decide +kernel
theorem dX14_faults_23 : decode cX14_faults 23 = .ok (.iload_n 1, 1) := by decide +kernel
theorem dX14_faults_24 : decode cX14_faults 24 = .ok (.if_icmp .ge 53, 3) := by decide +kernel
theorem dX14_faults_27 : decode cX14_faults 27 = .ok (.aload_n 0, 1) := by decide +kernel
theorem dX14_faults_28 : decode cX14_faults 28 = .ok (.iload 5, 2) := by decide +kernel
theorem dX14_faults_30 : decode cX14_faults 30 = .ok (.aload_n 0, 1) := by decide +kernel
theorem dX14_faults_31 : decode cX14_faults 31 = .ok (.getfield 74, 3) := by decide +kernel
theorem dX14_faults_34 : decode cX14_faults 34 = .ok (.iload 5, 2) := by decide +kernel
theorem dX14_faults_36 : decode cX14_faults 36 = .ok (.iaload, 1) := by decide +kernel
theorem dX14_faults_37 : decode cX14_faults 37 = .ok (.invokevirtual 412, 3) := by decide +kernel
theorem dX14_faults_40 : decode cX14_faults 40 = .ok (.aload_n 0, 1) := by decide +kernel
theorem dX14_faults_41 : decode cX14_faults 41 = .ok (.aload_n 0, 1) := by decide +kernel
theorem dX14_faults_42 : decode cX14_faults 42 = .ok (.getfield 68, 3) := by decide +kernel
theorem dX14_faults_45 : decode cX14_faults 45 = .ok (.bipush 6, 2) := by decide +kernel
theorem dX14_faults_47 : decode cX14_faults 47 = .ok (.iload 5, 2) := by decide +kernel
theorem dX14_faults_49 : decode cX14_faults 49 = .ok (.imul, 1) := by decide +kernel
theorem dX14_faults_50 : decode cX14_faults 50 = .ok (.aload_n 0, 1) := by decide +kernel
theorem dX14_faults_51 : decode cX14_faults 51 = .ok (.getfield 74, 3) := by decide +kernel
theorem dX14_faults_54 : decode cX14_faults 54 = .ok (.iload 5, 2) := by decide +kernel
theorem dX14_faults_56 : decode cX14_faults 56 = .ok (.iaload, 1) := by decide +kernel
theorem dX14_faults_57 : decode cX14_faults 57 = .ok (.iadd, 1) := by decide +kernel
theorem dX14_faults_58 : decode cX14_faults 58 = .ok (.iaload, 1) := by decide +kernel
theorem dX14_faults_59 : decode cX14_faults 59 = .ok (.aload_n 0, 1) := by decide +kernel
theorem dX14_faults_60 : decode cX14_faults 60 = .ok (.getfield 77, 3) := by decide +kernel
theorem dX14_faults_63 : decode cX14_faults 63 = .ok (.iload 5, 2) := by decide +kernel
theorem dX14_faults_65 : decode cX14_faults 65 = .ok (.iaload, 1) := by decide +kernel
theorem dX14_faults_66 : decode cX14_faults 66 = .ok (.bipush 10, 2) := by decide +kernel
theorem dX14_faults_68 : decode cX14_faults 68 = .ok (.invokevirtual 406, 3) := by decide +kernel
theorem dX14_faults_71 : decode cX14_faults 71 = .ok (.iinc 5 1, 3) := by decide +kernel
theorem dX14_faults_74 : decode cX14_faults 74 = .ok (.goto (-53), 3) := by decide +kernel
theorem dX14_faults_77 : decode cX14_faults 77 = .ok (.aload_n 0, 1) := by decide +kernel
theorem dX14_faults_78 : decode cX14_faults 78 = .ok (.iload_n 1, 1) := by decide +kernel
theorem dX14_faults_79 : decode cX14_faults 79 = .ok (.iload_n 2, 1) := by decide +kernel
theorem dX14_faults_80 : decode cX14_faults 80 = .ok (.invokevirtual 412, 3) := by decide +kernel
theorem dX14_faults_83 : decode cX14_faults 83 = .ok (.aload_n 0, 1) := by decide +kernel
theorem dX14_faults_84 : decode cX14_faults 84 = .ok (.aload_n 0, 1) := by decide +kernel
theorem dX14_faults_85 : decode cX14_faults 85 = .ok (.getfield 68, 3) := by decide +kernel
theorem dX14_faults_88 : decode cX14_faults 88 = .ok (.bipush 6, 2) := by decide +kernel
theorem dX14_faults_90 : decode cX14_faults 90 = .ok (.iload_n 1, 1) := by decide +kernel
theorem dX14_faults_91 : decode cX14_faults 91 = .ok (.imul, 1) := by decide +kernel
theorem dX14_faults_92 : decode cX14_faults 92 = .ok (.iload_n 2, 1) := by decide +kernel
theorem dX14_faults_93 : decode cX14_faults 93 = .ok (.iadd, 1) := by decide +kernel
theorem dX14_faults_94 : decode cX14_faults 94 = .ok (.iaload, 1) := by decide +kernel
theorem dX14_faults_95 : decode cX14_faults 95 = .ok (.iload_n 3, 1) := by decide +kernel
theorem dX14_faults_96 : decode cX14_faults 96 = .ok (.iload 4, 2) := by decide +kernel
theorem dX14_faults_98 : decode cX14_faults 98 = .ok (.invokevirtual 406, 3) := by decide +kernel
theorem dX14_faults_101 : decode cX14_faults 101 = .ok (.return_, 1) := by decide +kernel
theorem dX14_isChained_0 : decode cX14_isChained 0 = .ok (.iload_n 2, 1) := by decide +kernel
theorem dX14_isChained_1 : decode cX14_isChained 1 = .ok (.istore_n 3, 1) := by decide +kernel
theorem dX14_isChained_2 : decode cX14_isChained 2 = .ok (.aload_n 0, 1) := by decide +kernel
theorem dX14_isChained_3 : decode cX14_isChained 3 = .ok (.getfield 71, 3) := by decide +kernel
theorem dX14_isChained_6 : decode cX14_isChained 6 = .ok (.iload_n 1, 1) := by decide +kernel
theorem dX14_isChained_7 : decode cX14_isChained 7 = .ok (.iconst 0, 1) := by decide +kernel
theorem dX14_isChained_8 : decode cX14_isChained 8 = .ok (.iastore, 1) := by decide +kernel
theorem dX14_isChained_9 : decode cX14_isChained 9 = .ok (.iload_n 3, 1) := by decide +kernel
theorem dX14_isChained_10 : decode cX14_isChained 10 = .ok (.ifCond .lt 90, 3) := by decide +kernel
theorem dX14_isChained_13 : decode cX14_isChained 13 = .ok (.aload_n 0, 1) := by decide +kernel
theorem dX14_isChained_14 : decode cX14_isChained 14 = .ok (.getfield 71, 3) := by decide +kernel
theorem dX14_isChained_17 : decode cX14_isChained 17 = .ok (.iload_n 1, 1) := by decide +kernel
theorem dX14_isChained_18 : decode cX14_isChained 18 = .ok (.iaload, 1) := by decide +kernel
theorem dX14_isChained_19 : decode cX14_isChained 19 = .ok (.istore 4, 2) := by decide +kernel
theorem dX14_isChained_21 : decode cX14_isChained 21 = .ok (.aload_n 0, 1) := by decide +kernel
theorem dX14_isChained_22 : decode cX14_isChained 22 = .ok (.getfield 68, 3) := by decide +kernel
theorem dX14_isChained_25 : decode cX14_isChained 25 = .ok (.bipush 6, 2) := by decide +kernel
theorem dX14_isChained_27 : decode cX14_isChained 27 = .ok (.iload_n 1, 1) := by decide +kernel
theorem dX14_isChained_28 : decode cX14_isChained 28 = .ok (.imul, 1) := by decide +kernel
theorem dX14_isChained_29 : decode cX14_isChained 29 = .ok (.iload 4, 2) := by decide +kernel
theorem dX14_isChained_31 : decode cX14_isChained 31 = .ok (.iadd, 1) := by decide +kernel
theorem dX14_isChained_32 : decode cX14_isChained 32 = .ok (.iload_n 3, 1) := by decide +kernel
theorem dX14_isChained_33 : decode cX14_isChained 33 = .ok (.iastore, 1) := by decide +kernel
theorem dX14_isChained_34 : decode cX14_isChained 34 = .ok (.aload_n 0, 1) := by decide +kernel
theorem dX14_isChained_35 : decode cX14_isChained 35 = .ok (.getfield 37, 3) := by decide +kernel
theorem dX14_isChained_38 : decode cX14_isChained 38 = .ok (.iload_n 3, 1) := by decide +kernel
theorem dX14_isChained_39 : decode cX14_isChained 39 = .ok (.iaload, 1) := by decide +kernel
theorem dX14_isChained_40 : decode cX14_isChained 40 = .ok (.ifCond .ge 14, 3) := by decide +kernel
theorem dX14_isChained_43 : decode cX14_isChained 43 = .ok (.aload_n 0, 1) := by decide +kernel
theorem dX14_isChained_44 : decode cX14_isChained 44 = .ok (.iload_n 1, 1) := by decide +kernel
theorem dX14_isChained_45 : decode cX14_isChained 45 = .ok (.iload 4, 2) := by decide +kernel
theorem dX14_isChained_47 : decode cX14_isChained 47 = .ok (.iconst 0, 1) := by decide +kernel
theorem dX14_isChained_48 : decode cX14_isChained 48 = .ok (.iconst 1, 1) := by decide +kernel
theorem dX14_isChained_49 : decode cX14_isChained 49 = .ok (.invokevirtual 415, 3) := by decide +kernel
theorem dX14_isChained_52 : decode cX14_isChained 52 = .ok (.iconst 0, 1) := by decide +kernel
theorem dX14_isChained_53 : decode cX14_isChained 53 = .ok (.ireturn, 1) := by decide +kernel
theorem dX14_isChained_54 : decode cX14_isChained 54 = .ok (.aload_n 0, 1) := by decide +kernel
theorem dX14_isChained_55 : decode cX14_isChained 55 = .ok (.getfield 71, 3) := by decide +kernel
theorem dX14_isChained_58 : decode cX14_isChained 58 = .ok (.iload_n 1, 1) := by decide +kernel
theorem dX14_isChained_59 : decode cX14_isChained 59 = .ok (.dup2, 1) := by decide +kernel
theorem dX14_isChained_60 : decode cX14_isChained 60 = .ok (.iaload, 1) := by decide +kernel
theorem dX14_isChained_61 : decode cX14_isChained 61 = .ok (.iconst 1, 1) := by decide +kernel
theorem dX14_isChained_62 : decode cX14_isChained 62 = .ok (.iadd, 1) := by decide +kernel
theorem dX14_isChained_63 : decode cX14_isChained 63 = .ok (.iastore, 1) := by decide +kernel
theorem dX14_isChained_64 : decode cX14_isChained 64 = .ok (.aload_n 0, 1) := by decide +kernel
theorem dX14_isChained_65 : decode cX14_isChained 65 = .ok (.iload_n 3, 1) := by decide +kernel
theorem dX14_isChained_66 : decode cX14_isChained 66 = .ok (.invokevirtual 332, 3) := by decide +kernel
theorem dX14_isChained_69 : decode cX14_isChained 69 = .ok (.istore_n 3, 1) := by decide +kernel
theorem dX14_isChained_70 : decode cX14_isChained 70 = .ok (.iload_n 3, 1) := by decide +kernel
theorem dX14_isChained_71 : decode cX14_isChained 71 = .ok (.ifCond .lt 26, 3) := by decide +kernel
theorem dX14_isChained_74 : decode cX14_isChained 74 = .ok (.aload_n 0, 1) := by decide +kernel
theorem dX14_isChained_75 : decode cX14_isChained 75 = .ok (.getfield 71, 3) := by decide +kernel
theorem dX14_isChained_78 : decode cX14_isChained 78 = .ok (.iload_n 1, 1) := by decide +kernel
theorem dX14_isChained_79 : decode cX14_isChained 79 = .ok (.iaload, 1) := by decide +kernel
theorem dX14_isChained_80 : decode cX14_isChained 80 = .ok (.bipush 6, 2) := by decide +kernel
theorem dX14_isChained_82 : decode cX14_isChained 82 = .ok (.if_icmp .ne 15, 3) := by decide +kernel
theorem dX14_isChained_85 : decode cX14_isChained 85 = .ok (.aload_n 0, 1) := by decide +kernel
theorem dX14_isChained_86 : decode cX14_isChained 86 = .ok (.iload_n 1, 1) := by decide +kernel
theorem dX14_isChained_87 : decode cX14_isChained 87 = .ok (.iload 4, 2) := by decide +kernel
theorem dX14_isChained_89 : decode cX14_isChained 89 = .ok (.iconst 1, 1) := by decide +kernel
theorem dX14_isChained_90 : decode cX14_isChained 90 = .ok (.bipush 7, 2) := by decide +kernel
theorem dX14_isChained_92 : decode cX14_isChained 92 = .ok (.invokevirtual 415, 3) := by decide +kernel
theorem dX14_isChained_95 : decode cX14_isChained 95 = .ok (.iconst 0, 1) := by decide +kernel
theorem dX14_isChained_96 : decode cX14_isChained 96 = .ok (.ireturn, 1) := by decide +kernel
theorem dX14_isChained_97 : decode cX14_isChained 97 = .ok (.goto (-88), 3) := by decide +kernel
theorem dX14_isChained_100 : decode cX14_isChained 100 = .ok (.iconst 1, 1) := by decide +kernel
theorem dX14_isChained_101 : decode cX14_isChained 101 = .ok (.ireturn, 1) := by decide +kernel
theorem dX14_blockFrom_0 : decode cX14_blockFrom 0 = .ok (.iload_n 2, 1) := by decide +kernel
theorem dX14_blockFrom_1 : decode cX14_blockFrom 1 = .ok (.istore 4, 2) := by decide +kernel
theorem dX14_blockFrom_3 : decode cX14_blockFrom 3 = .ok (.iload 4, 2) := by decide +kernel
theorem dX14_blockFrom_5 : decode cX14_blockFrom 5 = .ok (.aload_n 0, 1) := by decide +kernel
theorem dX14_blockFrom_6 : decode cX14_blockFrom 6 = .ok (.getfield 71, 3) := by decide +kernel
theorem dX14_blockFrom_9 : decode cX14_blockFrom 9 = .ok (.iload_n 1, 1) := by decide +kernel
theorem dX14_blockFrom_10 : decode cX14_blockFrom 10 = .ok (.iaload, 1) := by decide +kernel
theorem dX14_blockFrom_11 : decode cX14_blockFrom 11 = .ok (.if_icmp .ge 40, 3) := by decide +kernel
theorem dX14_blockFrom_14 : decode cX14_blockFrom 14 = .ok (.aload_n 0, 1) := by decide +kernel
theorem dX14_blockFrom_15 : decode cX14_blockFrom 15 = .ok (.aload_n 0, 1) := by decide +kernel
theorem dX14_blockFrom_16 : decode cX14_blockFrom 16 = .ok (.getfield 68, 3) := by decide +kernel
theorem dX14_blockFrom_19 : decode cX14_blockFrom 19 = .ok (.bipush 6, 2) := by decide +kernel
theorem dX14_blockFrom_21 : decode cX14_blockFrom 21 = .ok (.iload_n 1, 1) := by decide +kernel
theorem dX14_blockFrom_22 : decode cX14_blockFrom 22 = .ok (.imul, 1) := by decide +kernel
theorem dX14_blockFrom_23 : decode cX14_blockFrom 23 = .ok (.iload 4, 2) := by decide +kernel
theorem dX14_blockFrom_25 : decode cX14_blockFrom 25 = .ok (.iadd, 1) := by decide +kernel
theorem dX14_blockFrom_26 : decode cX14_blockFrom 26 = .ok (.iaload, 1) := by decide +kernel
theorem dX14_blockFrom_27 : decode cX14_blockFrom 27 = .ok (.bipush 61, 2) := by decide +kernel
theorem dX14_blockFrom_29 : decode cX14_blockFrom 29 = .ok (.bipush 65, 2) := by decide +kernel
theorem dX14_blockFrom_31 : decode cX14_blockFrom 31 = .ok (.invokevirtual 335, 3) := by decide +kernel
theorem dX14_blockFrom_34 : decode cX14_blockFrom 34 = .ok (.iload_n 3, 1) := by decide +kernel
theorem dX14_blockFrom_35 : decode cX14_blockFrom 35 = .ok (.ishr, 1) := by decide +kernel
theorem dX14_blockFrom_36 : decode cX14_blockFrom 36 = .ok (.iconst 1, 1) := by decide +kernel
theorem dX14_blockFrom_37 : decode cX14_blockFrom 37 = .ok (.iand, 1) := by decide +kernel
theorem dX14_blockFrom_38 : decode cX14_blockFrom 38 = .ok (.iconst 1, 1) := by decide +kernel
theorem dX14_blockFrom_39 : decode cX14_blockFrom 39 = .ok (.if_icmp .ne 6, 3) := by decide +kernel
theorem dX14_blockFrom_42 : decode cX14_blockFrom 42 = .ok (.iload 4, 2) := by decide +kernel
theorem dX14_blockFrom_44 : decode cX14_blockFrom 44 = .ok (.ireturn, 1) := by decide +kernel
theorem dX14_blockFrom_45 : decode cX14_blockFrom 45 = .ok (.iinc 4 1, 3) := by decide +kernel
theorem dX14_blockFrom_48 : decode cX14_blockFrom 48 = .ok (.goto (-45), 3) := by decide +kernel
theorem dX14_blockFrom_51 : decode cX14_blockFrom 51 = .ok (.iconst (-1), 1) := by decide +kernel
theorem dX14_blockFrom_52 : decode cX14_blockFrom 52 = .ok (.ireturn, 1) := by decide +kernel
theorem dX14_blockAt_0 : decode cX14_blockAt 0 = .ok (.iconst 0, 1) := by decide +kernel
theorem dX14_blockAt_1 : decode cX14_blockAt 1 = .ok (.istore_n 3, 1) := by decide +kernel
theorem dX14_blockAt_2 : decode cX14_blockAt 2 = .ok (.aload_n 0, 1) := by decide +kernel
theorem dX14_blockAt_3 : decode cX14_blockAt 3 = .ok (.iload_n 1, 1) := by decide +kernel
theorem dX14_blockAt_4 : decode cX14_blockAt 4 = .ok (.iload_n 3, 1) := by decide +kernel
theorem dX14_blockAt_5 : decode cX14_blockAt 5 = .ok (.invokevirtual 344, 3) := by decide +kernel
theorem dX14_blockAt_8 : decode cX14_blockAt 8 = .ok (.bipush 123, 2) := by decide +kernel
theorem dX14_blockAt_10 : decode cX14_blockAt 10 = .ok (.if_icmp .ne 31, 3) := by decide +kernel
theorem dX14_blockAt_13 : decode cX14_blockAt 13 = .ok (.aload_n 0, 1) := by decide +kernel
theorem dX14_blockAt_14 : decode cX14_blockAt 14 = .ok (.iload_n 1, 1) := by decide +kernel
theorem dX14_blockAt_15 : decode cX14_blockAt 15 = .ok (.iload_n 3, 1) := by decide +kernel
theorem dX14_blockAt_16 : decode cX14_blockAt 16 = .ok (.iconst 1, 1) := by decide +kernel
theorem dX14_blockAt_17 : decode cX14_blockAt 17 = .ok (.iadd, 1) := by decide +kernel
theorem dX14_blockAt_18 : decode cX14_blockAt 18 = .ok (.invokevirtual 344, 3) := by decide +kernel
theorem dX14_blockAt_21 : decode cX14_blockAt 21 = .ok (.bipush 61, 2) := by decide +kernel
theorem dX14_blockAt_23 : decode cX14_blockAt 23 = .ok (.if_icmp .ne 18, 3) := by decide +kernel
theorem dX14_blockAt_26 : decode cX14_blockAt 26 = .ok (.aload_n 0, 1) := by decide +kernel
theorem dX14_blockAt_27 : decode cX14_blockAt 27 = .ok (.iload_n 1, 1) := by decide +kernel
theorem dX14_blockAt_28 : decode cX14_blockAt 28 = .ok (.iload_n 3, 1) := by decide +kernel
theorem dX14_blockAt_29 : decode cX14_blockAt 29 = .ok (.iconst 2, 1) := by decide +kernel
theorem dX14_blockAt_30 : decode cX14_blockAt 30 = .ok (.iadd, 1) := by decide +kernel
theorem dX14_blockAt_31 : decode cX14_blockAt 31 = .ok (.invokevirtual 344, 3) := by decide +kernel
theorem dX14_blockAt_34 : decode cX14_blockAt 34 = .ok (.bipush 65, 2) := by decide +kernel
theorem dX14_blockAt_36 : decode cX14_blockAt 36 = .ok (.iload_n 2, 1) := by decide +kernel
theorem dX14_blockAt_37 : decode cX14_blockAt 37 = .ok (.iadd, 1) := by decide +kernel
theorem dX14_blockAt_38 : decode cX14_blockAt 38 = .ok (.if_icmp .eq 9, 3) := by decide +kernel
theorem dX14_blockAt_41 : decode cX14_blockAt 41 = .ok (.iinc 3 1, 3) := by decide +kernel
theorem dX14_blockAt_44 : decode cX14_blockAt 44 = .ok (.goto (-42), 3) := by decide +kernel
theorem dX14_blockAt_47 : decode cX14_blockAt 47 = .ok (.iload_n 3, 1) := by decide +kernel
theorem dX14_blockAt_48 : decode cX14_blockAt 48 = .ok (.iconst 4, 1) := by decide +kernel
theorem dX14_blockAt_49 : decode cX14_blockAt 49 = .ok (.iadd, 1) := by decide +kernel
theorem dX14_blockAt_50 : decode cX14_blockAt 50 = .ok (.ireturn, 1) := by decide +kernel
theorem dX14_endOf_0 : decode cX14_endOf 0 = .ok (.iload_n 2, 1) := by decide +kernel
theorem dX14_endOf_1 : decode cX14_endOf 1 = .ok (.istore_n 3, 1) := by decide +kernel
theorem dX14_endOf_2 : decode cX14_endOf 2 = .ok (.iconst 0, 1) := by decide +kernel
theorem dX14_endOf_3 : decode cX14_endOf 3 = .ok (.istore 4, 2) := by decide +kernel
theorem dX14_endOf_5 : decode cX14_endOf 5 = .ok (.aload_n 0, 1) := by decide +kernel
theorem dX14_endOf_6 : decode cX14_endOf 6 = .ok (.iload_n 1, 1) := by decide +kernel
theorem dX14_endOf_7 : decode cX14_endOf 7 = .ok (.iload_n 3, 1) := by decide +kernel
theorem dX14_endOf_8 : decode cX14_endOf 8 = .ok (.invokevirtual 344, 3) := by decide +kernel
theorem dX14_endOf_11 : decode cX14_endOf 11 = .ok (.bipush 123, 2) := by decide +kernel
theorem dX14_endOf_13 : decode cX14_endOf 13 = .ok (.if_icmp .ne 76, 3) := by decide +kernel
theorem dX14_endOf_16 : decode cX14_endOf 16 = .ok (.aload_n 0, 1) := by decide +kernel
theorem dX14_endOf_17 : decode cX14_endOf 17 = .ok (.iload_n 1, 1) := by decide +kernel
theorem dX14_endOf_18 : decode cX14_endOf 18 = .ok (.iload_n 3, 1) := by decide +kernel
theorem dX14_endOf_19 : decode cX14_endOf 19 = .ok (.iconst 1, 1) := by decide +kernel
theorem dX14_endOf_20 : decode cX14_endOf 20 = .ok (.iadd, 1) := by decide +kernel
theorem dX14_endOf_21 : decode cX14_endOf 21 = .ok (.invokevirtual 344, 3) := by decide +kernel
theorem dX14_endOf_24 : decode cX14_endOf 24 = .ok (.istore 5, 2) := by decide +kernel
theorem dX14_endOf_26 : decode cX14_endOf 26 = .ok (.iload 4, 2) := by decide +kernel
theorem dX14_endOf_28 : decode cX14_endOf 28 = .ok (.ifCond .ne 19, 3) := by decide +kernel
theorem dX14_endOf_31 : decode cX14_endOf 31 = .ok (.iload 5, 2) := by decide +kernel
theorem dX14_endOf_33 : decode cX14_endOf 33 = .ok (.bipush 47, 2) := by decide +kernel
theorem dX14_endOf_35 : decode cX14_endOf 35 = .ok (.if_icmp .eq 10, 3) := by decide +kernel
theorem dX14_endOf_38 : decode cX14_endOf 38 = .ok (.iload 5, 2) := by decide +kernel
theorem dX14_endOf_40 : decode cX14_endOf 40 = .ok (.bipush 58, 2) := by decide +kernel
theorem dX14_endOf_42 : decode cX14_endOf 42 = .ok (.if_icmp .ne 5, 3) := by decide +kernel
theorem dX14_endOf_45 : decode cX14_endOf 45 = .ok (.iload_n 3, 1) := by decide +kernel
theorem dX14_endOf_46 : decode cX14_endOf 46 = .ok (.ireturn, 1) := by decide +kernel
theorem dX14_endOf_47 : decode cX14_endOf 47 = .ok (.iload 4, 2) := by decide +kernel
theorem dX14_endOf_49 : decode cX14_endOf 49 = .ok (.iload 5, 2) := by decide +kernel
theorem dX14_endOf_51 : decode cX14_endOf 51 = .ok (.bipush 63, 2) := by decide +kernel
theorem dX14_endOf_53 : decode cX14_endOf 53 = .ok (.if_icmp .eq 17, 3) := by decide +kernel
theorem dX14_endOf_56 : decode cX14_endOf 56 = .ok (.iload 5, 2) := by decide +kernel
theorem dX14_endOf_58 : decode cX14_endOf 58 = .ok (.bipush 42, 2) := by decide +kernel
theorem dX14_endOf_60 : decode cX14_endOf 60 = .ok (.if_icmp .eq 10, 3) := by decide +kernel
theorem dX14_endOf_63 : decode cX14_endOf 63 = .ok (.iload 5, 2) := by decide +kernel
theorem dX14_endOf_65 : decode cX14_endOf 65 = .ok (.bipush 61, 2) := by decide +kernel
theorem dX14_endOf_67 : decode cX14_endOf 67 = .ok (.if_icmp .ne 7, 3) := by decide +kernel
theorem dX14_endOf_70 : decode cX14_endOf 70 = .ok (.iconst 1, 1) := by decide +kernel
theorem dX14_endOf_71 : decode cX14_endOf 71 = .ok (.goto 15, 3) := by decide +kernel
theorem dX14_endOf_74 : decode cX14_endOf 74 = .ok (.iload 5, 2) := by decide +kernel
theorem dX14_endOf_76 : decode cX14_endOf 76 = .ok (.bipush 47, 2) := by decide +kernel
theorem dX14_endOf_78 : decode cX14_endOf 78 = .ok (.if_icmp .ne 7, 3) := by decide +kernel
theorem dX14_endOf_81 : decode cX14_endOf 81 = .ok (.iconst (-1), 1) := by decide +kernel
theorem dX14_endOf_82 : decode cX14_endOf 82 = .ok (.goto 4, 3) := by decide +kernel
theorem dX14_endOf_85 : decode cX14_endOf 85 = .ok (.iconst 0, 1) := by decide +kernel
theorem dX14_endOf_86 : decode cX14_endOf 86 = .ok (.iadd, 1) := by decide +kernel
theorem dX14_endOf_87 : decode cX14_endOf 87 = .ok (.istore 4, 2) := by decide +kernel
theorem dX14_endOf_89 : decode cX14_endOf 89 = .ok (.iinc 3 1, 3) := by decide +kernel
theorem dX14_endOf_92 : decode cX14_endOf 92 = .ok (.goto (-87), 3) := by decide +kernel
theorem dX14_closes_0 : decode cX14_closes 0 = .ok (.iload_n 2, 1) := by decide +kernel
theorem dX14_closes_1 : decode cX14_closes 1 = .ok (.istore_n 3, 1) := by decide +kernel
theorem dX14_closes_2 : decode cX14_closes 2 = .ok (.aload_n 0, 1) := by decide +kernel
theorem dX14_closes_3 : decode cX14_closes 3 = .ok (.iload_n 1, 1) := by decide +kernel
theorem dX14_closes_4 : decode cX14_closes 4 = .ok (.iload_n 3, 1) := by decide +kernel
theorem dX14_closes_5 : decode cX14_closes 5 = .ok (.invokevirtual 344, 3) := by decide +kernel
theorem dX14_closes_8 : decode cX14_closes 8 = .ok (.bipush 125, 2) := by decide +kernel
theorem dX14_closes_10 : decode cX14_closes 10 = .ok (.if_icmp .eq 9, 3) := by decide +kernel
theorem dX14_closes_13 : decode cX14_closes 13 = .ok (.iinc 3 1, 3) := by decide +kernel
theorem dX14_closes_16 : decode cX14_closes 16 = .ok (.goto (-14), 3) := by decide +kernel
theorem dX14_closes_19 : decode cX14_closes 19 = .ok (.iload_n 3, 1) := by decide +kernel
theorem dX14_closes_20 : decode cX14_closes 20 = .ok (.iconst 1, 1) := by decide +kernel
theorem dX14_closes_21 : decode cX14_closes 21 = .ok (.iadd, 1) := by decide +kernel
theorem dX14_closes_22 : decode cX14_closes 22 = .ok (.ireturn, 1) := by decide +kernel
theorem dX14_run_0 : decode cX14_run 0 = .ok (.aload_n 0, 1) := by decide +kernel
theorem dX14_run_1 : decode cX14_run 1 = .ok (.getfield 68, 3) := by decide +kernel
theorem dX14_run_4 : decode cX14_run 4 = .ok (.bipush 6, 2) := by decide +kernel
theorem dX14_run_6 : decode cX14_run 6 = .ok (.iload_n 1, 1) := by decide +kernel
theorem dX14_run_7 : decode cX14_run 7 = .ok (.imul, 1) := by decide +kernel
theorem dX14_run_8 : decode cX14_run 8 = .ok (.iload_n 2, 1) := by decide +kernel
theorem dX14_run_9 : decode cX14_run 9 = .ok (.iadd, 1) := by decide +kernel
theorem dX14_run_10 : decode cX14_run 10 = .ok (.iaload, 1) := by decide +kernel
theorem dX14_run_11 : decode cX14_run 11 = .ok (.istore 6, 2) := by decide +kernel
theorem dX14_run_13 : decode cX14_run 13 = .ok (.iload_n 3, 1) := by decide +kernel
theorem dX14_run_14 : decode cX14_run 14 = .ok (.istore 7, 2) := by decide +kernel
theorem dX14_run_16 : decode cX14_run 16 = .ok (.aload_n 0, 1) := by decide +kernel
theorem dX14_run_17 : decode cX14_run 17 = .ok (.getfield 409, 3) := by decide +kernel
theorem dX14_run_20 : decode cX14_run 20 = .ok (.ifCond .ne 121, 3) := by decide +kernel
theorem dX14_run_23 : decode cX14_run 23 = .ok (.iload 7, 2) := by decide +kernel
theorem dX14_run_25 : decode cX14_run 25 = .ok (.aload_n 0, 1) := by decide +kernel
theorem dX14_run_26 : decode cX14_run 26 = .ok (.getfield 37, 3) := by decide +kernel
theorem dX14_run_29 : decode cX14_run 29 = .ok (.iload 6, 2) := by decide +kernel
theorem dX14_run_31 : decode cX14_run 31 = .ok (.iaload, 1) := by decide +kernel
theorem dX14_run_32 : decode cX14_run 32 = .ok (.if_icmp .ge 109, 3) := by decide +kernel
theorem dX14_run_35 : decode cX14_run 35 = .ok (.aload_n 0, 1) := by decide +kernel
theorem dX14_run_36 : decode cX14_run 36 = .ok (.iload 6, 2) := by decide +kernel
theorem dX14_run_38 : decode cX14_run 38 = .ok (.iload 7, 2) := by decide +kernel
theorem dX14_run_40 : decode cX14_run 40 = .ok (.invokevirtual 344, 3) := by decide +kernel
theorem dX14_run_43 : decode cX14_run 43 = .ok (.istore 8, 2) := by decide +kernel
theorem dX14_run_45 : decode cX14_run 45 = .ok (.iload 8, 2) := by decide +kernel
theorem dX14_run_47 : decode cX14_run 47 = .ok (.bipush 123, 2) := by decide +kernel
theorem dX14_run_49 : decode cX14_run 49 = .ok (.if_icmp .ne 49, 3) := by decide +kernel
theorem dX14_run_52 : decode cX14_run 52 = .ok (.aload_n 0, 1) := by decide +kernel
theorem dX14_run_53 : decode cX14_run 53 = .ok (.iload 6, 2) := by decide +kernel
theorem dX14_run_55 : decode cX14_run 55 = .ok (.iload 7, 2) := by decide +kernel
theorem dX14_run_57 : decode cX14_run 57 = .ok (.iconst 1, 1) := by decide +kernel
theorem dX14_run_58 : decode cX14_run 58 = .ok (.iadd, 1) := by decide +kernel
theorem dX14_run_59 : decode cX14_run 59 = .ok (.invokevirtual 344, 3) := by decide +kernel
theorem dX14_run_62 : decode cX14_run 62 = .ok (.istore 9, 2) := by decide +kernel
theorem dX14_run_64 : decode cX14_run 64 = .ok (.iload 9, 2) := by decide +kernel
theorem dX14_run_66 : decode cX14_run 66 = .ok (.bipush 47, 2) := by decide +kernel
theorem dX14_run_68 : decode cX14_run 68 = .ok (.if_icmp .eq 10, 3) := by decide +kernel
theorem dX14_run_71 : decode cX14_run 71 = .ok (.iload 9, 2) := by decide +kernel
theorem dX14_run_73 : decode cX14_run 73 = .ok (.bipush 58, 2) := by decide +kernel
theorem dX14_run_75 : decode cX14_run 75 = .ok (.if_icmp .ne 6, 3) := by decide +kernel
theorem dX14_run_78 : decode cX14_run 78 = .ok (.iload 7, 2) := by decide +kernel
theorem dX14_run_80 : decode cX14_run 80 = .ok (.ireturn, 1) := by decide +kernel
theorem dX14_run_81 : decode cX14_run 81 = .ok (.aload_n 0, 1) := by decide +kernel
theorem dX14_run_82 : decode cX14_run 82 = .ok (.iload_n 1, 1) := by decide +kernel
theorem dX14_run_83 : decode cX14_run 83 = .ok (.iload_n 2, 1) := by decide +kernel
theorem dX14_run_84 : decode cX14_run 84 = .ok (.iload 7, 2) := by decide +kernel
theorem dX14_run_86 : decode cX14_run 86 = .ok (.iload 4, 2) := by decide +kernel
theorem dX14_run_88 : decode cX14_run 88 = .ok (.iload 5, 2) := by decide +kernel
theorem dX14_run_90 : decode cX14_run 90 = .ok (.invokevirtual 419, 3) := by decide +kernel
theorem dX14_run_93 : decode cX14_run 93 = .ok (.istore 7, 2) := by decide +kernel
theorem dX14_run_95 : decode cX14_run 95 = .ok (.goto (-79), 3) := by decide +kernel
theorem dX14_run_98 : decode cX14_run 98 = .ok (.aload_n 0, 1) := by decide +kernel
theorem dX14_run_99 : decode cX14_run 99 = .ok (.getfield 423, 3) := by decide +kernel
theorem dX14_run_102 : decode cX14_run 102 = .ok (.ifCond .ne 27, 3) := by decide +kernel
theorem dX14_run_105 : decode cX14_run 105 = .ok (.aload_n 0, 1) := by decide +kernel
theorem dX14_run_106 : decode cX14_run 106 = .ok (.iload 8, 2) := by decide +kernel
theorem dX14_run_108 : decode cX14_run 108 = .ok (.invokevirtual 391, 3) := by decide +kernel
theorem dX14_run_111 : decode cX14_run 111 = .ok (.ifCond .ne 18, 3) := by decide +kernel
theorem dX14_run_114 : decode cX14_run 114 = .ok (.aload_n 0, 1) := by decide +kernel
theorem dX14_run_115 : decode cX14_run 115 = .ok (.iload_n 1, 1) := by decide +kernel
theorem dX14_run_116 : decode cX14_run 116 = .ok (.iload_n 2, 1) := by decide +kernel
theorem dX14_run_117 : decode cX14_run 117 = .ok (.aload_n 0, 1) := by decide +kernel
theorem dX14_run_118 : decode cX14_run 118 = .ok (.iload 6, 2) := by decide +kernel
theorem dX14_run_120 : decode cX14_run 120 = .ok (.iload 7, 2) := by decide +kernel
theorem dX14_run_122 : decode cX14_run 122 = .ok (.invokevirtual 329, 3) := by decide +kernel
theorem dX14_run_125 : decode cX14_run 125 = .ok (.iconst 5, 1) := by decide +kernel
theorem dX14_run_126 : decode cX14_run 126 = .ok (.invokevirtual 415, 3) := by decide +kernel
theorem dX14_run_129 : decode cX14_run 129 = .ok (.aload_n 0, 1) := by decide +kernel
theorem dX14_run_130 : decode cX14_run 130 = .ok (.iload 8, 2) := by decide +kernel
theorem dX14_run_132 : decode cX14_run 132 = .ok (.invokevirtual 426, 3) := by decide +kernel
theorem dX14_run_135 : decode cX14_run 135 = .ok (.iinc 7 1, 3) := by decide +kernel
theorem dX14_run_138 : decode cX14_run 138 = .ok (.goto (-122), 3) := by decide +kernel
theorem dX14_run_141 : decode cX14_run 141 = .ok (.iload 7, 2) := by decide +kernel
theorem dX14_run_143 : decode cX14_run 143 = .ok (.ireturn, 1) := by decide +kernel
theorem dX14_runs_0 : decode cX14_runs 0 = .ok (.aload_n 0, 1) := by decide +kernel
theorem dX14_runs_1 : decode cX14_runs 1 = .ok (.invokevirtual 429, 3) := by decide +kernel
theorem dX14_runs_4 : decode cX14_runs 4 = .ok (.aload_n 0, 1) := by decide +kernel
theorem dX14_runs_5 : decode cX14_runs 5 = .ok (.iload_n 1, 1) := by decide +kernel
theorem dX14_runs_6 : decode cX14_runs 6 = .ok (.iload_n 2, 1) := by decide +kernel
theorem dX14_runs_7 : decode cX14_runs 7 = .ok (.iload_n 3, 1) := by decide +kernel
theorem dX14_runs_8 : decode cX14_runs 8 = .ok (.iload 4, 2) := by decide +kernel
theorem dX14_runs_10 : decode cX14_runs 10 = .ok (.iload 5, 2) := by decide +kernel
theorem dX14_runs_12 : decode cX14_runs 12 = .ok (.invokevirtual 432, 3) := by decide +kernel
theorem dX14_runs_15 : decode cX14_runs 15 = .ok (.pop, 1) := by decide +kernel
theorem dX14_runs_16 : decode cX14_runs 16 = .ok (.aload_n 0, 1) := by decide +kernel
theorem dX14_runs_17 : decode cX14_runs 17 = .ok (.invokevirtual 435, 3) := by decide +kernel
theorem dX14_runs_20 : decode cX14_runs 20 = .ok (.return_, 1) := by decide +kernel
theorem dX14_piece_0 : decode cX14_piece 0 = .ok (.aload_n 0, 1) := by decide +kernel
theorem dX14_piece_1 : decode cX14_piece 1 = .ok (.getfield 68, 3) := by decide +kernel
theorem dX14_piece_4 : decode cX14_piece 4 = .ok (.bipush 6, 2) := by decide +kernel
theorem dX14_piece_6 : decode cX14_piece 6 = .ok (.iload_n 1, 1) := by decide +kernel
theorem dX14_piece_7 : decode cX14_piece 7 = .ok (.imul, 1) := by decide +kernel
theorem dX14_piece_8 : decode cX14_piece 8 = .ok (.iload_n 2, 1) := by decide +kernel
theorem dX14_piece_9 : decode cX14_piece 9 = .ok (.iadd, 1) := by decide +kernel
theorem dX14_piece_10 : decode cX14_piece 10 = .ok (.iaload, 1) := by decide +kernel
theorem dX14_piece_11 : decode cX14_piece 11 = .ok (.istore 6, 2) := by decide +kernel
theorem dX14_piece_13 : decode cX14_piece 13 = .ok (.aload_n 0, 1) := by decide +kernel
theorem dX14_piece_14 : decode cX14_piece 14 = .ok (.iload 6, 2) := by decide +kernel
theorem dX14_piece_16 : decode cX14_piece 16 = .ok (.iload_n 3, 1) := by decide +kernel
theorem dX14_piece_17 : decode cX14_piece 17 = .ok (.iconst 1, 1) := by decide +kernel
theorem dX14_piece_18 : decode cX14_piece 18 = .ok (.iadd, 1) := by decide +kernel
theorem dX14_piece_19 : decode cX14_piece 19 = .ok (.invokevirtual 344, 3) := by decide +kernel
theorem dX14_piece_22 : decode cX14_piece 22 = .ok (.istore 7, 2) := by decide +kernel
theorem dX14_piece_24 : decode cX14_piece 24 = .ok (.iload 7, 2) := by decide +kernel
theorem dX14_piece_26 : decode cX14_piece 26 = .ok (.bipush 60, 2) := by decide +kernel
theorem dX14_piece_28 : decode cX14_piece 28 = .ok (.if_icmp .ne 7, 3) := by decide +kernel
theorem dX14_piece_31 : decode cX14_piece 31 = .ok (.iload_n 3, 1) := by decide +kernel
theorem dX14_piece_32 : decode cX14_piece 32 = .ok (.iconst 4, 1) := by decide +kernel
theorem dX14_piece_33 : decode cX14_piece 33 = .ok (.iadd, 1) := by decide +kernel
theorem dX14_piece_34 : decode cX14_piece 34 = .ok (.ireturn, 1) := by decide +kernel
theorem dX14_piece_35 : decode cX14_piece 35 = .ok (.aload_n 0, 1) := by decide +kernel
theorem dX14_piece_36 : decode cX14_piece 36 = .ok (.getfield 438, 3) := by decide +kernel
theorem dX14_piece_39 : decode cX14_piece 39 = .ok (.sipush 300, 3) := by decide +kernel
theorem dX14_piece_42 : decode cX14_piece 42 = .ok (.if_icmp .ne 20, 3) := by decide +kernel
theorem dX14_piece_45 : decode cX14_piece 45 = .ok (.aload_n 0, 1) := by decide +kernel
theorem dX14_piece_46 : decode cX14_piece 46 = .ok (.iload_n 1, 1) := by decide +kernel
theorem dX14_piece_47 : decode cX14_piece 47 = .ok (.iload_n 2, 1) := by decide +kernel
theorem dX14_piece_48 : decode cX14_piece 48 = .ok (.aload_n 0, 1) := by decide +kernel
theorem dX14_piece_49 : decode cX14_piece 49 = .ok (.iload 6, 2) := by decide +kernel
theorem dX14_piece_51 : decode cX14_piece 51 = .ok (.iload_n 3, 1) := by decide +kernel
theorem dX14_piece_52 : decode cX14_piece 52 = .ok (.invokevirtual 329, 3) := by decide +kernel
theorem dX14_piece_55 : decode cX14_piece 55 = .ok (.bipush 6, 2) := by decide +kernel
theorem dX14_piece_57 : decode cX14_piece 57 = .ok (.invokevirtual 415, 3) := by decide +kernel
theorem dX14_piece_60 : decode cX14_piece 60 = .ok (.iload_n 3, 1) := by decide +kernel
theorem dX14_piece_61 : decode cX14_piece 61 = .ok (.ireturn, 1) := by decide +kernel
theorem dX14_piece_62 : decode cX14_piece 62 = .ok (.aload_n 0, 1) := by decide +kernel
theorem dX14_piece_63 : decode cX14_piece 63 = .ok (.dup, 1) := by decide +kernel
theorem dX14_piece_64 : decode cX14_piece 64 = .ok (.getfield 438, 3) := by decide +kernel
theorem dX14_piece_67 : decode cX14_piece 67 = .ok (.iconst 1, 1) := by decide +kernel
theorem dX14_piece_68 : decode cX14_piece 68 = .ok (.iadd, 1) := by decide +kernel
theorem dX14_piece_69 : decode cX14_piece 69 = .ok (.putfield 438, 3) := by decide +kernel
theorem dX14_piece_72 : decode cX14_piece 72 = .ok (.iload 7, 2) := by decide +kernel
theorem dX14_piece_74 : decode cX14_piece 74 = .ok (.lookupswitch 147 #[(42, 70), (61, 82), (62, 131), (63, 58), (64, 139), (94, 114)], 58) := by decide +kernel
theorem dX14_piece_132 : decode cX14_piece 132 = .ok (.aload_n 0, 1) := by decide +kernel
theorem dX14_piece_133 : decode cX14_piece 133 = .ok (.iload_n 1, 1) := by decide +kernel
theorem dX14_piece_134 : decode cX14_piece 134 = .ok (.iload_n 2, 1) := by decide +kernel
theorem dX14_piece_135 : decode cX14_piece 135 = .ok (.iload_n 3, 1) := by decide +kernel
theorem dX14_piece_136 : decode cX14_piece 136 = .ok (.iload 4, 2) := by decide +kernel
theorem dX14_piece_138 : decode cX14_piece 138 = .ok (.iload 5, 2) := by decide +kernel
theorem dX14_piece_140 : decode cX14_piece 140 = .ok (.invokevirtual 441, 3) := by decide +kernel
theorem dX14_piece_143 : decode cX14_piece 143 = .ok (.ireturn, 1) := by decide +kernel
theorem dX14_piece_144 : decode cX14_piece 144 = .ok (.aload_n 0, 1) := by decide +kernel
theorem dX14_piece_145 : decode cX14_piece 145 = .ok (.iload_n 1, 1) := by decide +kernel
theorem dX14_piece_146 : decode cX14_piece 146 = .ok (.iload_n 2, 1) := by decide +kernel
theorem dX14_piece_147 : decode cX14_piece 147 = .ok (.iload_n 3, 1) := by decide +kernel
theorem dX14_piece_148 : decode cX14_piece 148 = .ok (.iload 4, 2) := by decide +kernel
theorem dX14_piece_150 : decode cX14_piece 150 = .ok (.iload 5, 2) := by decide +kernel
theorem dX14_piece_152 : decode cX14_piece 152 = .ok (.invokevirtual 444, 3) := by decide +kernel
theorem dX14_piece_155 : decode cX14_piece 155 = .ok (.ireturn, 1) := by decide +kernel
theorem dX14_piece_156 : decode cX14_piece 156 = .ok (.aload_n 0, 1) := by decide +kernel
theorem dX14_piece_157 : decode cX14_piece 157 = .ok (.iload_n 1, 1) := by decide +kernel
theorem dX14_piece_158 : decode cX14_piece 158 = .ok (.iload_n 2, 1) := by decide +kernel
theorem dX14_piece_159 : decode cX14_piece 159 = .ok (.iload_n 3, 1) := by decide +kernel
theorem dX14_piece_160 : decode cX14_piece 160 = .ok (.aload_n 0, 1) := by decide +kernel
theorem dX14_piece_161 : decode cX14_piece 161 = .ok (.iload 6, 2) := by decide +kernel
theorem dX14_piece_163 : decode cX14_piece 163 = .ok (.iload_n 3, 1) := by decide +kernel
theorem dX14_piece_164 : decode cX14_piece 164 = .ok (.iconst 2, 1) := by decide +kernel
theorem dX14_piece_165 : decode cX14_piece 165 = .ok (.iadd, 1) := by decide +kernel
theorem dX14_piece_166 : decode cX14_piece 166 = .ok (.invokevirtual 344, 3) := by decide +kernel
theorem dX14_piece_169 : decode cX14_piece 169 = .ok (.bipush 65, 2) := by decide +kernel
theorem dX14_piece_171 : decode cX14_piece 171 = .ok (.isub, 1) := by decide +kernel
theorem dX14_piece_172 : decode cX14_piece 172 = .ok (.iconst 0, 1) := by decide +kernel
theorem dX14_piece_173 : decode cX14_piece 173 = .ok (.aload_n 0, 1) := by decide +kernel
theorem dX14_piece_174 : decode cX14_piece 174 = .ok (.iload 6, 2) := by decide +kernel
theorem dX14_piece_176 : decode cX14_piece 176 = .ok (.iload_n 3, 1) := by decide +kernel
theorem dX14_piece_177 : decode cX14_piece 177 = .ok (.iconst 4, 1) := by decide +kernel
theorem dX14_piece_178 : decode cX14_piece 178 = .ok (.iadd, 1) := by decide +kernel
theorem dX14_piece_179 : decode cX14_piece 179 = .ok (.invokevirtual 447, 3) := by decide +kernel
theorem dX14_piece_182 : decode cX14_piece 182 = .ok (.iconst 3, 1) := by decide +kernel
theorem dX14_piece_183 : decode cX14_piece 183 = .ok (.iadd, 1) := by decide +kernel
theorem dX14_piece_184 : decode cX14_piece 184 = .ok (.invokevirtual 450, 3) := by decide +kernel
theorem dX14_piece_187 : decode cX14_piece 187 = .ok (.ireturn, 1) := by decide +kernel
theorem dX14_piece_188 : decode cX14_piece 188 = .ok (.aload_n 0, 1) := by decide +kernel
theorem dX14_piece_189 : decode cX14_piece 189 = .ok (.iload_n 1, 1) := by decide +kernel
theorem dX14_piece_190 : decode cX14_piece 190 = .ok (.iload_n 2, 1) := by decide +kernel
theorem dX14_piece_191 : decode cX14_piece 191 = .ok (.iload_n 3, 1) := by decide +kernel
theorem dX14_piece_192 : decode cX14_piece 192 = .ok (.iload 5, 2) := by decide +kernel
theorem dX14_piece_194 : decode cX14_piece 194 = .ok (.iload 4, 2) := by decide +kernel
theorem dX14_piece_196 : decode cX14_piece 196 = .ok (.iconst 1, 1) := by decide +kernel
theorem dX14_piece_197 : decode cX14_piece 197 = .ok (.iadd, 1) := by decide +kernel
theorem dX14_piece_198 : decode cX14_piece 198 = .ok (.iload_n 3, 1) := by decide +kernel
theorem dX14_piece_199 : decode cX14_piece 199 = .ok (.iconst 3, 1) := by decide +kernel
theorem dX14_piece_200 : decode cX14_piece 200 = .ok (.iadd, 1) := by decide +kernel
theorem dX14_piece_201 : decode cX14_piece 201 = .ok (.invokevirtual 450, 3) := by decide +kernel
theorem dX14_piece_204 : decode cX14_piece 204 = .ok (.ireturn, 1) := by decide +kernel
theorem dX14_piece_205 : decode cX14_piece 205 = .ok (.aload_n 0, 1) := by decide +kernel
theorem dX14_piece_206 : decode cX14_piece 206 = .ok (.iload_n 1, 1) := by decide +kernel
theorem dX14_piece_207 : decode cX14_piece 207 = .ok (.iload_n 2, 1) := by decide +kernel
theorem dX14_piece_208 : decode cX14_piece 208 = .ok (.iload_n 3, 1) := by decide +kernel
theorem dX14_piece_209 : decode cX14_piece 209 = .ok (.invokevirtual 454, 3) := by decide +kernel
theorem dX14_piece_212 : decode cX14_piece 212 = .ok (.ireturn, 1) := by decide +kernel
theorem dX14_piece_213 : decode cX14_piece 213 = .ok (.aload_n 0, 1) := by decide +kernel
theorem dX14_piece_214 : decode cX14_piece 214 = .ok (.iload_n 1, 1) := by decide +kernel
theorem dX14_piece_215 : decode cX14_piece 215 = .ok (.iload_n 2, 1) := by decide +kernel
theorem dX14_piece_216 : decode cX14_piece 216 = .ok (.iload_n 3, 1) := by decide +kernel
theorem dX14_piece_217 : decode cX14_piece 217 = .ok (.invokevirtual 456, 3) := by decide +kernel
theorem dX14_piece_220 : decode cX14_piece 220 = .ok (.ireturn, 1) := by decide +kernel
theorem dX14_piece_221 : decode cX14_piece 221 = .ok (.aload_n 0, 1) := by decide +kernel
theorem dX14_piece_222 : decode cX14_piece 222 = .ok (.iload_n 1, 1) := by decide +kernel
theorem dX14_piece_223 : decode cX14_piece 223 = .ok (.iload_n 2, 1) := by decide +kernel
theorem dX14_piece_224 : decode cX14_piece 224 = .ok (.iload_n 3, 1) := by decide +kernel
theorem dX14_piece_225 : decode cX14_piece 225 = .ok (.invokevirtual 459, 3) := by decide +kernel
theorem dX14_piece_228 : decode cX14_piece 228 = .ok (.ireturn, 1) := by decide +kernel
theorem dX14_branches_0 : decode cX14_branches 0 = .ok (.aload_n 0, 1) := by decide +kernel
theorem dX14_branches_1 : decode cX14_branches 1 = .ok (.getfield 68, 3) := by decide +kernel
theorem dX14_branches_4 : decode cX14_branches 4 = .ok (.bipush 6, 2) := by decide +kernel
theorem dX14_branches_6 : decode cX14_branches 6 = .ok (.iload_n 1, 1) := by decide +kernel
theorem dX14_branches_7 : decode cX14_branches 7 = .ok (.imul, 1) := by decide +kernel
theorem dX14_branches_8 : decode cX14_branches 8 = .ok (.iload_n 2, 1) := by decide +kernel
theorem dX14_branches_9 : decode cX14_branches 9 = .ok (.iadd, 1) := by decide +kernel
theorem dX14_branches_10 : decode cX14_branches 10 = .ok (.iaload, 1) := by decide +kernel
theorem dX14_branches_11 : decode cX14_branches 11 = .ok (.istore 6, 2) := by decide +kernel
theorem dX14_branches_13 : decode cX14_branches 13 = .ok (.aload_n 0, 1) := by decide +kernel
theorem dX14_branches_14 : decode cX14_branches 14 = .ok (.iload_n 3, 1) := by decide +kernel
theorem dX14_branches_15 : decode cX14_branches 15 = .ok (.iconst 2, 1) := by decide +kernel
theorem dX14_branches_16 : decode cX14_branches 16 = .ok (.iadd, 1) := by decide +kernel
theorem dX14_branches_17 : decode cX14_branches 17 = .ok (.putfield 341, 3) := by decide +kernel
theorem dX14_branches_20 : decode cX14_branches 20 = .ok (.aload_n 0, 1) := by decide +kernel
theorem dX14_branches_21 : decode cX14_branches 21 = .ok (.getfield 423, 3) := by decide +kernel
theorem dX14_branches_24 : decode cX14_branches 24 = .ok (.ifCond .eq 7, 3) := by decide +kernel
theorem dX14_branches_27 : decode cX14_branches 27 = .ok (.iconst 0, 1) := by decide +kernel
theorem dX14_branches_28 : decode cX14_branches 28 = .ok (.goto 9, 3) := by decide +kernel
theorem dX14_branches_31 : decode cX14_branches 31 = .ok (.aload_n 0, 1) := by decide +kernel
theorem dX14_branches_32 : decode cX14_branches 32 = .ok (.iload 6, 2) := by decide +kernel
theorem dX14_branches_34 : decode cX14_branches 34 = .ok (.invokevirtual 462, 3) := by decide +kernel
theorem dX14_branches_37 : decode cX14_branches 37 = .ok (.istore 7, 2) := by decide +kernel
theorem dX14_branches_39 : decode cX14_branches 39 = .ok (.iload 7, 2) := by decide +kernel
theorem dX14_branches_41 : decode cX14_branches 41 = .ok (.ifCond .eq 20, 3) := by decide +kernel
theorem dX14_branches_44 : decode cX14_branches 44 = .ok (.aload_n 0, 1) := by decide +kernel
theorem dX14_branches_45 : decode cX14_branches 45 = .ok (.iload_n 1, 1) := by decide +kernel
theorem dX14_branches_46 : decode cX14_branches 46 = .ok (.iload_n 2, 1) := by decide +kernel
theorem dX14_branches_47 : decode cX14_branches 47 = .ok (.aload_n 0, 1) := by decide +kernel
theorem dX14_branches_48 : decode cX14_branches 48 = .ok (.iload 6, 2) := by decide +kernel
theorem dX14_branches_50 : decode cX14_branches 50 = .ok (.iload_n 3, 1) := by decide +kernel
theorem dX14_branches_51 : decode cX14_branches 51 = .ok (.invokevirtual 329, 3) := by decide +kernel
theorem dX14_branches_54 : decode cX14_branches 54 = .ok (.iload 7, 2) := by decide +kernel
theorem dX14_branches_56 : decode cX14_branches 56 = .ok (.invokevirtual 415, 3) := by decide +kernel
theorem dX14_branches_59 : decode cX14_branches 59 = .ok (.iload_n 3, 1) := by decide +kernel
theorem dX14_branches_60 : decode cX14_branches 60 = .ok (.ireturn, 1) := by decide +kernel
theorem dX14_branches_61 : decode cX14_branches 61 = .ok (.aload_n 0, 1) := by decide +kernel
theorem dX14_branches_62 : decode cX14_branches 62 = .ok (.getfield 368, 3) := by decide +kernel
theorem dX14_branches_65 : decode cX14_branches 65 = .ok (.istore 8, 2) := by decide +kernel
theorem dX14_branches_67 : decode cX14_branches 67 = .ok (.aload_n 0, 1) := by decide +kernel
theorem dX14_branches_68 : decode cX14_branches 68 = .ok (.iload 6, 2) := by decide +kernel
theorem dX14_branches_70 : decode cX14_branches 70 = .ok (.iload_n 3, 1) := by decide +kernel
theorem dX14_branches_71 : decode cX14_branches 71 = .ok (.invokevirtual 465, 3) := by decide +kernel
theorem dX14_branches_74 : decode cX14_branches 74 = .ok (.istore 9, 2) := by decide +kernel
theorem dX14_branches_76 : decode cX14_branches 76 = .ok (.aload_n 0, 1) := by decide +kernel
theorem dX14_branches_77 : decode cX14_branches 77 = .ok (.iload 6, 2) := by decide +kernel
theorem dX14_branches_79 : decode cX14_branches 79 = .ok (.iload 9, 2) := by decide +kernel
theorem dX14_branches_81 : decode cX14_branches 81 = .ok (.invokevirtual 447, 3) := by decide +kernel
theorem dX14_branches_84 : decode cX14_branches 84 = .ok (.istore 10, 2) := by decide +kernel
theorem dX14_branches_86 : decode cX14_branches 86 = .ok (.aload_n 0, 1) := by decide +kernel
theorem dX14_branches_87 : decode cX14_branches 87 = .ok (.iload 6, 2) := by decide +kernel
theorem dX14_branches_89 : decode cX14_branches 89 = .ok (.iload 10, 2) := by decide +kernel
theorem dX14_branches_91 : decode cX14_branches 91 = .ok (.iconst 1, 1) := by decide +kernel
theorem dX14_branches_92 : decode cX14_branches 92 = .ok (.iadd, 1) := by decide +kernel
theorem dX14_branches_93 : decode cX14_branches 93 = .ok (.invokevirtual 344, 3) := by decide +kernel
theorem dX14_branches_96 : decode cX14_branches 96 = .ok (.bipush 58, 2) := by decide +kernel
theorem dX14_branches_98 : decode cX14_branches 98 = .ok (.if_icmp .ne 7, 3) := by decide +kernel
theorem dX14_branches_101 : decode cX14_branches 101 = .ok (.iconst 1, 1) := by decide +kernel
theorem dX14_branches_102 : decode cX14_branches 102 = .ok (.goto 4, 3) := by decide +kernel
theorem dX14_branches_105 : decode cX14_branches 105 = .ok (.iconst 0, 1) := by decide +kernel
theorem dX14_branches_106 : decode cX14_branches 106 = .ok (.istore 11, 2) := by decide +kernel
theorem dX14_branches_108 : decode cX14_branches 108 = .ok (.iload 11, 2) := by decide +kernel
theorem dX14_branches_110 : decode cX14_branches 110 = .ok (.ifCond .eq 16, 3) := by decide +kernel
theorem dX14_branches_113 : decode cX14_branches 113 = .ok (.aload_n 0, 1) := by decide +kernel
theorem dX14_branches_114 : decode cX14_branches 114 = .ok (.iload 6, 2) := by decide +kernel
theorem dX14_branches_116 : decode cX14_branches 116 = .ok (.iload 10, 2) := by decide +kernel
theorem dX14_branches_118 : decode cX14_branches 118 = .ok (.iconst 3, 1) := by decide +kernel
theorem dX14_branches_119 : decode cX14_branches 119 = .ok (.iadd, 1) := by decide +kernel
theorem dX14_branches_120 : decode cX14_branches 120 = .ok (.invokevirtual 447, 3) := by decide +kernel
theorem dX14_branches_123 : decode cX14_branches 123 = .ok (.goto 5, 3) := by decide +kernel
theorem dX14_branches_126 : decode cX14_branches 126 = .ok (.iload 10, 2) := by decide +kernel
theorem dX14_branches_128 : decode cX14_branches 128 = .ok (.istore 12, 2) := by decide +kernel
theorem dX14_branches_130 : decode cX14_branches 130 = .ok (.aload_n 0, 1) := by decide +kernel
theorem dX14_branches_131 : decode cX14_branches 131 = .ok (.getfield 384, 3) := by decide +kernel
theorem dX14_branches_134 : decode cX14_branches 134 = .ok (.istore 13, 2) := by decide +kernel
theorem dX14_branches_136 : decode cX14_branches 136 = .ok (.aload_n 0, 1) := by decide +kernel
theorem dX14_branches_137 : decode cX14_branches 137 = .ok (.getfield 423, 3) := by decide +kernel
theorem dX14_branches_140 : decode cX14_branches 140 = .ok (.ifCond .ne 8, 3) := by decide +kernel
theorem dX14_branches_143 : decode cX14_branches 143 = .ok (.iload 8, 2) := by decide +kernel
theorem dX14_branches_145 : decode cX14_branches 145 = .ok (.ifCond .eq 15, 3) := by decide +kernel
theorem dX14_branches_148 : decode cX14_branches 148 = .ok (.aload_n 0, 1) := by decide +kernel
theorem dX14_branches_149 : decode cX14_branches 149 = .ok (.iload_n 1, 1) := by decide +kernel
theorem dX14_branches_150 : decode cX14_branches 150 = .ok (.iload_n 2, 1) := by decide +kernel
theorem dX14_branches_151 : decode cX14_branches 151 = .ok (.iload 9, 2) := by decide +kernel
theorem dX14_branches_153 : decode cX14_branches 153 = .ok (.iload 4, 2) := by decide +kernel
theorem dX14_branches_155 : decode cX14_branches 155 = .ok (.iload 5, 2) := by decide +kernel
theorem dX14_branches_157 : decode cX14_branches 157 = .ok (.invokevirtual 468, 3) := by decide +kernel
theorem dX14_branches_160 : decode cX14_branches 160 = .ok (.aload_n 0, 1) := by decide +kernel
theorem dX14_branches_161 : decode cX14_branches 161 = .ok (.getfield 384, 3) := by decide +kernel
theorem dX14_branches_164 : decode cX14_branches 164 = .ok (.istore 14, 2) := by decide +kernel
theorem dX14_branches_166 : decode cX14_branches 166 = .ok (.aload_n 0, 1) := by decide +kernel
theorem dX14_branches_167 : decode cX14_branches 167 = .ok (.getfield 423, 3) := by decide +kernel
theorem dX14_branches_170 : decode cX14_branches 170 = .ok (.ifCond .eq 9, 3) := by decide +kernel
theorem dX14_branches_173 : decode cX14_branches 173 = .ok (.aload_n 0, 1) := by decide +kernel
theorem dX14_branches_174 : decode cX14_branches 174 = .ok (.iload 13, 2) := by decide +kernel
theorem dX14_branches_176 : decode cX14_branches 176 = .ok (.putfield 384, 3) := by decide +kernel
theorem dX14_branches_179 : decode cX14_branches 179 = .ok (.iload 11, 2) := by decide +kernel
theorem dX14_branches_181 : decode cX14_branches 181 = .ok (.ifCond .eq 29, 3) := by decide +kernel
theorem dX14_branches_184 : decode cX14_branches 184 = .ok (.aload_n 0, 1) := by decide +kernel
theorem dX14_branches_185 : decode cX14_branches 185 = .ok (.getfield 423, 3) := by decide +kernel
theorem dX14_branches_188 : decode cX14_branches 188 = .ok (.ifCond .ne 8, 3) := by decide +kernel
theorem dX14_branches_191 : decode cX14_branches 191 = .ok (.iload 8, 2) := by decide +kernel
theorem dX14_branches_193 : decode cX14_branches 193 = .ok (.ifCond .ne 17, 3) := by decide +kernel
theorem dX14_branches_196 : decode cX14_branches 196 = .ok (.aload_n 0, 1) := by decide +kernel
theorem dX14_branches_197 : decode cX14_branches 197 = .ok (.iload_n 1, 1) := by decide +kernel
theorem dX14_branches_198 : decode cX14_branches 198 = .ok (.iload_n 2, 1) := by decide +kernel
theorem dX14_branches_199 : decode cX14_branches 199 = .ok (.iload 10, 2) := by decide +kernel
theorem dX14_branches_201 : decode cX14_branches 201 = .ok (.iconst 3, 1) := by decide +kernel
theorem dX14_branches_202 : decode cX14_branches 202 = .ok (.iadd, 1) := by decide +kernel
theorem dX14_branches_203 : decode cX14_branches 203 = .ok (.iload 4, 2) := by decide +kernel
theorem dX14_branches_205 : decode cX14_branches 205 = .ok (.iload 5, 2) := by decide +kernel
theorem dX14_branches_207 : decode cX14_branches 207 = .ok (.invokevirtual 468, 3) := by decide +kernel
theorem dX14_branches_210 : decode cX14_branches 210 = .ok (.aload_n 0, 1) := by decide +kernel
theorem dX14_branches_211 : decode cX14_branches 211 = .ok (.getfield 423, 3) := by decide +kernel
theorem dX14_branches_214 : decode cX14_branches 214 = .ok (.ifCond .eq 33, 3) := by decide +kernel
theorem dX14_branches_217 : decode cX14_branches 217 = .ok (.aload_n 0, 1) := by decide +kernel
theorem dX14_branches_218 : decode cX14_branches 218 = .ok (.getfield 409, 3) := by decide +kernel
theorem dX14_branches_221 : decode cX14_branches 221 = .ok (.ifCond .ne 26, 3) := by decide +kernel
theorem dX14_branches_224 : decode cX14_branches 224 = .ok (.aload_n 0, 1) := by decide +kernel
theorem dX14_branches_225 : decode cX14_branches 225 = .ok (.getfield 384, 3) := by decide +kernel
theorem dX14_branches_228 : decode cX14_branches 228 = .ok (.iload 14, 2) := by decide +kernel
theorem dX14_branches_230 : decode cX14_branches 230 = .ok (.if_icmp .eq 17, 3) := by decide +kernel
theorem dX14_branches_233 : decode cX14_branches 233 = .ok (.aload_n 0, 1) := by decide +kernel
theorem dX14_branches_234 : decode cX14_branches 234 = .ok (.iload_n 1, 1) := by decide +kernel
theorem dX14_branches_235 : decode cX14_branches 235 = .ok (.iload_n 2, 1) := by decide +kernel
theorem dX14_branches_236 : decode cX14_branches 236 = .ok (.aload_n 0, 1) := by decide +kernel
theorem dX14_branches_237 : decode cX14_branches 237 = .ok (.iload 6, 2) := by decide +kernel
theorem dX14_branches_239 : decode cX14_branches 239 = .ok (.iload_n 3, 1) := by decide +kernel
theorem dX14_branches_240 : decode cX14_branches 240 = .ok (.invokevirtual 329, 3) := by decide +kernel
theorem dX14_branches_243 : decode cX14_branches 243 = .ok (.iconst 3, 1) := by decide +kernel
theorem dX14_branches_244 : decode cX14_branches 244 = .ok (.invokevirtual 415, 3) := by decide +kernel
theorem dX14_branches_247 : decode cX14_branches 247 = .ok (.iload 12, 2) := by decide +kernel
theorem dX14_branches_249 : decode cX14_branches 249 = .ok (.iconst 3, 1) := by decide +kernel
theorem dX14_branches_250 : decode cX14_branches 250 = .ok (.iadd, 1) := by decide +kernel
theorem dX14_branches_251 : decode cX14_branches 251 = .ok (.ireturn, 1) := by decide +kernel
theorem dX14_endsAsAhead_0 : decode cX14_endsAsAhead 0 = .ok (.aload_n 0, 1) := by decide +kernel
theorem dX14_endsAsAhead_1 : decode cX14_endsAsAhead 1 = .ok (.getfield 423, 3) := by decide +kernel
theorem dX14_endsAsAhead_4 : decode cX14_endsAsAhead 4 = .ok (.ifCond .eq 27, 3) := by decide +kernel
theorem dX14_endsAsAhead_7 : decode cX14_endsAsAhead 7 = .ok (.aload_n 0, 1) := by decide +kernel
theorem dX14_endsAsAhead_8 : decode cX14_endsAsAhead 8 = .ok (.getfield 409, 3) := by decide +kernel
theorem dX14_endsAsAhead_11 : decode cX14_endsAsAhead 11 = .ok (.ifCond .ne 20, 3) := by decide +kernel
theorem dX14_endsAsAhead_14 : decode cX14_endsAsAhead 14 = .ok (.aload_n 0, 1) := by decide +kernel
theorem dX14_endsAsAhead_15 : decode cX14_endsAsAhead 15 = .ok (.getfield 384, 3) := by decide +kernel
theorem dX14_endsAsAhead_18 : decode cX14_endsAsAhead 18 = .ok (.iload 4, 2) := by decide +kernel
theorem dX14_endsAsAhead_20 : decode cX14_endsAsAhead 20 = .ok (.if_icmp .eq 11, 3) := by decide +kernel
theorem dX14_endsAsAhead_23 : decode cX14_endsAsAhead 23 = .ok (.aload_n 0, 1) := by decide +kernel
theorem dX14_endsAsAhead_24 : decode cX14_endsAsAhead 24 = .ok (.iload_n 1, 1) := by decide +kernel
theorem dX14_endsAsAhead_25 : decode cX14_endsAsAhead 25 = .ok (.iload_n 2, 1) := by decide +kernel
theorem dX14_endsAsAhead_26 : decode cX14_endsAsAhead 26 = .ok (.iload_n 3, 1) := by decide +kernel
theorem dX14_endsAsAhead_27 : decode cX14_endsAsAhead 27 = .ok (.iconst 3, 1) := by decide +kernel
theorem dX14_endsAsAhead_28 : decode cX14_endsAsAhead 28 = .ok (.invokevirtual 415, 3) := by decide +kernel
theorem dX14_endsAsAhead_31 : decode cX14_endsAsAhead 31 = .ok (.return_, 1) := by decide +kernel
theorem dX14_loop_0 : decode cX14_loop 0 = .ok (.aload_n 0, 1) := by decide +kernel
theorem dX14_loop_1 : decode cX14_loop 1 = .ok (.getfield 68, 3) := by decide +kernel
theorem dX14_loop_4 : decode cX14_loop 4 = .ok (.bipush 6, 2) := by decide +kernel
theorem dX14_loop_6 : decode cX14_loop 6 = .ok (.iload_n 1, 1) := by decide +kernel
theorem dX14_loop_7 : decode cX14_loop 7 = .ok (.imul, 1) := by decide +kernel
theorem dX14_loop_8 : decode cX14_loop 8 = .ok (.iload_n 2, 1) := by decide +kernel
theorem dX14_loop_9 : decode cX14_loop 9 = .ok (.iadd, 1) := by decide +kernel
theorem dX14_loop_10 : decode cX14_loop 10 = .ok (.iaload, 1) := by decide +kernel
theorem dX14_loop_11 : decode cX14_loop 11 = .ok (.istore 6, 2) := by decide +kernel
theorem dX14_loop_13 : decode cX14_loop 13 = .ok (.aload_n 0, 1) := by decide +kernel
theorem dX14_loop_14 : decode cX14_loop 14 = .ok (.iload 6, 2) := by decide +kernel
theorem dX14_loop_16 : decode cX14_loop 16 = .ok (.iload_n 3, 1) := by decide +kernel
theorem dX14_loop_17 : decode cX14_loop 17 = .ok (.iconst 2, 1) := by decide +kernel
theorem dX14_loop_18 : decode cX14_loop 18 = .ok (.iadd, 1) := by decide +kernel
theorem dX14_loop_19 : decode cX14_loop 19 = .ok (.invokevirtual 344, 3) := by decide +kernel
theorem dX14_loop_22 : decode cX14_loop 22 = .ok (.bipush 97, 2) := by decide +kernel
theorem dX14_loop_24 : decode cX14_loop 24 = .ok (.isub, 1) := by decide +kernel
theorem dX14_loop_25 : decode cX14_loop 25 = .ok (.istore 7, 2) := by decide +kernel
theorem dX14_loop_27 : decode cX14_loop 27 = .ok (.aload_n 0, 1) := by decide +kernel
theorem dX14_loop_28 : decode cX14_loop 28 = .ok (.iload_n 3, 1) := by decide +kernel
theorem dX14_loop_29 : decode cX14_loop 29 = .ok (.iconst 4, 1) := by decide +kernel
theorem dX14_loop_30 : decode cX14_loop 30 = .ok (.iadd, 1) := by decide +kernel
theorem dX14_loop_31 : decode cX14_loop 31 = .ok (.putfield 341, 3) := by decide +kernel
theorem dX14_loop_34 : decode cX14_loop 34 = .ok (.aload_n 0, 1) := by decide +kernel
theorem dX14_loop_35 : decode cX14_loop 35 = .ok (.getfield 423, 3) := by decide +kernel
theorem dX14_loop_38 : decode cX14_loop 38 = .ok (.ifCond .eq 7, 3) := by decide +kernel
theorem dX14_loop_41 : decode cX14_loop 41 = .ok (.iconst 0, 1) := by decide +kernel
theorem dX14_loop_42 : decode cX14_loop 42 = .ok (.goto 11, 3) := by decide +kernel
theorem dX14_loop_45 : decode cX14_loop 45 = .ok (.aload_n 0, 1) := by decide +kernel
theorem dX14_loop_46 : decode cX14_loop 46 = .ok (.iload 6, 2) := by decide +kernel
theorem dX14_loop_48 : decode cX14_loop 48 = .ok (.bipush 8, 2) := by decide +kernel
theorem dX14_loop_50 : decode cX14_loop 50 = .ok (.invokevirtual 362, 3) := by decide +kernel
theorem dX14_loop_53 : decode cX14_loop 53 = .ok (.istore 8, 2) := by decide +kernel
theorem dX14_loop_55 : decode cX14_loop 55 = .ok (.iload 8, 2) := by decide +kernel
theorem dX14_loop_57 : decode cX14_loop 57 = .ok (.ifCond .ne 24, 3) := by decide +kernel
theorem dX14_loop_60 : decode cX14_loop 60 = .ok (.aload_n 0, 1) := by decide +kernel
theorem dX14_loop_61 : decode cX14_loop 61 = .ok (.getfield 423, 3) := by decide +kernel
theorem dX14_loop_64 : decode cX14_loop 64 = .ok (.ifCond .ne 17, 3) := by decide +kernel
theorem dX14_loop_67 : decode cX14_loop 67 = .ok (.aload_n 0, 1) := by decide +kernel
theorem dX14_loop_68 : decode cX14_loop 68 = .ok (.getfield 11, 3) := by decide +kernel
theorem dX14_loop_71 : decode cX14_loop 71 = .ok (.bipush 8, 2) := by decide +kernel
theorem dX14_loop_73 : decode cX14_loop 73 = .ok (.iaload, 1) := by decide +kernel
theorem dX14_loop_74 : decode cX14_loop 74 = .ok (.iconst 4, 1) := by decide +kernel
theorem dX14_loop_75 : decode cX14_loop 75 = .ok (.if_icmp .eq 6, 3) := by decide +kernel
theorem dX14_loop_78 : decode cX14_loop 78 = .ok (.iconst 2, 1) := by decide +kernel
theorem dX14_loop_79 : decode cX14_loop 79 = .ok (.istore 8, 2) := by decide +kernel
theorem dX14_loop_81 : decode cX14_loop 81 = .ok (.iload 8, 2) := by decide +kernel
theorem dX14_loop_83 : decode cX14_loop 83 = .ok (.ifCond .eq 20, 3) := by decide +kernel
theorem dX14_loop_86 : decode cX14_loop 86 = .ok (.aload_n 0, 1) := by decide +kernel
theorem dX14_loop_87 : decode cX14_loop 87 = .ok (.iload_n 1, 1) := by decide +kernel
theorem dX14_loop_88 : decode cX14_loop 88 = .ok (.iload_n 2, 1) := by decide +kernel
theorem dX14_loop_89 : decode cX14_loop 89 = .ok (.aload_n 0, 1) := by decide +kernel
theorem dX14_loop_90 : decode cX14_loop 90 = .ok (.iload 6, 2) := by decide +kernel
theorem dX14_loop_92 : decode cX14_loop 92 = .ok (.iload_n 3, 1) := by decide +kernel
theorem dX14_loop_93 : decode cX14_loop 93 = .ok (.invokevirtual 329, 3) := by decide +kernel
theorem dX14_loop_96 : decode cX14_loop 96 = .ok (.iload 8, 2) := by decide +kernel
theorem dX14_loop_98 : decode cX14_loop 98 = .ok (.invokevirtual 415, 3) := by decide +kernel
theorem dX14_loop_101 : decode cX14_loop 101 = .ok (.iload_n 3, 1) := by decide +kernel
theorem dX14_loop_102 : decode cX14_loop 102 = .ok (.ireturn, 1) := by decide +kernel
theorem dX14_loop_103 : decode cX14_loop 103 = .ok (.aload_n 0, 1) := by decide +kernel
theorem dX14_loop_104 : decode cX14_loop 104 = .ok (.iload 6, 2) := by decide +kernel
theorem dX14_loop_106 : decode cX14_loop 106 = .ok (.iload_n 3, 1) := by decide +kernel
theorem dX14_loop_107 : decode cX14_loop 107 = .ok (.invokevirtual 465, 3) := by decide +kernel
theorem dX14_loop_110 : decode cX14_loop 110 = .ok (.istore 9, 2) := by decide +kernel
theorem dX14_loop_112 : decode cX14_loop 112 = .ok (.aload_n 0, 1) := by decide +kernel
theorem dX14_loop_113 : decode cX14_loop 113 = .ok (.iload 6, 2) := by decide +kernel
theorem dX14_loop_115 : decode cX14_loop 115 = .ok (.iload 9, 2) := by decide +kernel
theorem dX14_loop_117 : decode cX14_loop 117 = .ok (.invokevirtual 447, 3) := by decide +kernel
theorem dX14_loop_120 : decode cX14_loop 120 = .ok (.istore 10, 2) := by decide +kernel
theorem dX14_loop_122 : decode cX14_loop 122 = .ok (.aload_n 0, 1) := by decide +kernel
theorem dX14_loop_123 : decode cX14_loop 123 = .ok (.iload 6, 2) := by decide +kernel
theorem dX14_loop_125 : decode cX14_loop 125 = .ok (.iload 10, 2) := by decide +kernel
theorem dX14_loop_127 : decode cX14_loop 127 = .ok (.iconst 1, 1) := by decide +kernel
theorem dX14_loop_128 : decode cX14_loop 128 = .ok (.iadd, 1) := by decide +kernel
theorem dX14_loop_129 : decode cX14_loop 129 = .ok (.invokevirtual 344, 3) := by decide +kernel
theorem dX14_loop_132 : decode cX14_loop 132 = .ok (.bipush 58, 2) := by decide +kernel
theorem dX14_loop_134 : decode cX14_loop 134 = .ok (.if_icmp .ne 7, 3) := by decide +kernel
theorem dX14_loop_137 : decode cX14_loop 137 = .ok (.iconst 1, 1) := by decide +kernel
theorem dX14_loop_138 : decode cX14_loop 138 = .ok (.goto 4, 3) := by decide +kernel
theorem dX14_loop_141 : decode cX14_loop 141 = .ok (.iconst 0, 1) := by decide +kernel
theorem dX14_loop_142 : decode cX14_loop 142 = .ok (.istore 11, 2) := by decide +kernel
theorem dX14_loop_144 : decode cX14_loop 144 = .ok (.iload 11, 2) := by decide +kernel
theorem dX14_loop_146 : decode cX14_loop 146 = .ok (.ifCond .eq 16, 3) := by decide +kernel
theorem dX14_loop_149 : decode cX14_loop 149 = .ok (.aload_n 0, 1) := by decide +kernel
theorem dX14_loop_150 : decode cX14_loop 150 = .ok (.iload 6, 2) := by decide +kernel
theorem dX14_loop_152 : decode cX14_loop 152 = .ok (.iload 10, 2) := by decide +kernel
theorem dX14_loop_154 : decode cX14_loop 154 = .ok (.iconst 3, 1) := by decide +kernel
theorem dX14_loop_155 : decode cX14_loop 155 = .ok (.iadd, 1) := by decide +kernel
theorem dX14_loop_156 : decode cX14_loop 156 = .ok (.invokevirtual 447, 3) := by decide +kernel
theorem dX14_loop_159 : decode cX14_loop 159 = .ok (.goto 5, 3) := by decide +kernel
theorem dX14_loop_162 : decode cX14_loop 162 = .ok (.iload 10, 2) := by decide +kernel
theorem dX14_loop_164 : decode cX14_loop 164 = .ok (.istore 12, 2) := by decide +kernel
theorem dX14_loop_166 : decode cX14_loop 166 = .ok (.aload_n 0, 1) := by decide +kernel
theorem dX14_loop_167 : decode cX14_loop 167 = .ok (.getfield 384, 3) := by decide +kernel
theorem dX14_loop_170 : decode cX14_loop 170 = .ok (.istore 13, 2) := by decide +kernel
theorem dX14_loop_172 : decode cX14_loop 172 = .ok (.aload_n 0, 1) := by decide +kernel
theorem dX14_loop_173 : decode cX14_loop 173 = .ok (.iload 6, 2) := by decide +kernel
theorem dX14_loop_175 : decode cX14_loop 175 = .ok (.iload_n 3, 1) := by decide +kernel
theorem dX14_loop_176 : decode cX14_loop 176 = .ok (.invokevirtual 329, 3) := by decide +kernel
theorem dX14_loop_179 : decode cX14_loop 179 = .ok (.istore 14, 2) := by decide +kernel
theorem dX14_loop_181 : decode cX14_loop 181 = .ok (.aload_n 0, 1) := by decide +kernel
theorem dX14_loop_182 : decode cX14_loop 182 = .ok (.getfield 423, 3) := by decide +kernel
theorem dX14_loop_185 : decode cX14_loop 185 = .ok (.ifCond .ne 17, 3) := by decide +kernel
theorem dX14_loop_188 : decode cX14_loop 188 = .ok (.aload_n 0, 1) := by decide +kernel
theorem dX14_loop_189 : decode cX14_loop 189 = .ok (.getfield 18, 3) := by decide +kernel
theorem dX14_loop_192 : decode cX14_loop 192 = .ok (.bipush 8, 2) := by decide +kernel
theorem dX14_loop_194 : decode cX14_loop 194 = .ok (.iaload, 1) := by decide +kernel
theorem dX14_loop_195 : decode cX14_loop 195 = .ok (.ifCond .ne 7, 3) := by decide +kernel
theorem dX14_loop_198 : decode cX14_loop 198 = .ok (.iconst 1, 1) := by decide +kernel
theorem dX14_loop_199 : decode cX14_loop 199 = .ok (.goto 4, 3) := by decide +kernel
theorem dX14_loop_202 : decode cX14_loop 202 = .ok (.iconst 0, 1) := by decide +kernel
theorem dX14_loop_203 : decode cX14_loop 203 = .ok (.istore 15, 2) := by decide +kernel
theorem dX14_loop_205 : decode cX14_loop 205 = .ok (.aload_n 0, 1) := by decide +kernel
theorem dX14_loop_206 : decode cX14_loop 206 = .ok (.getfield 423, 3) := by decide +kernel
theorem dX14_loop_209 : decode cX14_loop 209 = .ok (.ifCond .eq 28, 3) := by decide +kernel
theorem dX14_loop_212 : decode cX14_loop 212 = .ok (.aload_n 0, 1) := by decide +kernel
theorem dX14_loop_213 : decode cX14_loop 213 = .ok (.iload_n 1, 1) := by decide +kernel
theorem dX14_loop_214 : decode cX14_loop 214 = .ok (.iload_n 2, 1) := by decide +kernel
theorem dX14_loop_215 : decode cX14_loop 215 = .ok (.iload 9, 2) := by decide +kernel
theorem dX14_loop_217 : decode cX14_loop 217 = .ok (.iload 4, 2) := by decide +kernel
theorem dX14_loop_219 : decode cX14_loop 219 = .ok (.iload 5, 2) := by decide +kernel
theorem dX14_loop_221 : decode cX14_loop 221 = .ok (.invokevirtual 468, 3) := by decide +kernel
