theorem dX14_plain_476 : decode cX14_plain 476 = .ok (.iload_n 1, 1) := by decide +kernel
theorem dX14_plain_477 : decode cX14_plain 477 = .ok (.invokevirtual 214, 3) := by decide +kernel
theorem dX14_plain_480 : decode cX14_plain 480 = .ok (.goto 4, 3) := by decide +kernel
theorem dX14_plain_483 : decode cX14_plain 483 = .ok (.iconst 2, 1) := by decide +kernel
theorem dX14_plain_484 : decode cX14_plain 484 = .ok (.ireturn, 1) := by decide +kernel
theorem dX14_plain_485 : decode cX14_plain 485 = .ok (.iload_n 3, 1) := by decide +kernel
theorem dX14_plain_486 : decode cX14_plain 486 = .ok (.iconst 4, 1) := by decide +kernel
theorem dX14_plain_487 : decode cX14_plain 487 = .ok (.if_icmp .ne 8, 3) := by decide +kernel
theorem dX14_plain_490 : decode cX14_plain 490 = .ok (.aload_n 0, 1) := by decide +kernel
theorem dX14_plain_491 : decode cX14_plain 491 = .ok (.iload_n 1, 1) := by decide +kernel
theorem dX14_plain_492 : decode cX14_plain 492 = .ok (.invokevirtual 217, 3) := by decide +kernel
theorem dX14_plain_495 : decode cX14_plain 495 = .ok (.iload_n 3, 1) := by decide +kernel
theorem dX14_plain_496 : decode cX14_plain 496 = .ok (.iconst 4, 1) := by decide +kernel
theorem dX14_plain_497 : decode cX14_plain 497 = .ok (.if_icmp .ne 7, 3) := by decide +kernel
theorem dX14_plain_500 : decode cX14_plain 500 = .ok (.iconst 0, 1) := by decide +kernel
theorem dX14_plain_501 : decode cX14_plain 501 = .ok (.goto 4, 3) := by decide +kernel
theorem dX14_plain_504 : decode cX14_plain 504 = .ok (.iconst 2, 1) := by decide +kernel
theorem dX14_plain_505 : decode cX14_plain 505 = .ok (.ireturn, 1) := by decide +kernel
theorem dX14_numbered_0 : decode cX14_numbered 0 = .ok (.aload_n 0, 1) := by decide +kernel
theorem dX14_numbered_1 : decode cX14_numbered 1 = .ok (.getfield 11, 3) := by decide +kernel
theorem dX14_numbered_4 : decode cX14_numbered 4 = .ok (.iload_n 1, 1) := by decide +kernel
theorem dX14_numbered_5 : decode cX14_numbered 5 = .ok (.iaload, 1) := by decide +kernel
theorem dX14_numbered_6 : decode cX14_numbered 6 = .ok (.istore 4, 2) := by decide +kernel
theorem dX14_numbered_8 : decode cX14_numbered 8 = .ok (.iload_n 2, 1) := by decide +kernel
theorem dX14_numbered_9 : decode cX14_numbered 9 = .ok (.bipush 13, 2) := by decide +kernel
theorem dX14_numbered_11 : decode cX14_numbered 11 = .ok (.if_icmp .ne 59, 3) := by decide +kernel
theorem dX14_numbered_14 : decode cX14_numbered 14 = .ok (.iload 4, 2) := by decide +kernel
theorem dX14_numbered_16 : decode cX14_numbered 16 = .ok (.iconst 3, 1) := by decide +kernel
theorem dX14_numbered_17 : decode cX14_numbered 17 = .ok (.if_icmp .eq 9, 3) := by decide +kernel
theorem dX14_numbered_20 : decode cX14_numbered 20 = .ok (.iload 4, 2) := by decide +kernel
theorem dX14_numbered_22 : decode cX14_numbered 22 = .ok (.iconst 4, 1) := by decide +kernel
theorem dX14_numbered_23 : decode cX14_numbered 23 = .ok (.if_icmp .ne 29, 3) := by decide +kernel
theorem dX14_numbered_26 : decode cX14_numbered 26 = .ok (.aload_n 0, 1) := by decide +kernel
theorem dX14_numbered_27 : decode cX14_numbered 27 = .ok (.getfield 18, 3) := by decide +kernel
theorem dX14_numbered_30 : decode cX14_numbered 30 = .ok (.iload_n 1, 1) := by decide +kernel
theorem dX14_numbered_31 : decode cX14_numbered 31 = .ok (.aload_n 0, 1) := by decide +kernel
theorem dX14_numbered_32 : decode cX14_numbered 32 = .ok (.getfield 18, 3) := by decide +kernel
theorem dX14_numbered_35 : decode cX14_numbered 35 = .ok (.iload_n 1, 1) := by decide +kernel
theorem dX14_numbered_36 : decode cX14_numbered 36 = .ok (.iaload, 1) := by decide +kernel
theorem dX14_numbered_37 : decode cX14_numbered 37 = .ok (.iload_n 3, 1) := by decide +kernel
theorem dX14_numbered_38 : decode cX14_numbered 38 = .ok (.if_icmp .ge 12, 3) := by decide +kernel
theorem dX14_numbered_41 : decode cX14_numbered 41 = .ok (.aload_n 0, 1) := by decide +kernel
theorem dX14_numbered_42 : decode cX14_numbered 42 = .ok (.getfield 18, 3) := by decide +kernel
theorem dX14_numbered_45 : decode cX14_numbered 45 = .ok (.iload_n 1, 1) := by decide +kernel
theorem dX14_numbered_46 : decode cX14_numbered 46 = .ok (.iaload, 1) := by decide +kernel
theorem dX14_numbered_47 : decode cX14_numbered 47 = .ok (.goto 4, 3) := by decide +kernel
theorem dX14_numbered_50 : decode cX14_numbered 50 = .ok (.iload_n 3, 1) := by decide +kernel
theorem dX14_numbered_51 : decode cX14_numbered 51 = .ok (.iastore, 1) := by decide +kernel
theorem dX14_numbered_52 : decode cX14_numbered 52 = .ok (.iload 4, 2) := by decide +kernel
theorem dX14_numbered_54 : decode cX14_numbered 54 = .ok (.iconst 3, 1) := by decide +kernel
theorem dX14_numbered_55 : decode cX14_numbered 55 = .ok (.if_icmp .eq 9, 3) := by decide +kernel
theorem dX14_numbered_58 : decode cX14_numbered 58 = .ok (.iload 4, 2) := by decide +kernel
theorem dX14_numbered_60 : decode cX14_numbered 60 = .ok (.iconst 4, 1) := by decide +kernel
theorem dX14_numbered_61 : decode cX14_numbered 61 = .ok (.if_icmp .ne 7, 3) := by decide +kernel
theorem dX14_numbered_64 : decode cX14_numbered 64 = .ok (.iconst 0, 1) := by decide +kernel
theorem dX14_numbered_65 : decode cX14_numbered 65 = .ok (.goto 4, 3) := by decide +kernel
theorem dX14_numbered_68 : decode cX14_numbered 68 = .ok (.iconst 2, 1) := by decide +kernel
theorem dX14_numbered_69 : decode cX14_numbered 69 = .ok (.ireturn, 1) := by decide +kernel
theorem dX14_numbered_70 : decode cX14_numbered 70 = .ok (.iload_n 2, 1) := by decide +kernel
theorem dX14_numbered_71 : decode cX14_numbered 71 = .ok (.bipush 14, 2) := by decide +kernel
theorem dX14_numbered_73 : decode cX14_numbered 73 = .ok (.if_icmp .ne 73, 3) := by decide +kernel
theorem dX14_numbered_76 : decode cX14_numbered 76 = .ok (.iload 4, 2) := by decide +kernel
theorem dX14_numbered_78 : decode cX14_numbered 78 = .ok (.iconst 3, 1) := by decide +kernel
theorem dX14_numbered_79 : decode cX14_numbered 79 = .ok (.if_icmp .ne 55, 3) := by decide +kernel
theorem dX14_numbered_82 : decode cX14_numbered 82 = .ok (.aload_n 0, 1) := by decide +kernel
theorem dX14_numbered_83 : decode cX14_numbered 83 = .ok (.getfield 18, 3) := by decide +kernel
theorem dX14_numbered_86 : decode cX14_numbered 86 = .ok (.iload_n 1, 1) := by decide +kernel
theorem dX14_numbered_87 : decode cX14_numbered 87 = .ok (.iaload, 1) := by decide +kernel
theorem dX14_numbered_88 : decode cX14_numbered 88 = .ok (.iload_n 3, 1) := by decide +kernel
theorem dX14_numbered_89 : decode cX14_numbered 89 = .ok (.if_icmp .ge 45, 3) := by decide +kernel
theorem dX14_numbered_92 : decode cX14_numbered 92 = .ok (.aload_n 0, 1) := by decide +kernel
theorem dX14_numbered_93 : decode cX14_numbered 93 = .ok (.getfield 18, 3) := by decide +kernel
theorem dX14_numbered_96 : decode cX14_numbered 96 = .ok (.iload_n 1, 1) := by decide +kernel
theorem dX14_numbered_97 : decode cX14_numbered 97 = .ok (.iaload, 1) := by decide +kernel
theorem dX14_numbered_98 : decode cX14_numbered 98 = .ok (.bipush 16, 2) := by decide +kernel
theorem dX14_numbered_100 : decode cX14_numbered 100 = .ok (.if_icmp .ge 34, 3) := by decide +kernel
theorem dX14_numbered_103 : decode cX14_numbered 103 = .ok (.aload_n 0, 1) := by decide +kernel
theorem dX14_numbered_104 : decode cX14_numbered 104 = .ok (.getfield 21, 3) := by decide +kernel
theorem dX14_numbered_107 : decode cX14_numbered 107 = .ok (.bipush 16, 2) := by decide +kernel
theorem dX14_numbered_109 : decode cX14_numbered 109 = .ok (.iload_n 1, 1) := by decide +kernel
theorem dX14_numbered_110 : decode cX14_numbered 110 = .ok (.imul, 1) := by decide +kernel
theorem dX14_numbered_111 : decode cX14_numbered 111 = .ok (.aload_n 0, 1) := by decide +kernel
theorem dX14_numbered_112 : decode cX14_numbered 112 = .ok (.getfield 18, 3) := by decide +kernel
theorem dX14_numbered_115 : decode cX14_numbered 115 = .ok (.iload_n 1, 1) := by decide +kernel
theorem dX14_numbered_116 : decode cX14_numbered 116 = .ok (.iaload, 1) := by decide +kernel
theorem dX14_numbered_117 : decode cX14_numbered 117 = .ok (.iadd, 1) := by decide +kernel
theorem dX14_numbered_118 : decode cX14_numbered 118 = .ok (.bipush 32, 2) := by decide +kernel
theorem dX14_numbered_120 : decode cX14_numbered 120 = .ok (.iastore, 1) := by decide +kernel
theorem dX14_numbered_121 : decode cX14_numbered 121 = .ok (.aload_n 0, 1) := by decide +kernel
theorem dX14_numbered_122 : decode cX14_numbered 122 = .ok (.getfield 18, 3) := by decide +kernel
theorem dX14_numbered_125 : decode cX14_numbered 125 = .ok (.iload_n 1, 1) := by decide +kernel
theorem dX14_numbered_126 : decode cX14_numbered 126 = .ok (.dup2, 1) := by decide +kernel
theorem dX14_numbered_127 : decode cX14_numbered 127 = .ok (.iaload, 1) := by decide +kernel
theorem dX14_numbered_128 : decode cX14_numbered 128 = .ok (.iconst 1, 1) := by decide +kernel
theorem dX14_numbered_129 : decode cX14_numbered 129 = .ok (.iadd, 1) := by decide +kernel
theorem dX14_numbered_130 : decode cX14_numbered 130 = .ok (.iastore, 1) := by decide +kernel
theorem dX14_numbered_131 : decode cX14_numbered 131 = .ok (.goto (-55), 3) := by decide +kernel
theorem dX14_numbered_134 : decode cX14_numbered 134 = .ok (.iload 4, 2) := by decide +kernel
theorem dX14_numbered_136 : decode cX14_numbered 136 = .ok (.iconst 3, 1) := by decide +kernel
theorem dX14_numbered_137 : decode cX14_numbered 137 = .ok (.if_icmp .ne 7, 3) := by decide +kernel
theorem dX14_numbered_140 : decode cX14_numbered 140 = .ok (.iconst 0, 1) := by decide +kernel
theorem dX14_numbered_141 : decode cX14_numbered 141 = .ok (.goto 4, 3) := by decide +kernel
theorem dX14_numbered_144 : decode cX14_numbered 144 = .ok (.iconst 2, 1) := by decide +kernel
theorem dX14_numbered_145 : decode cX14_numbered 145 = .ok (.ireturn, 1) := by decide +kernel
theorem dX14_numbered_146 : decode cX14_numbered 146 = .ok (.iload_n 2, 1) := by decide +kernel
theorem dX14_numbered_147 : decode cX14_numbered 147 = .ok (.bipush 17, 2) := by decide +kernel
theorem dX14_numbered_149 : decode cX14_numbered 149 = .ok (.if_icmp .ne 16, 3) := by decide +kernel
theorem dX14_numbered_152 : decode cX14_numbered 152 = .ok (.iload 4, 2) := by decide +kernel
theorem dX14_numbered_154 : decode cX14_numbered 154 = .ok (.ifCond .ne 9, 3) := by decide +kernel
theorem dX14_numbered_157 : decode cX14_numbered 157 = .ok (.aload_n 0, 1) := by decide +kernel
theorem dX14_numbered_158 : decode cX14_numbered 158 = .ok (.iload_n 1, 1) := by decide +kernel
theorem dX14_numbered_159 : decode cX14_numbered 159 = .ok (.iload_n 3, 1) := by decide +kernel
theorem dX14_numbered_160 : decode cX14_numbered 160 = .ok (.invokevirtual 171, 3) := by decide +kernel
theorem dX14_numbered_163 : decode cX14_numbered 163 = .ok (.iconst 0, 1) := by decide +kernel
theorem dX14_numbered_164 : decode cX14_numbered 164 = .ok (.ireturn, 1) := by decide +kernel
theorem dX14_numbered_165 : decode cX14_numbered 165 = .ok (.iload 4, 2) := by decide +kernel
theorem dX14_numbered_167 : decode cX14_numbered 167 = .ok (.iconst 2, 1) := by decide +kernel
theorem dX14_numbered_168 : decode cX14_numbered 168 = .ok (.if_icmp .ne 35, 3) := by decide +kernel
theorem dX14_numbered_171 : decode cX14_numbered 171 = .ok (.aload_n 0, 1) := by decide +kernel
theorem dX14_numbered_172 : decode cX14_numbered 172 = .ok (.iload_n 1, 1) := by decide +kernel
theorem dX14_numbered_173 : decode cX14_numbered 173 = .ok (.iload_n 2, 1) := by decide +kernel
theorem dX14_numbered_174 : decode cX14_numbered 174 = .ok (.bipush 15, 2) := by decide +kernel
theorem dX14_numbered_176 : decode cX14_numbered 176 = .ok (.if_icmp .ne 15, 3) := by decide +kernel
theorem dX14_numbered_179 : decode cX14_numbered 179 = .ok (.aload_n 0, 1) := by decide +kernel
theorem dX14_numbered_180 : decode cX14_numbered 180 = .ok (.getfield 24, 3) := by decide +kernel
theorem dX14_numbered_183 : decode cX14_numbered 183 = .ok (.iload_n 1, 1) := by decide +kernel
theorem dX14_numbered_184 : decode cX14_numbered 184 = .ok (.faload, 1) := by decide +kernel
theorem dX14_numbered_185 : decode cX14_numbered 185 = .ok (.iload_n 3, 1) := by decide +kernel
theorem dX14_numbered_186 : decode cX14_numbered 186 = .ok (.i2f, 1) := by decide +kernel
theorem dX14_numbered_187 : decode cX14_numbered 187 = .ok (.fadd, 1) := by decide +kernel
theorem dX14_numbered_188 : decode cX14_numbered 188 = .ok (.goto 12, 3) := by decide +kernel
theorem dX14_numbered_191 : decode cX14_numbered 191 = .ok (.aload_n 0, 1) := by decide +kernel
theorem dX14_numbered_192 : decode cX14_numbered 192 = .ok (.getfield 24, 3) := by decide +kernel
theorem dX14_numbered_195 : decode cX14_numbered 195 = .ok (.iload_n 1, 1) := by decide +kernel
theorem dX14_numbered_196 : decode cX14_numbered 196 = .ok (.faload, 1) := by decide +kernel
theorem dX14_numbered_197 : decode cX14_numbered 197 = .ok (.iload_n 3, 1) := by decide +kernel
theorem dX14_numbered_198 : decode cX14_numbered 198 = .ok (.i2f, 1) := by decide +kernel
theorem dX14_numbered_199 : decode cX14_numbered 199 = .ok (.fmul, 1) := by decide +kernel
theorem dX14_numbered_200 : decode cX14_numbered 200 = .ok (.invokevirtual 193, 3) := by decide +kernel
theorem dX14_numbered_203 : decode cX14_numbered 203 = .ok (.iload 4, 2) := by decide +kernel
theorem dX14_numbered_205 : decode cX14_numbered 205 = .ok (.iconst 2, 1) := by decide +kernel
theorem dX14_numbered_206 : decode cX14_numbered 206 = .ok (.if_icmp .ne 7, 3) := by decide +kernel
theorem dX14_numbered_209 : decode cX14_numbered 209 = .ok (.iconst 0, 1) := by decide +kernel
theorem dX14_numbered_210 : decode cX14_numbered 210 = .ok (.goto 47, 3) := by decide +kernel
theorem dX14_numbered_213 : decode cX14_numbered 213 = .ok (.iload 4, 2) := by decide +kernel
theorem dX14_numbered_215 : decode cX14_numbered 215 = .ok (.iconst 1, 1) := by decide +kernel
theorem dX14_numbered_216 : decode cX14_numbered 216 = .ok (.if_icmp .eq 7, 3) := by decide +kernel
theorem dX14_numbered_219 : decode cX14_numbered 219 = .ok (.iconst 2, 1) := by decide +kernel
theorem dX14_numbered_220 : decode cX14_numbered 220 = .ok (.goto 37, 3) := by decide +kernel
theorem dX14_numbered_223 : decode cX14_numbered 223 = .ok (.aload_n 0, 1) := by decide +kernel
theorem dX14_numbered_224 : decode cX14_numbered 224 = .ok (.iload_n 1, 1) := by decide +kernel
theorem dX14_numbered_225 : decode cX14_numbered 225 = .ok (.iload_n 2, 1) := by decide +kernel
theorem dX14_numbered_226 : decode cX14_numbered 226 = .ok (.bipush 15, 2) := by decide +kernel
theorem dX14_numbered_228 : decode cX14_numbered 228 = .ok (.if_icmp .ne 16, 3) := by decide +kernel
theorem dX14_numbered_231 : decode cX14_numbered 231 = .ok (.aload_n 0, 1) := by decide +kernel
theorem dX14_numbered_232 : decode cX14_numbered 232 = .ok (.getfield 15, 3) := by decide +kernel
theorem dX14_numbered_235 : decode cX14_numbered 235 = .ok (.iload_n 1, 1) := by decide +kernel
theorem dX14_numbered_236 : decode cX14_numbered 236 = .ok (.iaload, 1) := by decide +kernel
theorem dX14_numbered_237 : decode cX14_numbered 237 = .ok (.i2l, 1) := by decide +kernel
theorem dX14_numbered_238 : decode cX14_numbered 238 = .ok (.iload_n 3, 1) := by decide +kernel
theorem dX14_numbered_239 : decode cX14_numbered 239 = .ok (.i2l, 1) := by decide +kernel
theorem dX14_numbered_240 : decode cX14_numbered 240 = .ok (.ladd, 1) := by decide +kernel
theorem dX14_numbered_241 : decode cX14_numbered 241 = .ok (.goto 13, 3) := by decide +kernel
theorem dX14_numbered_244 : decode cX14_numbered 244 = .ok (.aload_n 0, 1) := by decide +kernel
theorem dX14_numbered_245 : decode cX14_numbered 245 = .ok (.getfield 15, 3) := by decide +kernel
theorem dX14_numbered_248 : decode cX14_numbered 248 = .ok (.iload_n 1, 1) := by decide +kernel
theorem dX14_numbered_249 : decode cX14_numbered 249 = .ok (.iaload, 1) := by decide +kernel
theorem dX14_numbered_250 : decode cX14_numbered 250 = .ok (.i2l, 1) := by decide +kernel
theorem dX14_numbered_251 : decode cX14_numbered 251 = .ok (.iload_n 3, 1) := by decide +kernel
theorem dX14_numbered_252 : decode cX14_numbered 252 = .ok (.i2l, 1) := by decide +kernel
theorem dX14_numbered_253 : decode cX14_numbered 253 = .ok (.lmul, 1) := by decide +kernel
theorem dX14_numbered_254 : decode cX14_numbered 254 = .ok (.invokevirtual 175, 3) := by decide +kernel
theorem dX14_numbered_257 : decode cX14_numbered 257 = .ok (.ireturn, 1) := by decide +kernel
theorem dX14_filtered_0 : decode cX14_filtered 0 = .ok (.iload_n 2, 1) := by decide +kernel
theorem dX14_filtered_1 : decode cX14_filtered 1 = .ok (.bipush 13, 2) := by decide +kernel
theorem dX14_filtered_3 : decode cX14_filtered 3 = .ok (.if_icmp .ge 12, 3) := by decide +kernel
theorem dX14_filtered_6 : decode cX14_filtered 6 = .ok (.aload_n 0, 1) := by decide +kernel
theorem dX14_filtered_7 : decode cX14_filtered 7 = .ok (.iload_n 1, 1) := by decide +kernel
theorem dX14_filtered_8 : decode cX14_filtered 8 = .ok (.iload_n 2, 1) := by decide +kernel
theorem dX14_filtered_9 : decode cX14_filtered 9 = .ok (.invokevirtual 220, 3) := by decide +kernel
theorem dX14_filtered_12 : decode cX14_filtered 12 = .ok (.goto 10, 3) := by decide +kernel
theorem dX14_filtered_15 : decode cX14_filtered 15 = .ok (.aload_n 0, 1) := by decide +kernel
theorem dX14_filtered_16 : decode cX14_filtered 16 = .ok (.iload_n 1, 1) := by decide +kernel
theorem dX14_filtered_17 : decode cX14_filtered 17 = .ok (.iload_n 2, 1) := by decide +kernel
theorem dX14_filtered_18 : decode cX14_filtered 18 = .ok (.iload_n 3, 1) := by decide +kernel
theorem dX14_filtered_19 : decode cX14_filtered 19 = .ok (.invokevirtual 224, 3) := by decide +kernel
theorem dX14_filtered_22 : decode cX14_filtered 22 = .ok (.ireturn, 1) := by decide +kernel
theorem dX14_feed_0 : decode cX14_feed 0 = .ok (.iload_n 1, 1) := by decide +kernel
theorem dX14_feed_1 : decode cX14_feed 1 = .ok (.i2l, 1) := by decide +kernel
theorem dX14_feed_2 : decode cX14_feed 2 = .ok (.lconst 1, 1) := by decide +kernel
theorem dX14_feed_3 : decode cX14_feed 3 = .ok (.ldc2_w 227, 3) := by decide +kernel
theorem dX14_feed_6 : decode cX14_feed 6 = .ok (.invokestatic 155, 3) := by decide +kernel
theorem dX14_feed_9 : decode cX14_feed 9 = .ok (.ifCond .ne 6, 3) := by decide +kernel
theorem dX14_feed_12 : decode cX14_feed 12 = .ok (.bipush (-2), 2) := by decide +kernel
theorem dX14_feed_14 : decode cX14_feed 14 = .ok (.ireturn, 1) := by decide +kernel
theorem dX14_feed_15 : decode cX14_feed 15 = .ok (.aload_n 0, 1) := by decide +kernel
theorem dX14_feed_16 : decode cX14_feed 16 = .ok (.getfield 229, 3) := by decide +kernel
theorem dX14_feed_19 : decode cX14_feed 19 = .ok (.sipush 160, 3) := by decide +kernel
theorem dX14_feed_22 : decode cX14_feed 22 = .ok (.if_icmp .ne 6, 3) := by decide +kernel
theorem dX14_feed_25 : decode cX14_feed 25 = .ok (.bipush (-4), 2) := by decide +kernel
theorem dX14_feed_27 : decode cX14_feed 27 = .ok (.ireturn, 1) := by decide +kernel
theorem dX14_feed_28 : decode cX14_feed 28 = .ok (.aload_n 0, 1) := by decide +kernel
theorem dX14_feed_29 : decode cX14_feed 29 = .ok (.getfield 31, 3) := by decide +kernel
theorem dX14_feed_32 : decode cX14_feed 32 = .ok (.aload_n 0, 1) := by decide +kernel
theorem dX14_feed_33 : decode cX14_feed 33 = .ok (.getfield 229, 3) := by decide +kernel
theorem dX14_feed_36 : decode cX14_feed 36 = .ok (.iload_n 1, 1) := by decide +kernel
theorem dX14_feed_37 : decode cX14_feed 37 = .ok (.iastore, 1) := by decide +kernel
theorem dX14_feed_38 : decode cX14_feed 38 = .ok (.aload_n 0, 1) := by decide +kernel
theorem dX14_feed_39 : decode cX14_feed 39 = .ok (.dup, 1) := by decide +kernel
theorem dX14_feed_40 : decode cX14_feed 40 = .ok (.getfield 229, 3) := by decide +kernel
theorem dX14_feed_43 : decode cX14_feed 43 = .ok (.iconst 1, 1) := by decide +kernel
theorem dX14_feed_44 : decode cX14_feed 44 = .ok (.iadd, 1) := by decide +kernel
theorem dX14_feed_45 : decode cX14_feed 45 = .ok (.putfield 229, 3) := by decide +kernel
theorem dX14_feed_48 : decode cX14_feed 48 = .ok (.aload_n 0, 1) := by decide +kernel
theorem dX14_feed_49 : decode cX14_feed 49 = .ok (.getfield 229, 3) := by decide +kernel
theorem dX14_feed_52 : decode cX14_feed 52 = .ok (.ireturn, 1) := by decide +kernel
theorem dX14_clear_0 : decode cX14_clear 0 = .ok (.aload_n 0, 1) := by decide +kernel
theorem dX14_clear_1 : decode cX14_clear 1 = .ok (.getfield 229, 3) := by decide +kernel
theorem dX14_clear_4 : decode cX14_clear 4 = .ok (.istore_n 1, 1) := by decide +kernel
theorem dX14_clear_5 : decode cX14_clear 5 = .ok (.aload_n 0, 1) := by decide +kernel
theorem dX14_clear_6 : decode cX14_clear 6 = .ok (.iconst 0, 1) := by decide +kernel
theorem dX14_clear_7 : decode cX14_clear 7 = .ok (.putfield 229, 3) := by decide +kernel
theorem dX14_clear_10 : decode cX14_clear 10 = .ok (.iload_n 1, 1) := by decide +kernel
theorem dX14_clear_11 : decode cX14_clear 11 = .ok (.ireturn, 1) := by decide +kernel
theorem dX14_reads_0 : decode cX14_reads 0 = .ok (.aload_n 0, 1) := by decide +kernel
theorem dX14_reads_1 : decode cX14_reads 1 = .ok (.aload_n 1, 1) := by decide +kernel
theorem dX14_reads_2 : decode cX14_reads 2 = .ok (.putfield 40, 3) := by decide +kernel
theorem dX14_reads_5 : decode cX14_reads 5 = .ok (.aload_n 0, 1) := by decide +kernel
theorem dX14_reads_6 : decode cX14_reads 6 = .ok (.iload_n 2, 1) := by decide +kernel
theorem dX14_reads_7 : decode cX14_reads 7 = .ok (.putfield 232, 3) := by decide +kernel
theorem dX14_reads_10 : decode cX14_reads 10 = .ok (.aload_n 0, 1) := by decide +kernel
theorem dX14_reads_11 : decode cX14_reads 11 = .ok (.iload_n 3, 1) := by decide +kernel
theorem dX14_reads_12 : decode cX14_reads 12 = .ok (.putfield 235, 3) := by decide +kernel
theorem dX14_reads_15 : decode cX14_reads 15 = .ok (.aload_n 0, 1) := by decide +kernel
theorem dX14_reads_16 : decode cX14_reads 16 = .ok (.iconst 0, 1) := by decide +kernel
theorem dX14_reads_17 : decode cX14_reads 17 = .ok (.putfield 238, 3) := by decide +kernel
theorem dX14_reads_20 : decode cX14_reads 20 = .ok (.aload_n 0, 1) := by decide +kernel
theorem dX14_reads_21 : decode cX14_reads 21 = .ok (.iconst (-1), 1) := by decide +kernel
theorem dX14_reads_22 : decode cX14_reads 22 = .ok (.putfield 241, 3) := by decide +kernel
theorem dX14_reads_25 : decode cX14_reads 25 = .ok (.aload_n 0, 1) := by decide +kernel
theorem dX14_reads_26 : decode cX14_reads 26 = .ok (.iconst 0, 1) := by decide +kernel
theorem dX14_reads_27 : decode cX14_reads 27 = .ok (.putfield 244, 3) := by decide +kernel
theorem dX14_reads_30 : decode cX14_reads 30 = .ok (.return_, 1) := by decide +kernel
theorem dX14_here_0 : decode cX14_here 0 = .ok (.aload_n 0, 1) := by decide +kernel
theorem dX14_here_1 : decode cX14_here 1 = .ok (.getfield 238, 3) := by decide +kernel
theorem dX14_here_4 : decode cX14_here 4 = .ok (.aload_n 0, 1) := by decide +kernel
theorem dX14_here_5 : decode cX14_here 5 = .ok (.getfield 235, 3) := by decide +kernel
theorem dX14_here_8 : decode cX14_here 8 = .ok (.if_icmp .ge 20, 3) := by decide +kernel
theorem dX14_here_11 : decode cX14_here 11 = .ok (.aload_n 0, 1) := by decide +kernel
theorem dX14_here_12 : decode cX14_here 12 = .ok (.getfield 40, 3) := by decide +kernel
theorem dX14_here_15 : decode cX14_here 15 = .ok (.aload_n 0, 1) := by decide +kernel
theorem dX14_here_16 : decode cX14_here 16 = .ok (.getfield 232, 3) := by decide +kernel
theorem dX14_here_19 : decode cX14_here 19 = .ok (.aload_n 0, 1) := by decide +kernel
theorem dX14_here_20 : decode cX14_here 20 = .ok (.getfield 238, 3) := by decide +kernel
theorem dX14_here_23 : decode cX14_here 23 = .ok (.iadd, 1) := by decide +kernel
theorem dX14_here_24 : decode cX14_here 24 = .ok (.iaload, 1) := by decide +kernel
theorem dX14_here_25 : decode cX14_here 25 = .ok (.goto 4, 3) := by decide +kernel
theorem dX14_here_28 : decode cX14_here 28 = .ok (.iconst (-1), 1) := by decide +kernel
theorem dX14_here_29 : decode cX14_here 29 = .ok (.ireturn, 1) := by decide +kernel
theorem dX14_ahead_0 : decode cX14_ahead 0 = .ok (.aload_n 0, 1) := by decide +kernel
theorem dX14_ahead_1 : decode cX14_ahead 1 = .ok (.getfield 238, 3) := by decide +kernel
theorem dX14_ahead_4 : decode cX14_ahead 4 = .ok (.iload_n 1, 1) := by decide +kernel
theorem dX14_ahead_5 : decode cX14_ahead 5 = .ok (.iadd, 1) := by decide +kernel
theorem dX14_ahead_6 : decode cX14_ahead 6 = .ok (.aload_n 0, 1) := by decide +kernel
theorem dX14_ahead_7 : decode cX14_ahead 7 = .ok (.getfield 235, 3) := by decide +kernel
theorem dX14_ahead_10 : decode cX14_ahead 10 = .ok (.if_icmp .ge 22, 3) := by decide +kernel
theorem dX14_ahead_13 : decode cX14_ahead 13 = .ok (.aload_n 0, 1) := by decide +kernel
theorem dX14_ahead_14 : decode cX14_ahead 14 = .ok (.getfield 40, 3) := by decide +kernel
theorem dX14_ahead_17 : decode cX14_ahead 17 = .ok (.aload_n 0, 1) := by decide +kernel
theorem dX14_ahead_18 : decode cX14_ahead 18 = .ok (.getfield 232, 3) := by decide +kernel
theorem dX14_ahead_21 : decode cX14_ahead 21 = .ok (.aload_n 0, 1) := by decide +kernel
theorem dX14_ahead_22 : decode cX14_ahead 22 = .ok (.getfield 238, 3) := by decide +kernel
theorem dX14_ahead_25 : decode cX14_ahead 25 = .ok (.iadd, 1) := by decide +kernel
theorem dX14_ahead_26 : decode cX14_ahead 26 = .ok (.iload_n 1, 1) := by decide +kernel
theorem dX14_ahead_27 : decode cX14_ahead 27 = .ok (.iadd, 1) := by decide +kernel
theorem dX14_ahead_28 : decode cX14_ahead 28 = .ok (.iaload, 1) := by decide +kernel
theorem dX14_ahead_29 : decode cX14_ahead 29 = .ok (.goto 4, 3) := by decide +kernel
theorem dX14_ahead_32 : decode cX14_ahead 32 = .ok (.iconst (-1), 1) := by decide +kernel
theorem dX14_ahead_33 : decode cX14_ahead 33 = .ok (.ireturn, 1) := by decide +kernel
theorem dX14_fails_0 : decode cX14_fails 0 = .ok (.aload_n 0, 1) := by decide +kernel
theorem dX14_fails_1 : decode cX14_fails 1 = .ok (.getfield 241, 3) := by decide +kernel
theorem dX14_fails_4 : decode cX14_fails 4 = .ok (.ifCond .ge 8, 3) := by decide +kernel
theorem dX14_fails_7 : decode cX14_fails 7 = .ok (.aload_n 0, 1) := by decide +kernel
theorem dX14_fails_8 : decode cX14_fails 8 = .ok (.iload_n 1, 1) := by decide +kernel
theorem dX14_fails_9 : decode cX14_fails 9 = .ok (.putfield 241, 3) := by decide +kernel
theorem dX14_fails_12 : decode cX14_fails 12 = .ok (.iconst 0, 1) := by decide +kernel
theorem dX14_fails_13 : decode cX14_fails 13 = .ok (.ireturn, 1) := by decide +kernel
theorem dX14_isSign_0 : decode cX14_isSign 0 = .ok (.aload_n 0, 1) := by decide +kernel
theorem dX14_isSign_1 : decode cX14_isSign 1 = .ok (.invokevirtual 247, 3) := by decide +kernel
theorem dX14_isSign_4 : decode cX14_isSign 4 = .ok (.iload_n 1, 1) := by decide +kernel
theorem dX14_isSign_5 : decode cX14_isSign 5 = .ok (.if_icmp .eq 12, 3) := by decide +kernel
theorem dX14_isSign_8 : decode cX14_isSign 8 = .ok (.aload_n 0, 1) := by decide +kernel
theorem dX14_isSign_9 : decode cX14_isSign 9 = .ok (.aload_n 0, 1) := by decide +kernel
theorem dX14_isSign_10 : decode cX14_isSign 10 = .ok (.getfield 238, 3) := by decide +kernel
theorem dX14_isSign_13 : decode cX14_isSign 13 = .ok (.invokevirtual 251, 3) := by decide +kernel
theorem dX14_isSign_16 : decode cX14_isSign 16 = .ok (.ireturn, 1) := by decide +kernel
theorem dX14_isSign_17 : decode cX14_isSign 17 = .ok (.aload_n 0, 1) := by decide +kernel
theorem dX14_isSign_18 : decode cX14_isSign 18 = .ok (.dup, 1) := by decide +kernel
theorem dX14_isSign_19 : decode cX14_isSign 19 = .ok (.getfield 238, 3) := by decide +kernel
theorem dX14_isSign_22 : decode cX14_isSign 22 = .ok (.iconst 1, 1) := by decide +kernel
theorem dX14_isSign_23 : decode cX14_isSign 23 = .ok (.iadd, 1) := by decide +kernel
theorem dX14_isSign_24 : decode cX14_isSign 24 = .ok (.putfield 238, 3) := by decide +kernel
theorem dX14_isSign_27 : decode cX14_isSign 27 = .ok (.iconst 1, 1) := by decide +kernel
theorem dX14_isSign_28 : decode cX14_isSign 28 = .ok (.ireturn, 1) := by decide +kernel
theorem dX14_isOneOf_0 : decode cX14_isOneOf 0 = .ok (.aload_n 0, 1) := by decide +kernel
theorem dX14_isOneOf_1 : decode cX14_isOneOf 1 = .ok (.invokevirtual 247, 3) := by decide +kernel
theorem dX14_isOneOf_4 : decode cX14_isOneOf 4 = .ok (.i2l, 1) := by decide +kernel
theorem dX14_isOneOf_5 : decode cX14_isOneOf 5 = .ok (.iload_n 1, 1) := by decide +kernel
theorem dX14_isOneOf_6 : decode cX14_isOneOf 6 = .ok (.i2l, 1) := by decide +kernel
theorem dX14_isOneOf_7 : decode cX14_isOneOf 7 = .ok (.iload_n 2, 1) := by decide +kernel
theorem dX14_isOneOf_8 : decode cX14_isOneOf 8 = .ok (.i2l, 1) := by decide +kernel
theorem dX14_isOneOf_9 : decode cX14_isOneOf 9 = .ok (.invokestatic 155, 3) := by decide +kernel
theorem dX14_isOneOf_12 : decode cX14_isOneOf 12 = .ok (.ifCond .ne 12, 3) := by decide +kernel
theorem dX14_isOneOf_15 : decode cX14_isOneOf 15 = .ok (.aload_n 0, 1) := by decide +kernel
theorem dX14_isOneOf_16 : decode cX14_isOneOf 16 = .ok (.aload_n 0, 1) := by decide +kernel
theorem dX14_isOneOf_17 : decode cX14_isOneOf 17 = .ok (.getfield 238, 3) := by decide +kernel
theorem dX14_isOneOf_20 : decode cX14_isOneOf 20 = .ok (.invokevirtual 251, 3) := by decide +kernel
theorem dX14_isOneOf_23 : decode cX14_isOneOf 23 = .ok (.ireturn, 1) := by decide +kernel
theorem dX14_isOneOf_24 : decode cX14_isOneOf 24 = .ok (.aload_n 0, 1) := by decide +kernel
theorem dX14_isOneOf_25 : decode cX14_isOneOf 25 = .ok (.dup, 1) := by decide +kernel
theorem dX14_isOneOf_26 : decode cX14_isOneOf 26 = .ok (.getfield 238, 3) := by decide +kernel
theorem dX14_isOneOf_29 : decode cX14_isOneOf 29 = .ok (.iconst 1, 1) := by decide +kernel
theorem dX14_isOneOf_30 : decode cX14_isOneOf 30 = .ok (.iadd, 1) := by decide +kernel
theorem dX14_isOneOf_31 : decode cX14_isOneOf 31 = .ok (.putfield 238, 3) := by decide +kernel
theorem dX14_isOneOf_34 : decode cX14_isOneOf 34 = .ok (.iconst 1, 1) := by decide +kernel
theorem dX14_isOneOf_35 : decode cX14_isOneOf 35 = .ok (.ireturn, 1) := by decide +kernel
theorem dX14_isFigures_0 : decode cX14_isFigures 0 = .ok (.aload_n 0, 1) := by decide +kernel
theorem dX14_isFigures_1 : decode cX14_isFigures 1 = .ok (.invokevirtual 247, 3) := by decide +kernel
theorem dX14_isFigures_4 : decode cX14_isFigures 4 = .ok (.i2l, 1) := by decide +kernel
theorem dX14_isFigures_5 : decode cX14_isFigures 5 = .ok (.ldc2_w 159, 3) := by decide +kernel
theorem dX14_isFigures_8 : decode cX14_isFigures 8 = .ok (.ldc2_w 161, 3) := by decide +kernel
theorem dX14_isFigures_11 : decode cX14_isFigures 11 = .ok (.invokestatic 155, 3) := by decide +kernel
theorem dX14_isFigures_14 : decode cX14_isFigures 14 = .ok (.ifCond .ne 12, 3) := by decide +kernel
theorem dX14_isFigures_17 : decode cX14_isFigures 17 = .ok (.aload_n 0, 1) := by decide +kernel
theorem dX14_isFigures_18 : decode cX14_isFigures 18 = .ok (.aload_n 0, 1) := by decide +kernel
theorem dX14_isFigures_19 : decode cX14_isFigures 19 = .ok (.getfield 238, 3) := by decide +kernel
theorem dX14_isFigures_22 : decode cX14_isFigures 22 = .ok (.invokevirtual 251, 3) := by decide +kernel
theorem dX14_isFigures_25 : decode cX14_isFigures 25 = .ok (.ireturn, 1) := by decide +kernel
theorem dX14_isFigures_26 : decode cX14_isFigures 26 = .ok (.iconst 0, 1) := by decide +kernel
theorem dX14_isFigures_27 : decode cX14_isFigures 27 = .ok (.istore_n 1, 1) := by decide +kernel
theorem dX14_isFigures_28 : decode cX14_isFigures 28 = .ok (.iload_n 1, 1) := by decide +kernel
theorem dX14_isFigures_29 : decode cX14_isFigures 29 = .ok (.iconst 5, 1) := by decide +kernel
theorem dX14_isFigures_30 : decode cX14_isFigures 30 = .ok (.if_icmp .ge 36, 3) := by decide +kernel
theorem dX14_isFigures_33 : decode cX14_isFigures 33 = .ok (.aload_n 0, 1) := by decide +kernel
theorem dX14_isFigures_34 : decode cX14_isFigures 34 = .ok (.invokevirtual 247, 3) := by decide +kernel
theorem dX14_isFigures_37 : decode cX14_isFigures 37 = .ok (.i2l, 1) := by decide +kernel
theorem dX14_isFigures_38 : decode cX14_isFigures 38 = .ok (.ldc2_w 159, 3) := by decide +kernel
theorem dX14_isFigures_41 : decode cX14_isFigures 41 = .ok (.ldc2_w 161, 3) := by decide +kernel
theorem dX14_isFigures_44 : decode cX14_isFigures 44 = .ok (.invokestatic 155, 3) := by decide +kernel
theorem dX14_isFigures_47 : decode cX14_isFigures 47 = .ok (.ifCond .eq 19, 3) := by decide +kernel
theorem dX14_isFigures_50 : decode cX14_isFigures 50 = .ok (.aload_n 0, 1) := by decide +kernel
theorem dX14_isFigures_51 : decode cX14_isFigures 51 = .ok (.dup, 1) := by decide +kernel
theorem dX14_isFigures_52 : decode cX14_isFigures 52 = .ok (.getfield 238, 3) := by decide +kernel
theorem dX14_isFigures_55 : decode cX14_isFigures 55 = .ok (.iconst 1, 1) := by decide +kernel
theorem dX14_isFigures_56 : decode cX14_isFigures 56 = .ok (.iadd, 1) := by decide +kernel
theorem dX14_isFigures_57 : decode cX14_isFigures 57 = .ok (.putfield 238, 3) := by decide +kernel
theorem dX14_isFigures_60 : decode cX14_isFigures 60 = .ok (.iinc 1 1, 3) := by decide +kernel
theorem dX14_isFigures_63 : decode cX14_isFigures 63 = .ok (.goto (-35), 3) := by decide +kernel
theorem dX14_isFigures_66 : decode cX14_isFigures 66 = .ok (.iconst 1, 1) := by decide +kernel
theorem dX14_isFigures_67 : decode cX14_isFigures 67 = .ok (.ireturn, 1) := by decide +kernel
theorem dX14_nameAt_0 : decode cX14_nameAt 0 = .ok (.iconst 0, 1) := by decide +kernel
theorem dX14_nameAt_1 : decode cX14_nameAt 1 = .ok (.istore_n 3, 1) := by decide +kernel
theorem dX14_nameAt_2 : decode cX14_nameAt 2 = .ok (.iconst 1, 1) := by decide +kernel
theorem dX14_nameAt_3 : decode cX14_nameAt 3 = .ok (.istore 4, 2) := by decide +kernel
theorem dX14_nameAt_5 : decode cX14_nameAt 5 = .ok (.iload 4, 2) := by decide +kernel
theorem dX14_nameAt_7 : decode cX14_nameAt 7 = .ok (.ldc 255, 2) := by decide +kernel
theorem dX14_nameAt_9 : decode cX14_nameAt 9 = .ok (.invokevirtual 257, 3) := by decide +kernel
theorem dX14_nameAt_12 : decode cX14_nameAt 12 = .ok (.if_icmp .ge 104, 3) := by decide +kernel
theorem dX14_nameAt_15 : decode cX14_nameAt 15 = .ok (.iconst 0, 1) := by decide +kernel
theorem dX14_nameAt_16 : decode cX14_nameAt 16 = .ok (.istore 5, 2) := by decide +kernel
theorem dX14_nameAt_18 : decode cX14_nameAt 18 = .ok (.iload_n 1, 1) := by decide +kernel
theorem dX14_nameAt_19 : decode cX14_nameAt 19 = .ok (.iload 5, 2) := by decide +kernel
theorem dX14_nameAt_21 : decode cX14_nameAt 21 = .ok (.iadd, 1) := by decide +kernel
theorem dX14_nameAt_22 : decode cX14_nameAt 22 = .ok (.iload_n 2, 1) := by decide +kernel
theorem dX14_nameAt_23 : decode cX14_nameAt 23 = .ok (.if_icmp .ge 36, 3) := by decide +kernel
theorem dX14_nameAt_26 : decode cX14_nameAt 26 = .ok (.ldc 255, 2) := by decide +kernel
theorem dX14_nameAt_28 : decode cX14_nameAt 28 = .ok (.iload 4, 2) := by decide +kernel
theorem dX14_nameAt_30 : decode cX14_nameAt 30 = .ok (.iload 5, 2) := by decide +kernel
theorem dX14_nameAt_32 : decode cX14_nameAt 32 = .ok (.iadd, 1) := by decide +kernel
theorem dX14_nameAt_33 : decode cX14_nameAt 33 = .ok (.invokevirtual 262, 3) := by decide +kernel
theorem dX14_nameAt_36 : decode cX14_nameAt 36 = .ok (.aload_n 0, 1) := by decide +kernel
theorem dX14_nameAt_37 : decode cX14_nameAt 37 = .ok (.getfield 40, 3) := by decide +kernel
theorem dX14_nameAt_40 : decode cX14_nameAt 40 = .ok (.aload_n 0, 1) := by decide +kernel
theorem dX14_nameAt_41 : decode cX14_nameAt 41 = .ok (.getfield 232, 3) := by decide +kernel
theorem dX14_nameAt_44 : decode cX14_nameAt 44 = .ok (.iload_n 1, 1) := by decide +kernel
theorem dX14_nameAt_45 : decode cX14_nameAt 45 = .ok (.iadd, 1) := by decide +kernel
theorem dX14_nameAt_46 : decode cX14_nameAt 46 = .ok (.iload 5, 2) := by decide +kernel
theorem dX14_nameAt_48 : decode cX14_nameAt 48 = .ok (.iadd, 1) := by decide +kernel
theorem dX14_nameAt_49 : decode cX14_nameAt 49 = .ok (.iaload, 1) := by decide +kernel
theorem dX14_nameAt_50 : decode cX14_nameAt 50 = .ok (.if_icmp .ne 9, 3) := by decide +kernel
theorem dX14_nameAt_53 : decode cX14_nameAt 53 = .ok (.iinc 5 1, 3) := by decide +kernel
theorem dX14_nameAt_56 : decode cX14_nameAt 56 = .ok (.goto (-38), 3) := by decide +kernel
theorem dX14_nameAt_59 : decode cX14_nameAt 59 = .ok (.iload 5, 2) := by decide +kernel
theorem dX14_nameAt_61 : decode cX14_nameAt 61 = .ok (.ifCond .le 28, 3) := by decide +kernel
theorem dX14_nameAt_64 : decode cX14_nameAt 64 = .ok (.iload_n 1, 1) := by decide +kernel
theorem dX14_nameAt_65 : decode cX14_nameAt 65 = .ok (.iload 5, 2) := by decide +kernel
theorem dX14_nameAt_67 : decode cX14_nameAt 67 = .ok (.iadd, 1) := by decide +kernel
theorem dX14_nameAt_68 : decode cX14_nameAt 68 = .ok (.iload_n 2, 1) := by decide +kernel
theorem dX14_nameAt_69 : decode cX14_nameAt 69 = .ok (.if_icmp .ne 20, 3) := by decide +kernel
theorem dX14_nameAt_72 : decode cX14_nameAt 72 = .ok (.ldc 255, 2) := by decide +kernel
theorem dX14_nameAt_74 : decode cX14_nameAt 74 = .ok (.iload 4, 2) := by decide +kernel
theorem dX14_nameAt_76 : decode cX14_nameAt 76 = .ok (.iload 5, 2) := by decide +kernel
theorem dX14_nameAt_78 : decode cX14_nameAt 78 = .ok (.iadd, 1) := by decide +kernel
theorem dX14_nameAt_79 : decode cX14_nameAt 79 = .ok (.invokevirtual 262, 3) := by decide +kernel
theorem dX14_nameAt_82 : decode cX14_nameAt 82 = .ok (.bipush 32, 2) := by decide +kernel
theorem dX14_nameAt_84 : decode cX14_nameAt 84 = .ok (.if_icmp .ne 5, 3) := by decide +kernel
theorem dX14_nameAt_87 : decode cX14_nameAt 87 = .ok (.iload_n 3, 1) := by decide +kernel
theorem dX14_nameAt_88 : decode cX14_nameAt 88 = .ok (.ireturn, 1) := by decide +kernel
theorem dX14_nameAt_89 : decode cX14_nameAt 89 = .ok (.ldc 255, 2) := by decide +kernel
theorem dX14_nameAt_91 : decode cX14_nameAt 91 = .ok (.iload 4, 2) := by decide +kernel
theorem dX14_nameAt_93 : decode cX14_nameAt 93 = .ok (.invokevirtual 262, 3) := by decide +kernel
theorem dX14_nameAt_96 : decode cX14_nameAt 96 = .ok (.bipush 32, 2) := by decide +kernel
theorem dX14_nameAt_98 : decode cX14_nameAt 98 = .ok (.if_icmp .eq 9, 3) := by decide +kernel
theorem dX14_nameAt_101 : decode cX14_nameAt 101 = .ok (.iinc 4 1, 3) := by decide +kernel
theorem dX14_nameAt_104 : decode cX14_nameAt 104 = .ok (.goto (-15), 3) := by decide +kernel
theorem dX14_nameAt_107 : decode cX14_nameAt 107 = .ok (.iinc 4 1, 3) := by decide +kernel
theorem dX14_nameAt_110 : decode cX14_nameAt 110 = .ok (.iinc 3 1, 3) := by decide +kernel
theorem dX14_nameAt_113 : decode cX14_nameAt 113 = .ok (.goto (-108), 3) := by decide +kernel
theorem dX14_nameAt_116 : decode cX14_nameAt 116 = .ok (.iconst (-1), 1) := by decide +kernel
theorem dX14_nameAt_117 : decode cX14_nameAt 117 = .ok (.ireturn, 1) := by decide +kernel
theorem dX14_nameHere_0 : decode cX14_nameHere 0 = .ok (.aload_n 0, 1) := by decide +kernel
theorem dX14_nameHere_1 : decode cX14_nameHere 1 = .ok (.getfield 238, 3) := by decide +kernel
theorem dX14_nameHere_4 : decode cX14_nameHere 4 = .ok (.istore_n 1, 1) := by decide +kernel
theorem dX14_nameHere_5 : decode cX14_nameHere 5 = .ok (.aload_n 0, 1) := by decide +kernel
theorem dX14_nameHere_6 : decode cX14_nameHere 6 = .ok (.invokevirtual 247, 3) := by decide +kernel
theorem dX14_nameHere_9 : decode cX14_nameHere 9 = .ok (.i2l, 1) := by decide +kernel
theorem dX14_nameHere_10 : decode cX14_nameHere 10 = .ok (.ldc2_w 266, 3) := by decide +kernel
theorem dX14_nameHere_13 : decode cX14_nameHere 13 = .ok (.ldc2_w 268, 3) := by decide +kernel
theorem dX14_nameHere_16 : decode cX14_nameHere 16 = .ok (.invokestatic 155, 3) := by decide +kernel
theorem dX14_nameHere_19 : decode cX14_nameHere 19 = .ok (.ifCond .eq 16, 3) := by decide +kernel
theorem dX14_nameHere_22 : decode cX14_nameHere 22 = .ok (.aload_n 0, 1) := by decide +kernel
theorem dX14_nameHere_23 : decode cX14_nameHere 23 = .ok (.dup, 1) := by decide +kernel
theorem dX14_nameHere_24 : decode cX14_nameHere 24 = .ok (.getfield 238, 3) := by decide +kernel
theorem dX14_nameHere_27 : decode cX14_nameHere 27 = .ok (.iconst 1, 1) := by decide +kernel
theorem dX14_nameHere_28 : decode cX14_nameHere 28 = .ok (.iadd, 1) := by decide +kernel
theorem dX14_nameHere_29 : decode cX14_nameHere 29 = .ok (.putfield 238, 3) := by decide +kernel
theorem dX14_nameHere_32 : decode cX14_nameHere 32 = .ok (.goto (-27), 3) := by decide +kernel
theorem dX14_nameHere_35 : decode cX14_nameHere 35 = .ok (.aload_n 0, 1) := by decide +kernel
theorem dX14_nameHere_36 : decode cX14_nameHere 36 = .ok (.iload_n 1, 1) := by decide +kernel
theorem dX14_nameHere_37 : decode cX14_nameHere 37 = .ok (.aload_n 0, 1) := by decide +kernel
theorem dX14_nameHere_38 : decode cX14_nameHere 38 = .ok (.getfield 238, 3) := by decide +kernel
theorem dX14_nameHere_41 : decode cX14_nameHere 41 = .ok (.invokevirtual 270, 3) := by decide +kernel
theorem dX14_nameHere_44 : decode cX14_nameHere 44 = .ok (.ireturn, 1) := by decide +kernel
theorem dX14_isFilterRead_0 : decode cX14_isFilterRead 0 = .ok (.aload_n 0, 1) := by decide +kernel
theorem dX14_isFilterRead_1 : decode cX14_isFilterRead 1 = .ok (.getfield 238, 3) := by decide +kernel
theorem dX14_isFilterRead_4 : decode cX14_isFilterRead 4 = .ok (.istore_n 1, 1) := by decide +kernel
theorem dX14_isFilterRead_5 : decode cX14_isFilterRead 5 = .ok (.aload_n 0, 1) := by decide +kernel
theorem dX14_isFilterRead_6 : decode cX14_isFilterRead 6 = .ok (.invokevirtual 273, 3) := by decide +kernel
theorem dX14_isFilterRead_9 : decode cX14_isFilterRead 9 = .ok (.istore_n 2, 1) := by decide +kernel
theorem dX14_isFilterRead_10 : decode cX14_isFilterRead 10 = .ok (.iload_n 2, 1) := by decide +kernel
theorem dX14_isFilterRead_11 : decode cX14_isFilterRead 11 = .ok (.ifCond .ge 9, 3) := by decide +kernel
theorem dX14_isFilterRead_14 : decode cX14_isFilterRead 14 = .ok (.aload_n 0, 1) := by decide +kernel
theorem dX14_isFilterRead_15 : decode cX14_isFilterRead 15 = .ok (.iload_n 1, 1) := by decide +kernel
theorem dX14_isFilterRead_16 : decode cX14_isFilterRead 16 = .ok (.invokevirtual 251, 3) := by decide +kernel
theorem dX14_isFilterRead_19 : decode cX14_isFilterRead 19 = .ok (.ireturn, 1) := by decide +kernel
theorem dX14_isFilterRead_20 : decode cX14_isFilterRead 20 = .ok (.iload_n 2, 1) := by decide +kernel
theorem dX14_isFilterRead_21 : decode cX14_isFilterRead 21 = .ok (.bipush 13, 2) := by decide +kernel
theorem dX14_isFilterRead_23 : decode cX14_isFilterRead 23 = .ok (.if_icmp .lt 19, 3) := by decide +kernel
theorem dX14_isFilterRead_26 : decode cX14_isFilterRead 26 = .ok (.aload_n 0, 1) := by decide +kernel
theorem dX14_isFilterRead_27 : decode cX14_isFilterRead 27 = .ok (.bipush 58, 2) := by decide +kernel
theorem dX14_isFilterRead_29 : decode cX14_isFilterRead 29 = .ok (.invokevirtual 276, 3) := by decide +kernel
theorem dX14_isFilterRead_32 : decode cX14_isFilterRead 32 = .ok (.ifCond .eq 14, 3) := by decide +kernel
theorem dX14_isFilterRead_35 : decode cX14_isFilterRead 35 = .ok (.aload_n 0, 1) := by decide +kernel
theorem dX14_isFilterRead_36 : decode cX14_isFilterRead 36 = .ok (.invokevirtual 279, 3) := by decide +kernel
theorem dX14_isFilterRead_39 : decode cX14_isFilterRead 39 = .ok (.ifCond .eq 7, 3) := by decide +kernel
theorem dX14_isFilterRead_42 : decode cX14_isFilterRead 42 = .ok (.iconst 1, 1) := by decide +kernel
theorem dX14_isFilterRead_43 : decode cX14_isFilterRead 43 = .ok (.goto 4, 3) := by decide +kernel
theorem dX14_isFilterRead_46 : decode cX14_isFilterRead 46 = .ok (.iconst 0, 1) := by decide +kernel
theorem dX14_isFilterRead_47 : decode cX14_isFilterRead 47 = .ok (.ireturn, 1) := by decide +kernel
theorem dX14_isTextRead_0 : decode cX14_isTextRead 0 = .ok (.aload_n 0, 1) := by decide +kernel
theorem dX14_isTextRead_1 : decode cX14_isTextRead 1 = .ok (.dup, 1) := by decide +kernel
theorem dX14_isTextRead_2 : decode cX14_isTextRead 2 = .ok (.getfield 238, 3) := by decide +kernel
theorem dX14_isTextRead_5 : decode cX14_isTextRead 5 = .ok (.iconst 1, 1) := by decide +kernel
theorem dX14_isTextRead_6 : decode cX14_isTextRead 6 = .ok (.iadd, 1) := by decide +kernel
theorem dX14_isTextRead_7 : decode cX14_isTextRead 7 = .ok (.putfield 238, 3) := by decide +kernel
theorem dX14_isTextRead_10 : decode cX14_isTextRead 10 = .ok (.aload_n 0, 1) := by decide +kernel
theorem dX14_isTextRead_11 : decode cX14_isTextRead 11 = .ok (.getfield 238, 3) := by decide +kernel
theorem dX14_isTextRead_14 : decode cX14_isTextRead 14 = .ok (.istore_n 1, 1) := by decide +kernel
theorem dX14_isTextRead_15 : decode cX14_isTextRead 15 = .ok (.aload_n 0, 1) := by decide +kernel
theorem dX14_isTextRead_16 : decode cX14_isTextRead 16 = .ok (.getfield 238, 3) := by decide +kernel
theorem dX14_isTextRead_19 : decode cX14_isTextRead 19 = .ok (.iload_n 1, 1) := by decide +kernel
theorem dX14_isTextRead_20 : decode cX14_isTextRead 20 = .ok (.isub, 1) := by decide +kernel
theorem dX14_isTextRead_21 : decode cX14_isTextRead 21 = .ok (.bipush 16, 2) := by decide +kernel
theorem dX14_isTextRead_23 : decode cX14_isTextRead 23 = .ok (.if_icmp .ge 50, 3) := by decide +kernel
theorem dX14_isTextRead_26 : decode cX14_isTextRead 26 = .ok (.aload_n 0, 1) := by decide +kernel
theorem dX14_isTextRead_27 : decode cX14_isTextRead 27 = .ok (.invokevirtual 247, 3) := by decide +kernel
theorem dX14_isTextRead_30 : decode cX14_isTextRead 30 = .ok (.ifCond .lt 43, 3) := by decide +kernel
theorem dX14_isTextRead_33 : decode cX14_isTextRead 33 = .ok (.aload_n 0, 1) := by decide +kernel
theorem dX14_isTextRead_34 : decode cX14_isTextRead 34 = .ok (.invokevirtual 247, 3) := by decide +kernel
theorem dX14_isTextRead_37 : decode cX14_isTextRead 37 = .ok (.bipush 39, 2) := by decide +kernel
theorem dX14_isTextRead_39 : decode cX14_isTextRead 39 = .ok (.if_icmp .eq 34, 3) := by decide +kernel
theorem dX14_isTextRead_42 : decode cX14_isTextRead 42 = .ok (.aload_n 0, 1) := by decide +kernel
theorem dX14_isTextRead_43 : decode cX14_isTextRead 43 = .ok (.invokevirtual 247, 3) := by decide +kernel
theorem dX14_isTextRead_46 : decode cX14_isTextRead 46 = .ok (.bipush 123, 2) := by decide +kernel
theorem dX14_isTextRead_48 : decode cX14_isTextRead 48 = .ok (.if_icmp .eq 25, 3) := by decide +kernel
theorem dX14_isTextRead_51 : decode cX14_isTextRead 51 = .ok (.aload_n 0, 1) := by decide +kernel
theorem dX14_isTextRead_52 : decode cX14_isTextRead 52 = .ok (.invokevirtual 247, 3) := by decide +kernel
theorem dX14_isTextRead_55 : decode cX14_isTextRead 55 = .ok (.bipush 125, 2) := by decide +kernel
theorem dX14_isTextRead_57 : decode cX14_isTextRead 57 = .ok (.if_icmp .eq 16, 3) := by decide +kernel
theorem dX14_isTextRead_60 : decode cX14_isTextRead 60 = .ok (.aload_n 0, 1) := by decide +kernel
theorem dX14_isTextRead_61 : decode cX14_isTextRead 61 = .ok (.dup, 1) := by decide +kernel
theorem dX14_isTextRead_62 : decode cX14_isTextRead 62 = .ok (.getfield 238, 3) := by decide +kernel
theorem dX14_isTextRead_65 : decode cX14_isTextRead 65 = .ok (.iconst 1, 1) := by decide +kernel
theorem dX14_isTextRead_66 : decode cX14_isTextRead 66 = .ok (.iadd, 1) := by decide +kernel
theorem dX14_isTextRead_67 : decode cX14_isTextRead 67 = .ok (.putfield 238, 3) := by decide +kernel
theorem dX14_isTextRead_70 : decode cX14_isTextRead 70 = .ok (.goto (-55), 3) := by decide +kernel
theorem dX14_isTextRead_73 : decode cX14_isTextRead 73 = .ok (.aload_n 0, 1) := by decide +kernel
theorem dX14_isTextRead_74 : decode cX14_isTextRead 74 = .ok (.bipush 39, 2) := by decide +kernel
theorem dX14_isTextRead_76 : decode cX14_isTextRead 76 = .ok (.invokevirtual 276, 3) := by decide +kernel
theorem dX14_isTextRead_79 : decode cX14_isTextRead 79 = .ok (.ireturn, 1) := by decide +kernel
theorem dX14_isExpressionRead_0 : decode cX14_isExpressionRead 0 = .ok (.aload_n 0, 1) := by decide +kernel
theorem dX14_isExpressionRead_1 : decode cX14_isExpressionRead 1 = .ok (.invokevirtual 247, 3) := by decide +kernel
theorem dX14_isExpressionRead_4 : decode cX14_isExpressionRead 4 = .ok (.istore_n 1, 1) := by decide +kernel
theorem dX14_isExpressionRead_5 : decode cX14_isExpressionRead 5 = .ok (.iload_n 1, 1) := by decide +kernel
theorem dX14_isExpressionRead_6 : decode cX14_isExpressionRead 6 = .ok (.bipush 39, 2) := by decide +kernel
theorem dX14_isExpressionRead_8 : decode cX14_isExpressionRead 8 = .ok (.if_icmp .ne 12, 3) := by decide +kernel
theorem dX14_isExpressionRead_11 : decode cX14_isExpressionRead 11 = .ok (.aload_n 0, 1) := by decide +kernel
theorem dX14_isExpressionRead_12 : decode cX14_isExpressionRead 12 = .ok (.invokevirtual 283, 3) := by decide +kernel
theorem dX14_isExpressionRead_15 : decode cX14_isExpressionRead 15 = .ok (.ifCond .ne 67, 3) := by decide +kernel
theorem dX14_isExpressionRead_18 : decode cX14_isExpressionRead 18 = .ok (.iconst 0, 1) := by decide +kernel
theorem dX14_isExpressionRead_19 : decode cX14_isExpressionRead 19 = .ok (.ireturn, 1) := by decide +kernel
theorem dX14_isExpressionRead_20 : decode cX14_isExpressionRead 20 = .ok (.iload_n 1, 1) := by decide +kernel
theorem dX14_isExpressionRead_21 : decode cX14_isExpressionRead 21 = .ok (.i2l, 1) := by decide +kernel
theorem dX14_isExpressionRead_22 : decode cX14_isExpressionRead 22 = .ok (.ldc2_w 266, 3) := by decide +kernel
theorem dX14_isExpressionRead_25 : decode cX14_isExpressionRead 25 = .ok (.ldc2_w 286, 3) := by decide +kernel
theorem dX14_isExpressionRead_28 : decode cX14_isExpressionRead 28 = .ok (.invokestatic 155, 3) := by decide +kernel
theorem dX14_isExpressionRead_31 : decode cX14_isExpressionRead 31 = .ok (.ifCond .ne 9, 3) := by decide +kernel
theorem dX14_isExpressionRead_34 : decode cX14_isExpressionRead 34 = .ok (.iload_n 1, 1) := by decide +kernel
theorem dX14_isExpressionRead_35 : decode cX14_isExpressionRead 35 = .ok (.bipush 35, 2) := by decide +kernel
theorem dX14_isExpressionRead_37 : decode cX14_isExpressionRead 37 = .ok (.if_icmp .ne 16, 3) := by decide +kernel
theorem dX14_isExpressionRead_40 : decode cX14_isExpressionRead 40 = .ok (.aload_n 0, 1) := by decide +kernel
theorem dX14_isExpressionRead_41 : decode cX14_isExpressionRead 41 = .ok (.dup, 1) := by decide +kernel
theorem dX14_isExpressionRead_42 : decode cX14_isExpressionRead 42 = .ok (.getfield 238, 3) := by decide +kernel
theorem dX14_isExpressionRead_45 : decode cX14_isExpressionRead 45 = .ok (.iconst 1, 1) := by decide +kernel
theorem dX14_isExpressionRead_46 : decode cX14_isExpressionRead 46 = .ok (.iadd, 1) := by decide +kernel
theorem dX14_isExpressionRead_47 : decode cX14_isExpressionRead 47 = .ok (.putfield 238, 3) := by decide +kernel
theorem dX14_isExpressionRead_50 : decode cX14_isExpressionRead 50 = .ok (.goto 32, 3) := by decide +kernel
theorem dX14_isExpressionRead_53 : decode cX14_isExpressionRead 53 = .ok (.aload_n 0, 1) := by decide +kernel
theorem dX14_isExpressionRead_54 : decode cX14_isExpressionRead 54 = .ok (.dup, 1) := by decide +kernel
theorem dX14_isExpressionRead_55 : decode cX14_isExpressionRead 55 = .ok (.getfield 238, 3) := by decide +kernel
theorem dX14_isExpressionRead_58 : decode cX14_isExpressionRead 58 = .ok (.iload_n 1, 1) := by decide +kernel
theorem dX14_isExpressionRead_59 : decode cX14_isExpressionRead 59 = .ok (.bipush 45, 2) := by decide +kernel
theorem dX14_isExpressionRead_61 : decode cX14_isExpressionRead 61 = .ok (.if_icmp .ne 7, 3) := by decide +kernel
theorem dX14_isExpressionRead_64 : decode cX14_isExpressionRead 64 = .ok (.iconst 1, 1) := by decide +kernel
theorem dX14_isExpressionRead_65 : decode cX14_isExpressionRead 65 = .ok (.goto 4, 3) := by decide +kernel
theorem dX14_isExpressionRead_68 : decode cX14_isExpressionRead 68 = .ok (.iconst 0, 1) := by decide +kernel
theorem dX14_isExpressionRead_69 : decode cX14_isExpressionRead 69 = .ok (.iadd, 1) := by decide +kernel
theorem dX14_isExpressionRead_70 : decode cX14_isExpressionRead 70 = .ok (.putfield 238, 3) := by decide +kernel
theorem dX14_isExpressionRead_73 : decode cX14_isExpressionRead 73 = .ok (.aload_n 0, 1) := by decide +kernel
theorem dX14_isExpressionRead_74 : decode cX14_isExpressionRead 74 = .ok (.invokevirtual 279, 3) := by decide +kernel
theorem dX14_isExpressionRead_77 : decode cX14_isExpressionRead 77 = .ok (.ifCond .ne 5, 3) := by decide +kernel
theorem dX14_isExpressionRead_80 : decode cX14_isExpressionRead 80 = .ok (.iconst 0, 1) := by decide +kernel
theorem dX14_isExpressionRead_81 : decode cX14_isExpressionRead 81 = .ok (.ireturn, 1) := by decide +kernel
theorem dX14_isExpressionRead_82 : decode cX14_isExpressionRead 82 = .ok (.aload_n 0, 1) := by decide +kernel
theorem dX14_isExpressionRead_83 : decode cX14_isExpressionRead 83 = .ok (.invokevirtual 247, 3) := by decide +kernel
theorem dX14_isExpressionRead_86 : decode cX14_isExpressionRead 86 = .ok (.bipush 124, 2) := by decide +kernel
theorem dX14_isExpressionRead_88 : decode cX14_isExpressionRead 88 = .ok (.if_icmp .ne 22, 3) := by decide +kernel
theorem dX14_isExpressionRead_91 : decode cX14_isExpressionRead 91 = .ok (.aload_n 0, 1) := by decide +kernel
theorem dX14_isExpressionRead_92 : decode cX14_isExpressionRead 92 = .ok (.dup, 1) := by decide +kernel
theorem dX14_isExpressionRead_93 : decode cX14_isExpressionRead 93 = .ok (.getfield 238, 3) := by decide +kernel
theorem dX14_isExpressionRead_96 : decode cX14_isExpressionRead 96 = .ok (.iconst 1, 1) := by decide +kernel
theorem dX14_isExpressionRead_97 : decode cX14_isExpressionRead 97 = .ok (.iadd, 1) := by decide +kernel
theorem dX14_isExpressionRead_98 : decode cX14_isExpressionRead 98 = .ok (.putfield 238, 3) := by decide +kernel
theorem dX14_isExpressionRead_101 : decode cX14_isExpressionRead 101 = .ok (.aload_n 0, 1) := by decide +kernel
theorem dX14_isExpressionRead_102 : decode cX14_isExpressionRead 102 = .ok (.invokevirtual 288, 3) := by decide +kernel
theorem dX14_isExpressionRead_105 : decode cX14_isExpressionRead 105 = .ok (.ifCond .ne (-23), 3) := by decide +kernel
theorem dX14_isExpressionRead_108 : decode cX14_isExpressionRead 108 = .ok (.iconst 0, 1) := by decide +kernel
theorem dX14_isExpressionRead_109 : decode cX14_isExpressionRead 109 = .ok (.ireturn, 1) := by decide +kernel
theorem dX14_isExpressionRead_110 : decode cX14_isExpressionRead 110 = .ok (.iconst 1, 1) := by decide +kernel
theorem dX14_isExpressionRead_111 : decode cX14_isExpressionRead 111 = .ok (.ireturn, 1) := by decide +kernel
theorem dX14_isConditionRead_0 : decode cX14_isConditionRead 0 = .ok (.aload_n 0, 1) := by decide +kernel
theorem dX14_isConditionRead_1 : decode cX14_isConditionRead 1 = .ok (.invokevirtual 247, 3) := by decide +kernel
theorem dX14_isConditionRead_4 : decode cX14_isConditionRead 4 = .ok (.bipush 33, 2) := by decide +kernel
theorem dX14_isConditionRead_6 : decode cX14_isConditionRead 6 = .ok (.if_icmp .ne 18, 3) := by decide +kernel
theorem dX14_isConditionRead_9 : decode cX14_isConditionRead 9 = .ok (.aload_n 0, 1) := by decide +kernel
theorem dX14_isConditionRead_10 : decode cX14_isConditionRead 10 = .ok (.dup, 1) := by decide +kernel
theorem dX14_isConditionRead_11 : decode cX14_isConditionRead 11 = .ok (.getfield 238, 3) := by decide +kernel
theorem dX14_isConditionRead_14 : decode cX14_isConditionRead 14 = .ok (.iconst 1, 1) := by decide +kernel
theorem dX14_isConditionRead_15 : decode cX14_isConditionRead 15 = .ok (.iadd, 1) := by decide +kernel
theorem dX14_isConditionRead_16 : decode cX14_isConditionRead 16 = .ok (.putfield 238, 3) := by decide +kernel
theorem dX14_isConditionRead_19 : decode cX14_isConditionRead 19 = .ok (.aload_n 0, 1) := by decide +kernel
theorem dX14_isConditionRead_20 : decode cX14_isConditionRead 20 = .ok (.invokevirtual 291, 3) := by decide +kernel
theorem dX14_isConditionRead_23 : decode cX14_isConditionRead 23 = .ok (.ireturn, 1) := by decide +kernel
theorem dX14_isConditionRead_24 : decode cX14_isConditionRead 24 = .ok (.aload_n 0, 1) := by decide +kernel
theorem dX14_isConditionRead_25 : decode cX14_isConditionRead 25 = .ok (.invokevirtual 291, 3) := by decide +kernel
theorem dX14_isConditionRead_28 : decode cX14_isConditionRead 28 = .ok (.ifCond .ne 5, 3) := by decide +kernel
theorem dX14_isConditionRead_31 : decode cX14_isConditionRead 31 = .ok (.iconst 0, 1) := by decide +kernel
theorem dX14_isConditionRead_32 : decode cX14_isConditionRead 32 = .ok (.ireturn, 1) := by decide +kernel
theorem dX14_isConditionRead_33 : decode cX14_isConditionRead 33 = .ok (.aload_n 0, 1) := by decide +kernel
theorem dX14_isConditionRead_34 : decode cX14_isConditionRead 34 = .ok (.invokevirtual 247, 3) := by decide +kernel
theorem dX14_isConditionRead_37 : decode cX14_isConditionRead 37 = .ok (.bipush 60, 2) := by decide +kernel
theorem dX14_isConditionRead_39 : decode cX14_isConditionRead 39 = .ok (.if_icmp .eq 14, 3) := by decide +kernel
theorem dX14_isConditionRead_42 : decode cX14_isConditionRead 42 = .ok (.aload_n 0, 1) := by decide +kernel
theorem dX14_isConditionRead_43 : decode cX14_isConditionRead 43 = .ok (.invokevirtual 247, 3) := by decide +kernel
theorem dX14_isConditionRead_46 : decode cX14_isConditionRead 46 = .ok (.bipush 61, 2) := by decide +kernel
theorem dX14_isConditionRead_48 : decode cX14_isConditionRead 48 = .ok (.if_icmp .eq 5, 3) := by decide +kernel
theorem dX14_isConditionRead_51 : decode cX14_isConditionRead 51 = .ok (.iconst 1, 1) := by decide +kernel
theorem dX14_isConditionRead_52 : decode cX14_isConditionRead 52 = .ok (.ireturn, 1) := by decide +kernel
theorem dX14_isConditionRead_53 : decode cX14_isConditionRead 53 = .ok (.aload_n 0, 1) := by decide +kernel
theorem dX14_isConditionRead_54 : decode cX14_isConditionRead 54 = .ok (.dup, 1) := by decide +kernel
theorem dX14_isConditionRead_55 : decode cX14_isConditionRead 55 = .ok (.getfield 238, 3) := by decide +kernel
theorem dX14_isConditionRead_58 : decode cX14_isConditionRead 58 = .ok (.iconst 1, 1) := by decide +kernel
theorem dX14_isConditionRead_59 : decode cX14_isConditionRead 59 = .ok (.iadd, 1) := by decide +kernel
theorem dX14_isConditionRead_60 : decode cX14_isConditionRead 60 = .ok (.putfield 238, 3) := by decide +kernel
theorem dX14_isConditionRead_63 : decode cX14_isConditionRead 63 = .ok (.aload_n 0, 1) := by decide +kernel
theorem dX14_isConditionRead_64 : decode cX14_isConditionRead 64 = .ok (.invokevirtual 291, 3) := by decide +kernel
theorem dX14_isConditionRead_67 : decode cX14_isConditionRead 67 = .ok (.ireturn, 1) := by decide +kernel
theorem dX14_isBodyRead_0 : decode cX14_isBodyRead 0 = .ok (.aload_n 0, 1) := by decide +kernel
theorem dX14_isBodyRead_1 : decode cX14_isBodyRead 1 = .ok (.bipush 125, 2) := by decide +kernel
theorem dX14_isBodyRead_3 : decode cX14_isBodyRead 3 = .ok (.invokevirtual 276, 3) := by decide +kernel
theorem dX14_isBodyRead_6 : decode cX14_isBodyRead 6 = .ok (.ifCond .eq 14, 3) := by decide +kernel
theorem dX14_isBodyRead_9 : decode cX14_isBodyRead 9 = .ok (.aload_n 0, 1) := by decide +kernel
theorem dX14_isBodyRead_10 : decode cX14_isBodyRead 10 = .ok (.iload_n 1, 1) := by decide +kernel
theorem dX14_isBodyRead_11 : decode cX14_isBodyRead 11 = .ok (.iconst 1, 1) := by decide +kernel
theorem dX14_isBodyRead_12 : decode cX14_isBodyRead 12 = .ok (.iadd, 1) := by decide +kernel
theorem dX14_isBodyRead_13 : decode cX14_isBodyRead 13 = .ok (.iload_n 2, 1) := by decide +kernel
theorem dX14_isBodyRead_14 : decode cX14_isBodyRead 14 = .ok (.invokevirtual 294, 3) := by decide +kernel
theorem dX14_isBodyRead_17 : decode cX14_isBodyRead 17 = .ok (.ifCond .ne 5, 3) := by decide +kernel
theorem dX14_isBodyRead_20 : decode cX14_isBodyRead 20 = .ok (.iconst 0, 1) := by decide +kernel
theorem dX14_isBodyRead_21 : decode cX14_isBodyRead 21 = .ok (.ireturn, 1) := by decide +kernel
theorem dX14_isBodyRead_22 : decode cX14_isBodyRead 22 = .ok (.iload_n 3, 1) := by decide +kernel
theorem dX14_isBodyRead_23 : decode cX14_isBodyRead 23 = .ok (.ifCond .eq 54, 3) := by decide +kernel
theorem dX14_isBodyRead_26 : decode cX14_isBodyRead 26 = .ok (.aload_n 0, 1) := by decide +kernel
theorem dX14_isBodyRead_27 : decode cX14_isBodyRead 27 = .ok (.invokevirtual 247, 3) := by decide +kernel
theorem dX14_isBodyRead_30 : decode cX14_isBodyRead 30 = .ok (.bipush 123, 2) := by decide +kernel
theorem dX14_isBodyRead_32 : decode cX14_isBodyRead 32 = .ok (.if_icmp .ne 45, 3) := by decide +kernel
theorem dX14_isBodyRead_35 : decode cX14_isBodyRead 35 = .ok (.aload_n 0, 1) := by decide +kernel
theorem dX14_isBodyRead_36 : decode cX14_isBodyRead 36 = .ok (.iconst 1, 1) := by decide +kernel
theorem dX14_isBodyRead_37 : decode cX14_isBodyRead 37 = .ok (.invokevirtual 298, 3) := by decide +kernel
theorem dX14_isBodyRead_40 : decode cX14_isBodyRead 40 = .ok (.bipush 58, 2) := by decide +kernel
theorem dX14_isBodyRead_42 : decode cX14_isBodyRead 42 = .ok (.if_icmp .ne 35, 3) := by decide +kernel
theorem dX14_isBodyRead_45 : decode cX14_isBodyRead 45 = .ok (.aload_n 0, 1) := by decide +kernel
theorem dX14_isBodyRead_46 : decode cX14_isBodyRead 46 = .ok (.dup, 1) := by decide +kernel
theorem dX14_isBodyRead_47 : decode cX14_isBodyRead 47 = .ok (.getfield 238, 3) := by decide +kernel
theorem dX14_isBodyRead_50 : decode cX14_isBodyRead 50 = .ok (.iconst 2, 1) := by decide +kernel
theorem dX14_isBodyRead_51 : decode cX14_isBodyRead 51 = .ok (.iadd, 1) := by decide +kernel
theorem dX14_isBodyRead_52 : decode cX14_isBodyRead 52 = .ok (.putfield 238, 3) := by decide +kernel
theorem dX14_isBodyRead_55 : decode cX14_isBodyRead 55 = .ok (.aload_n 0, 1) := by decide +kernel
theorem dX14_isBodyRead_56 : decode cX14_isBodyRead 56 = .ok (.bipush 125, 2) := by decide +kernel
theorem dX14_isBodyRead_58 : decode cX14_isBodyRead 58 = .ok (.invokevirtual 276, 3) := by decide +kernel
theorem dX14_isBodyRead_61 : decode cX14_isBodyRead 61 = .ok (.ifCond .eq 14, 3) := by decide +kernel
theorem dX14_isBodyRead_64 : decode cX14_isBodyRead 64 = .ok (.aload_n 0, 1) := by decide +kernel
theorem dX14_isBodyRead_65 : decode cX14_isBodyRead 65 = .ok (.iload_n 1, 1) := by decide +kernel
theorem dX14_isBodyRead_66 : decode cX14_isBodyRead 66 = .ok (.iconst 1, 1) := by decide +kernel
theorem dX14_isBodyRead_67 : decode cX14_isBodyRead 67 = .ok (.iadd, 1) := by decide +kernel
theorem dX14_isBodyRead_68 : decode cX14_isBodyRead 68 = .ok (.iload_n 2, 1) := by decide +kernel
theorem dX14_isBodyRead_69 : decode cX14_isBodyRead 69 = .ok (.invokevirtual 294, 3) := by decide +kernel
theorem dX14_isBodyRead_72 : decode cX14_isBodyRead 72 = .ok (.ifCond .ne 5, 3) := by decide +kernel
theorem dX14_isBodyRead_75 : decode cX14_isBodyRead 75 = .ok (.iconst 0, 1) := by decide +kernel
theorem dX14_isBodyRead_76 : decode cX14_isBodyRead 76 = .ok (.ireturn, 1) := by decide +kernel
theorem dX14_isBodyRead_77 : decode cX14_isBodyRead 77 = .ok (.aload_n 0, 1) := by decide +kernel
theorem dX14_isBodyRead_78 : decode cX14_isBodyRead 78 = .ok (.getfield 238, 3) := by decide +kernel
theorem dX14_isBodyRead_81 : decode cX14_isBodyRead 81 = .ok (.aload_n 0, 1) := by decide +kernel
theorem dX14_isBodyRead_82 : decode cX14_isBodyRead 82 = .ok (.getfield 235, 3) := by decide +kernel
theorem dX14_isBodyRead_85 : decode cX14_isBodyRead 85 = .ok (.if_icmp .ne 12, 3) := by decide +kernel
theorem dX14_isBodyRead_88 : decode cX14_isBodyRead 88 = .ok (.aload_n 0, 1) := by decide +kernel
theorem dX14_isBodyRead_89 : decode cX14_isBodyRead 89 = .ok (.aload_n 0, 1) := by decide +kernel
theorem dX14_isBodyRead_90 : decode cX14_isBodyRead 90 = .ok (.getfield 235, 3) := by decide +kernel
theorem dX14_isBodyRead_93 : decode cX14_isBodyRead 93 = .ok (.invokevirtual 251, 3) := by decide +kernel
theorem dX14_isBodyRead_96 : decode cX14_isBodyRead 96 = .ok (.ireturn, 1) := by decide +kernel
theorem dX14_isBodyRead_97 : decode cX14_isBodyRead 97 = .ok (.aload_n 0, 1) := by decide +kernel
theorem dX14_isBodyRead_98 : decode cX14_isBodyRead 98 = .ok (.dup, 1) := by decide +kernel
theorem dX14_isBodyRead_99 : decode cX14_isBodyRead 99 = .ok (.getfield 238, 3) := by decide +kernel
theorem dX14_isBodyRead_102 : decode cX14_isBodyRead 102 = .ok (.iconst 1, 1) := by decide +kernel
theorem dX14_isBodyRead_103 : decode cX14_isBodyRead 103 = .ok (.iadd, 1) := by decide +kernel
theorem dX14_isBodyRead_104 : decode cX14_isBodyRead 104 = .ok (.putfield 238, 3) := by decide +kernel
theorem dX14_isBodyRead_107 : decode cX14_isBodyRead 107 = .ok (.aload_n 0, 1) := by decide +kernel
theorem dX14_isBodyRead_108 : decode cX14_isBodyRead 108 = .ok (.bipush 47, 2) := by decide +kernel
theorem dX14_isBodyRead_110 : decode cX14_isBodyRead 110 = .ok (.invokevirtual 276, 3) := by decide +kernel
theorem dX14_isBodyRead_113 : decode cX14_isBodyRead 113 = .ok (.ifCond .eq 16, 3) := by decide +kernel
theorem dX14_isBodyRead_116 : decode cX14_isBodyRead 116 = .ok (.aload_n 0, 1) := by decide +kernel
theorem dX14_isBodyRead_117 : decode cX14_isBodyRead 117 = .ok (.bipush 125, 2) := by decide +kernel
theorem dX14_isBodyRead_119 : decode cX14_isBodyRead 119 = .ok (.invokevirtual 276, 3) := by decide +kernel
theorem dX14_isBodyRead_122 : decode cX14_isBodyRead 122 = .ok (.ifCond .eq 7, 3) := by decide +kernel
theorem dX14_isBodyRead_125 : decode cX14_isBodyRead 125 = .ok (.iconst 1, 1) := by decide +kernel
theorem dX14_isBodyRead_126 : decode cX14_isBodyRead 126 = .ok (.goto 4, 3) := by decide +kernel
theorem dX14_isBodyRead_129 : decode cX14_isBodyRead 129 = .ok (.iconst 0, 1) := by decide +kernel
theorem dX14_isBodyRead_130 : decode cX14_isBodyRead 130 = .ok (.ireturn, 1) := by decide +kernel
theorem dX14_isPieceRead_0 : decode cX14_isPieceRead 0 = .ok (.aload_n 0, 1) := by decide +kernel
theorem dX14_isPieceRead_1 : decode cX14_isPieceRead 1 = .ok (.getfield 238, 3) := by decide +kernel
theorem dX14_isPieceRead_4 : decode cX14_isPieceRead 4 = .ok (.ifCond .ne 7, 3) := by decide +kernel
theorem dX14_isPieceRead_7 : decode cX14_isPieceRead 7 = .ok (.iconst 1, 1) := by decide +kernel
theorem dX14_isPieceRead_8 : decode cX14_isPieceRead 8 = .ok (.goto 4, 3) := by decide +kernel
theorem dX14_isPieceRead_11 : decode cX14_isPieceRead 11 = .ok (.iconst 0, 1) := by decide +kernel
theorem dX14_isPieceRead_12 : decode cX14_isPieceRead 12 = .ok (.istore_n 3, 1) := by decide +kernel
theorem dX14_isPieceRead_13 : decode cX14_isPieceRead 13 = .ok (.aload_n 0, 1) := by decide +kernel
theorem dX14_isPieceRead_14 : decode cX14_isPieceRead 14 = .ok (.dup, 1) := by decide +kernel
theorem dX14_isPieceRead_15 : decode cX14_isPieceRead 15 = .ok (.getfield 238, 3) := by decide +kernel
theorem dX14_isPieceRead_18 : decode cX14_isPieceRead 18 = .ok (.iconst 1, 1) := by decide +kernel
theorem dX14_isPieceRead_19 : decode cX14_isPieceRead 19 = .ok (.iadd, 1) := by decide +kernel
theorem dX14_isPieceRead_20 : decode cX14_isPieceRead 20 = .ok (.putfield 238, 3) := by decide +kernel
theorem dX14_isPieceRead_23 : decode cX14_isPieceRead 23 = .ok (.aload_n 0, 1) := by decide +kernel
theorem dX14_isPieceRead_24 : decode cX14_isPieceRead 24 = .ok (.dup, 1) := by decide +kernel
theorem dX14_isPieceRead_25 : decode cX14_isPieceRead 25 = .ok (.getfield 244, 3) := by decide +kernel
theorem dX14_isPieceRead_28 : decode cX14_isPieceRead 28 = .ok (.iconst 1, 1) := by decide +kernel
theorem dX14_isPieceRead_29 : decode cX14_isPieceRead 29 = .ok (.iadd, 1) := by decide +kernel
theorem dX14_isPieceRead_30 : decode cX14_isPieceRead 30 = .ok (.putfield 244, 3) := by decide +kernel
theorem dX14_isPieceRead_33 : decode cX14_isPieceRead 33 = .ok (.aload_n 0, 1) := by decide +kernel
theorem dX14_isPieceRead_34 : decode cX14_isPieceRead 34 = .ok (.invokevirtual 247, 3) := by decide +kernel
theorem dX14_isPieceRead_37 : decode cX14_isPieceRead 37 = .ok (.istore 4, 2) := by decide +kernel
theorem dX14_isPieceRead_39 : decode cX14_isPieceRead 39 = .ok (.iload 4, 2) := by decide +kernel
theorem dX14_isPieceRead_41 : decode cX14_isPieceRead 41 = .ok (.bipush 63, 2) := by decide +kernel
theorem dX14_isPieceRead_43 : decode cX14_isPieceRead 43 = .ok (.if_icmp .eq 17, 3) := by decide +kernel
theorem dX14_isPieceRead_46 : decode cX14_isPieceRead 46 = .ok (.iload 4, 2) := by decide +kernel
theorem dX14_isPieceRead_48 : decode cX14_isPieceRead 48 = .ok (.bipush 42, 2) := by decide +kernel
theorem dX14_isPieceRead_50 : decode cX14_isPieceRead 50 = .ok (.if_icmp .eq 10, 3) := by decide +kernel
theorem dX14_isPieceRead_53 : decode cX14_isPieceRead 53 = .ok (.iload 4, 2) := by decide +kernel
theorem dX14_isPieceRead_55 : decode cX14_isPieceRead 55 = .ok (.bipush 61, 2) := by decide +kernel
theorem dX14_isPieceRead_57 : decode cX14_isPieceRead 57 = .ok (.if_icmp .ne 134, 3) := by decide +kernel
theorem dX14_isPieceRead_60 : decode cX14_isPieceRead 60 = .ok (.iload_n 1, 1) := by decide +kernel
theorem dX14_isPieceRead_61 : decode cX14_isPieceRead 61 = .ok (.iconst 3, 1) := by decide +kernel
theorem dX14_isPieceRead_62 : decode cX14_isPieceRead 62 = .ok (.if_icmp .le 12, 3) := by decide +kernel
theorem dX14_isPieceRead_65 : decode cX14_isPieceRead 65 = .ok (.aload_n 0, 1) := by decide +kernel
theorem dX14_isPieceRead_66 : decode cX14_isPieceRead 66 = .ok (.aload_n 0, 1) := by decide +kernel
theorem dX14_isPieceRead_67 : decode cX14_isPieceRead 67 = .ok (.getfield 238, 3) := by decide +kernel
theorem dX14_isPieceRead_70 : decode cX14_isPieceRead 70 = .ok (.invokevirtual 251, 3) := by decide +kernel
theorem dX14_isPieceRead_73 : decode cX14_isPieceRead 73 = .ok (.ireturn, 1) := by decide +kernel
theorem dX14_isPieceRead_74 : decode cX14_isPieceRead 74 = .ok (.aload_n 0, 1) := by decide +kernel
theorem dX14_isPieceRead_75 : decode cX14_isPieceRead 75 = .ok (.dup, 1) := by decide +kernel
theorem dX14_isPieceRead_76 : decode cX14_isPieceRead 76 = .ok (.getfield 238, 3) := by decide +kernel
theorem dX14_isPieceRead_79 : decode cX14_isPieceRead 79 = .ok (.iconst 1, 1) := by decide +kernel
theorem dX14_isPieceRead_80 : decode cX14_isPieceRead 80 = .ok (.iadd, 1) := by decide +kernel
theorem dX14_isPieceRead_81 : decode cX14_isPieceRead 81 = .ok (.putfield 238, 3) := by decide +kernel
theorem dX14_isPieceRead_84 : decode cX14_isPieceRead 84 = .ok (.iload 4, 2) := by decide +kernel
theorem dX14_isPieceRead_86 : decode cX14_isPieceRead 86 = .ok (.bipush 63, 2) := by decide +kernel
theorem dX14_isPieceRead_88 : decode cX14_isPieceRead 88 = .ok (.if_icmp .ne 26, 3) := by decide +kernel
theorem dX14_isPieceRead_91 : decode cX14_isPieceRead 91 = .ok (.aload_n 0, 1) := by decide +kernel
theorem dX14_isPieceRead_92 : decode cX14_isPieceRead 92 = .ok (.invokevirtual 301, 3) := by decide +kernel
theorem dX14_isPieceRead_95 : decode cX14_isPieceRead 95 = .ok (.ifCond .eq 17, 3) := by decide +kernel
theorem dX14_isPieceRead_98 : decode cX14_isPieceRead 98 = .ok (.aload_n 0, 1) := by decide +kernel
theorem dX14_isPieceRead_99 : decode cX14_isPieceRead 99 = .ok (.iload_n 1, 1) := by decide +kernel
theorem dX14_isPieceRead_100 : decode cX14_isPieceRead 100 = .ok (.iload_n 2, 1) := by decide +kernel
theorem dX14_isPieceRead_101 : decode cX14_isPieceRead 101 = .ok (.iconst 1, 1) := by decide +kernel
theorem dX14_isPieceRead_102 : decode cX14_isPieceRead 102 = .ok (.invokevirtual 304, 3) := by decide +kernel
theorem dX14_isPieceRead_105 : decode cX14_isPieceRead 105 = .ok (.ifCond .eq 7, 3) := by decide +kernel
theorem dX14_isPieceRead_108 : decode cX14_isPieceRead 108 = .ok (.iconst 1, 1) := by decide +kernel
theorem dX14_isPieceRead_109 : decode cX14_isPieceRead 109 = .ok (.goto 4, 3) := by decide +kernel
theorem dX14_isPieceRead_112 : decode cX14_isPieceRead 112 = .ok (.iconst 0, 1) := by decide +kernel
theorem dX14_isPieceRead_113 : decode cX14_isPieceRead 113 = .ok (.ireturn, 1) := by decide +kernel
theorem dX14_isPieceRead_114 : decode cX14_isPieceRead 114 = .ok (.iload 4, 2) := by decide +kernel
theorem dX14_isPieceRead_116 : decode cX14_isPieceRead 116 = .ok (.bipush 61, 2) := by decide +kernel
theorem dX14_isPieceRead_118 : decode cX14_isPieceRead 118 = .ok (.if_icmp .ne 30, 3) := by decide +kernel
theorem dX14_isPieceRead_121 : decode cX14_isPieceRead 121 = .ok (.aload_n 0, 1) := by decide +kernel
theorem dX14_isPieceRead_122 : decode cX14_isPieceRead 122 = .ok (.bipush 65, 2) := by decide +kernel
theorem dX14_isPieceRead_124 : decode cX14_isPieceRead 124 = .ok (.bipush 68, 2) := by decide +kernel
theorem dX14_isPieceRead_126 : decode cX14_isPieceRead 126 = .ok (.invokevirtual 308, 3) := by decide +kernel
theorem dX14_isPieceRead_129 : decode cX14_isPieceRead 129 = .ok (.ifCond .eq 17, 3) := by decide +kernel
theorem dX14_isPieceRead_132 : decode cX14_isPieceRead 132 = .ok (.aload_n 0, 1) := by decide +kernel
theorem dX14_isPieceRead_133 : decode cX14_isPieceRead 133 = .ok (.iload_n 1, 1) := by decide +kernel
theorem dX14_isPieceRead_134 : decode cX14_isPieceRead 134 = .ok (.iconst 1, 1) := by decide +kernel
theorem dX14_isPieceRead_135 : decode cX14_isPieceRead 135 = .ok (.iconst 0, 1) := by decide +kernel
theorem dX14_isPieceRead_136 : decode cX14_isPieceRead 136 = .ok (.invokevirtual 304, 3) := by decide +kernel
theorem dX14_isPieceRead_139 : decode cX14_isPieceRead 139 = .ok (.ifCond .eq 7, 3) := by decide +kernel
theorem dX14_isPieceRead_142 : decode cX14_isPieceRead 142 = .ok (.iconst 1, 1) := by decide +kernel
theorem dX14_isPieceRead_143 : decode cX14_isPieceRead 143 = .ok (.goto 4, 3) := by decide +kernel
theorem dX14_isPieceRead_146 : decode cX14_isPieceRead 146 = .ok (.iconst 0, 1) := by decide +kernel
theorem dX14_isPieceRead_147 : decode cX14_isPieceRead 147 = .ok (.ireturn, 1) := by decide +kernel
theorem dX14_isPieceRead_148 : decode cX14_isPieceRead 148 = .ok (.aload_n 0, 1) := by decide +kernel
theorem dX14_isPieceRead_149 : decode cX14_isPieceRead 149 = .ok (.bipush 97, 2) := by decide +kernel
theorem dX14_isPieceRead_151 : decode cX14_isPieceRead 151 = .ok (.bipush 104, 2) := by decide +kernel
theorem dX14_isPieceRead_153 : decode cX14_isPieceRead 153 = .ok (.invokevirtual 308, 3) := by decide +kernel
theorem dX14_isPieceRead_156 : decode cX14_isPieceRead 156 = .ok (.ifCond .eq 33, 3) := by decide +kernel
theorem dX14_isPieceRead_159 : decode cX14_isPieceRead 159 = .ok (.aload_n 0, 1) := by decide +kernel
theorem dX14_isPieceRead_160 : decode cX14_isPieceRead 160 = .ok (.bipush 32, 2) := by decide +kernel
theorem dX14_isPieceRead_162 : decode cX14_isPieceRead 162 = .ok (.invokevirtual 276, 3) := by decide +kernel
theorem dX14_isPieceRead_165 : decode cX14_isPieceRead 165 = .ok (.ifCond .eq 24, 3) := by decide +kernel
theorem dX14_isPieceRead_168 : decode cX14_isPieceRead 168 = .ok (.aload_n 0, 1) := by decide +kernel
theorem dX14_isPieceRead_169 : decode cX14_isPieceRead 169 = .ok (.invokevirtual 291, 3) := by decide +kernel
theorem dX14_isPieceRead_172 : decode cX14_isPieceRead 172 = .ok (.ifCond .eq 17, 3) := by decide +kernel
theorem dX14_isPieceRead_175 : decode cX14_isPieceRead 175 = .ok (.aload_n 0, 1) := by decide +kernel
theorem dX14_isPieceRead_176 : decode cX14_isPieceRead 176 = .ok (.iload_n 1, 1) := by decide +kernel
theorem dX14_isPieceRead_177 : decode cX14_isPieceRead 177 = .ok (.iload_n 2, 1) := by decide +kernel
theorem dX14_isPieceRead_178 : decode cX14_isPieceRead 178 = .ok (.iconst 1, 1) := by decide +kernel
theorem dX14_isPieceRead_179 : decode cX14_isPieceRead 179 = .ok (.invokevirtual 304, 3) := by decide +kernel
theorem dX14_isPieceRead_182 : decode cX14_isPieceRead 182 = .ok (.ifCond .eq 7, 3) := by decide +kernel
theorem dX14_isPieceRead_185 : decode cX14_isPieceRead 185 = .ok (.iconst 1, 1) := by decide +kernel
theorem dX14_isPieceRead_186 : decode cX14_isPieceRead 186 = .ok (.goto 4, 3) := by decide +kernel
theorem dX14_isPieceRead_189 : decode cX14_isPieceRead 189 = .ok (.iconst 0, 1) := by decide +kernel
theorem dX14_isPieceRead_190 : decode cX14_isPieceRead 190 = .ok (.ireturn, 1) := by decide +kernel
theorem dX14_isPieceRead_191 : decode cX14_isPieceRead 191 = .ok (.iload 4, 2) := by decide +kernel
theorem dX14_isPieceRead_193 : decode cX14_isPieceRead 193 = .ok (.bipush 94, 2) := by decide +kernel
theorem dX14_isPieceRead_195 : decode cX14_isPieceRead 195 = .ok (.if_icmp .ne 33, 3) := by decide +kernel
theorem dX14_isPieceRead_198 : decode cX14_isPieceRead 198 = .ok (.iload_n 2, 1) := by decide +kernel
theorem dX14_isPieceRead_199 : decode cX14_isPieceRead 199 = .ok (.ifCond .ne 12, 3) := by decide +kernel
theorem dX14_isPieceRead_202 : decode cX14_isPieceRead 202 = .ok (.aload_n 0, 1) := by decide +kernel
theorem dX14_isPieceRead_203 : decode cX14_isPieceRead 203 = .ok (.aload_n 0, 1) := by decide +kernel
theorem dX14_isPieceRead_204 : decode cX14_isPieceRead 204 = .ok (.getfield 238, 3) := by decide +kernel
theorem dX14_isPieceRead_207 : decode cX14_isPieceRead 207 = .ok (.invokevirtual 251, 3) := by decide +kernel
theorem dX14_isPieceRead_210 : decode cX14_isPieceRead 210 = .ok (.ireturn, 1) := by decide +kernel
theorem dX14_isPieceRead_211 : decode cX14_isPieceRead 211 = .ok (.aload_n 0, 1) := by decide +kernel
theorem dX14_isPieceRead_212 : decode cX14_isPieceRead 212 = .ok (.dup, 1) := by decide +kernel
theorem dX14_isPieceRead_213 : decode cX14_isPieceRead 213 = .ok (.getfield 238, 3) := by decide +kernel
theorem dX14_isPieceRead_216 : decode cX14_isPieceRead 216 = .ok (.iconst 1, 1) := by decide +kernel
theorem dX14_isPieceRead_217 : decode cX14_isPieceRead 217 = .ok (.iadd, 1) := by decide +kernel
theorem dX14_isPieceRead_218 : decode cX14_isPieceRead 218 = .ok (.putfield 238, 3) := by decide +kernel
theorem dX14_isPieceRead_221 : decode cX14_isPieceRead 221 = .ok (.aload_n 0, 1) := by decide +kernel
theorem dX14_isPieceRead_222 : decode cX14_isPieceRead 222 = .ok (.bipush 125, 2) := by decide +kernel
theorem dX14_isPieceRead_224 : decode cX14_isPieceRead 224 = .ok (.invokevirtual 276, 3) := by decide +kernel
theorem dX14_isPieceRead_227 : decode cX14_isPieceRead 227 = .ok (.ireturn, 1) := by decide +kernel
theorem dX14_isPieceRead_228 : decode cX14_isPieceRead 228 = .ok (.iload 4, 2) := by decide +kernel
theorem dX14_isPieceRead_230 : decode cX14_isPieceRead 230 = .ok (.bipush 62, 2) := by decide +kernel
theorem dX14_isPieceRead_232 : decode cX14_isPieceRead 232 = .ok (.if_icmp .eq 10, 3) := by decide +kernel
theorem dX14_isPieceRead_235 : decode cX14_isPieceRead 235 = .ok (.iload 4, 2) := by decide +kernel
theorem dX14_isPieceRead_237 : decode cX14_isPieceRead 237 = .ok (.bipush 60, 2) := by decide +kernel
theorem dX14_isPieceRead_239 : decode cX14_isPieceRead 239 = .ok (.if_icmp .ne 59, 3) := by decide +kernel
theorem dX14_isPieceRead_242 : decode cX14_isPieceRead 242 = .ok (.iload 4, 2) := by decide +kernel
theorem dX14_isPieceRead_244 : decode cX14_isPieceRead 244 = .ok (.bipush 60, 2) := by decide +kernel
theorem dX14_isPieceRead_246 : decode cX14_isPieceRead 246 = .ok (.if_icmp .ne 16, 3) := by decide +kernel
theorem dX14_isPieceRead_249 : decode cX14_isPieceRead 249 = .ok (.iload_n 3, 1) := by decide +kernel
theorem dX14_isPieceRead_250 : decode cX14_isPieceRead 250 = .ok (.ifCond .ne 12, 3) := by decide +kernel
theorem dX14_isPieceRead_253 : decode cX14_isPieceRead 253 = .ok (.aload_n 0, 1) := by decide +kernel
theorem dX14_isPieceRead_254 : decode cX14_isPieceRead 254 = .ok (.aload_n 0, 1) := by decide +kernel
theorem dX14_isPieceRead_255 : decode cX14_isPieceRead 255 = .ok (.getfield 238, 3) := by decide +kernel
theorem dX14_isPieceRead_258 : decode cX14_isPieceRead 258 = .ok (.invokevirtual 251, 3) := by decide +kernel
theorem dX14_isPieceRead_261 : decode cX14_isPieceRead 261 = .ok (.ireturn, 1) := by decide +kernel
theorem dX14_isPieceRead_262 : decode cX14_isPieceRead 262 = .ok (.aload_n 0, 1) := by decide +kernel
theorem dX14_isPieceRead_263 : decode cX14_isPieceRead 263 = .ok (.dup, 1) := by decide +kernel
theorem dX14_isPieceRead_264 : decode cX14_isPieceRead 264 = .ok (.getfield 238, 3) := by decide +kernel
theorem dX14_isPieceRead_267 : decode cX14_isPieceRead 267 = .ok (.iconst 1, 1) := by decide +kernel
theorem dX14_isPieceRead_268 : decode cX14_isPieceRead 268 = .ok (.iadd, 1) := by decide +kernel
theorem dX14_isPieceRead_269 : decode cX14_isPieceRead 269 = .ok (.putfield 238, 3) := by decide +kernel
theorem dX14_isPieceRead_272 : decode cX14_isPieceRead 272 = .ok (.aload_n 0, 1) := by decide +kernel
theorem dX14_isPieceRead_273 : decode cX14_isPieceRead 273 = .ok (.bipush 48, 2) := by decide +kernel
theorem dX14_isPieceRead_275 : decode cX14_isPieceRead 275 = .ok (.bipush 53, 2) := by decide +kernel
theorem dX14_isPieceRead_277 : decode cX14_isPieceRead 277 = .ok (.invokevirtual 308, 3) := by decide +kernel
theorem dX14_isPieceRead_280 : decode cX14_isPieceRead 280 = .ok (.ifCond .eq 16, 3) := by decide +kernel
theorem dX14_isPieceRead_283 : decode cX14_isPieceRead 283 = .ok (.aload_n 0, 1) := by decide +kernel
theorem dX14_isPieceRead_284 : decode cX14_isPieceRead 284 = .ok (.bipush 125, 2) := by decide +kernel
theorem dX14_isPieceRead_286 : decode cX14_isPieceRead 286 = .ok (.invokevirtual 276, 3) := by decide +kernel
theorem dX14_isPieceRead_289 : decode cX14_isPieceRead 289 = .ok (.ifCond .eq 7, 3) := by decide +kernel
theorem dX14_isPieceRead_292 : decode cX14_isPieceRead 292 = .ok (.iconst 1, 1) := by decide +kernel
theorem dX14_isPieceRead_293 : decode cX14_isPieceRead 293 = .ok (.goto 4, 3) := by decide +kernel
theorem dX14_isPieceRead_296 : decode cX14_isPieceRead 296 = .ok (.iconst 0, 1) := by decide +kernel
theorem dX14_isPieceRead_297 : decode cX14_isPieceRead 297 = .ok (.ireturn, 1) := by decide +kernel
theorem dX14_isPieceRead_298 : decode cX14_isPieceRead 298 = .ok (.iload 4, 2) := by decide +kernel
theorem dX14_isPieceRead_300 : decode cX14_isPieceRead 300 = .ok (.bipush 64, 2) := by decide +kernel
theorem dX14_isPieceRead_302 : decode cX14_isPieceRead 302 = .ok (.if_icmp .ne 55, 3) := by decide +kernel
theorem dX14_isPieceRead_305 : decode cX14_isPieceRead 305 = .ok (.aload_n 0, 1) := by decide +kernel
theorem dX14_isPieceRead_306 : decode cX14_isPieceRead 306 = .ok (.dup, 1) := by decide +kernel
theorem dX14_isPieceRead_307 : decode cX14_isPieceRead 307 = .ok (.getfield 238, 3) := by decide +kernel
theorem dX14_isPieceRead_310 : decode cX14_isPieceRead 310 = .ok (.iconst 1, 1) := by decide +kernel
theorem dX14_isPieceRead_311 : decode cX14_isPieceRead 311 = .ok (.iadd, 1) := by decide +kernel
theorem dX14_isPieceRead_312 : decode cX14_isPieceRead 312 = .ok (.putfield 238, 3) := by decide +kernel
theorem dX14_isPieceRead_315 : decode cX14_isPieceRead 315 = .ok (.aload_n 0, 1) := by decide +kernel
theorem dX14_isPieceRead_316 : decode cX14_isPieceRead 316 = .ok (.bipush 97, 2) := by decide +kernel
theorem dX14_isPieceRead_318 : decode cX14_isPieceRead 318 = .ok (.bipush 104, 2) := by decide +kernel
theorem dX14_isPieceRead_320 : decode cX14_isPieceRead 320 = .ok (.invokevirtual 308, 3) := by decide +kernel
theorem dX14_isPieceRead_323 : decode cX14_isPieceRead 323 = .ok (.ifCond .eq 32, 3) := by decide +kernel
theorem dX14_isPieceRead_326 : decode cX14_isPieceRead 326 = .ok (.aload_n 0, 1) := by decide +kernel
theorem dX14_isPieceRead_327 : decode cX14_isPieceRead 327 = .ok (.bipush 61, 2) := by decide +kernel
theorem dX14_isPieceRead_329 : decode cX14_isPieceRead 329 = .ok (.invokevirtual 276, 3) := by decide +kernel
theorem dX14_isPieceRead_332 : decode cX14_isPieceRead 332 = .ok (.ifCond .eq 23, 3) := by decide +kernel
theorem dX14_isPieceRead_335 : decode cX14_isPieceRead 335 = .ok (.aload_n 0, 1) := by decide +kernel
theorem dX14_isPieceRead_336 : decode cX14_isPieceRead 336 = .ok (.invokevirtual 291, 3) := by decide +kernel
theorem dX14_isPieceRead_339 : decode cX14_isPieceRead 339 = .ok (.ifCond .eq 16, 3) := by decide +kernel
theorem dX14_isPieceRead_342 : decode cX14_isPieceRead 342 = .ok (.aload_n 0, 1) := by decide +kernel
theorem dX14_isPieceRead_343 : decode cX14_isPieceRead 343 = .ok (.bipush 125, 2) := by decide +kernel
theorem dX14_isPieceRead_345 : decode cX14_isPieceRead 345 = .ok (.invokevirtual 276, 3) := by decide +kernel
theorem dX14_isPieceRead_348 : decode cX14_isPieceRead 348 = .ok (.ifCond .eq 7, 3) := by decide +kernel
theorem dX14_isPieceRead_351 : decode cX14_isPieceRead 351 = .ok (.iconst 1, 1) := by decide +kernel
theorem dX14_isPieceRead_352 : decode cX14_isPieceRead 352 = .ok (.goto 4, 3) := by decide +kernel
theorem dX14_isPieceRead_355 : decode cX14_isPieceRead 355 = .ok (.iconst 0, 1) := by decide +kernel
theorem dX14_isPieceRead_356 : decode cX14_isPieceRead 356 = .ok (.ireturn, 1) := by decide +kernel
theorem dX14_isPieceRead_357 : decode cX14_isPieceRead 357 = .ok (.aload_n 0, 1) := by decide +kernel
theorem dX14_isPieceRead_358 : decode cX14_isPieceRead 358 = .ok (.invokevirtual 291, 3) := by decide +kernel
theorem dX14_isPieceRead_361 : decode cX14_isPieceRead 361 = .ok (.ifCond .eq 16, 3) := by decide +kernel
theorem dX14_isPieceRead_364 : decode cX14_isPieceRead 364 = .ok (.aload_n 0, 1) := by decide +kernel
theorem dX14_isPieceRead_365 : decode cX14_isPieceRead 365 = .ok (.bipush 125, 2) := by decide +kernel
theorem dX14_isPieceRead_367 : decode cX14_isPieceRead 367 = .ok (.invokevirtual 276, 3) := by decide +kernel
theorem dX14_isPieceRead_370 : decode cX14_isPieceRead 370 = .ok (.ifCond .eq 7, 3) := by decide +kernel
theorem dX14_isPieceRead_373 : decode cX14_isPieceRead 373 = .ok (.iconst 1, 1) := by decide +kernel
theorem dX14_isPieceRead_374 : decode cX14_isPieceRead 374 = .ok (.goto 4, 3) := by decide +kernel
theorem dX14_isPieceRead_377 : decode cX14_isPieceRead 377 = .ok (.iconst 0, 1) := by decide +kernel
theorem dX14_isPieceRead_378 : decode cX14_isPieceRead 378 = .ok (.ireturn, 1) := by decide +kernel
theorem dX14_isTemplateRead_0 : decode cX14_isTemplateRead 0 = .ok (.aload_n 0, 1) := by decide +kernel
theorem dX14_isTemplateRead_1 : decode cX14_isTemplateRead 1 = .ok (.getfield 238, 3) := by decide +kernel
theorem dX14_isTemplateRead_4 : decode cX14_isTemplateRead 4 = .ok (.aload_n 0, 1) := by decide +kernel
theorem dX14_isTemplateRead_5 : decode cX14_isTemplateRead 5 = .ok (.getfield 235, 3) := by decide +kernel
theorem dX14_isTemplateRead_8 : decode cX14_isTemplateRead 8 = .ok (.if_icmp .ge 84, 3) := by decide +kernel
theorem dX14_isTemplateRead_11 : decode cX14_isTemplateRead 11 = .ok (.aload_n 0, 1) := by decide +kernel
theorem dX14_isTemplateRead_12 : decode cX14_isTemplateRead 12 = .ok (.invokevirtual 247, 3) := by decide +kernel
theorem dX14_isTemplateRead_15 : decode cX14_isTemplateRead 15 = .ok (.istore_n 3, 1) := by decide +kernel
theorem dX14_isTemplateRead_16 : decode cX14_isTemplateRead 16 = .ok (.iload_n 3, 1) := by decide +kernel
theorem dX14_isTemplateRead_17 : decode cX14_isTemplateRead 17 = .ok (.bipush 125, 2) := by decide +kernel
theorem dX14_isTemplateRead_19 : decode cX14_isTemplateRead 19 = .ok (.if_icmp .ne 12, 3) := by decide +kernel
theorem dX14_isTemplateRead_22 : decode cX14_isTemplateRead 22 = .ok (.aload_n 0, 1) := by decide +kernel
theorem dX14_isTemplateRead_23 : decode cX14_isTemplateRead 23 = .ok (.aload_n 0, 1) := by decide +kernel
theorem dX14_isTemplateRead_24 : decode cX14_isTemplateRead 24 = .ok (.getfield 238, 3) := by decide +kernel
theorem dX14_isTemplateRead_27 : decode cX14_isTemplateRead 27 = .ok (.invokevirtual 251, 3) := by decide +kernel
theorem dX14_isTemplateRead_30 : decode cX14_isTemplateRead 30 = .ok (.ireturn, 1) := by decide +kernel
theorem dX14_isTemplateRead_31 : decode cX14_isTemplateRead 31 = .ok (.iload_n 3, 1) := by decide +kernel
theorem dX14_isTemplateRead_32 : decode cX14_isTemplateRead 32 = .ok (.bipush 123, 2) := by decide +kernel
theorem dX14_isTemplateRead_34 : decode cX14_isTemplateRead 34 = .ok (.if_icmp .ne 25, 3) := by decide +kernel
theorem dX14_isTemplateRead_37 : decode cX14_isTemplateRead 37 = .ok (.aload_n 0, 1) := by decide +kernel
theorem dX14_isTemplateRead_38 : decode cX14_isTemplateRead 38 = .ok (.iconst 1, 1) := by decide +kernel
theorem dX14_isTemplateRead_39 : decode cX14_isTemplateRead 39 = .ok (.invokevirtual 298, 3) := by decide +kernel
theorem dX14_isTemplateRead_42 : decode cX14_isTemplateRead 42 = .ok (.bipush 47, 2) := by decide +kernel
theorem dX14_isTemplateRead_44 : decode cX14_isTemplateRead 44 = .ok (.if_icmp .eq 13, 3) := by decide +kernel
theorem dX14_isTemplateRead_47 : decode cX14_isTemplateRead 47 = .ok (.aload_n 0, 1) := by decide +kernel
theorem dX14_isTemplateRead_48 : decode cX14_isTemplateRead 48 = .ok (.iconst 1, 1) := by decide +kernel
theorem dX14_isTemplateRead_49 : decode cX14_isTemplateRead 49 = .ok (.invokevirtual 298, 3) := by decide +kernel
theorem dX14_isTemplateRead_52 : decode cX14_isTemplateRead 52 = .ok (.bipush 58, 2) := by decide +kernel
theorem dX14_isTemplateRead_54 : decode cX14_isTemplateRead 54 = .ok (.if_icmp .ne 5, 3) := by decide +kernel
theorem dX14_isTemplateRead_57 : decode cX14_isTemplateRead 57 = .ok (.iconst 1, 1) := by decide +kernel
theorem dX14_isTemplateRead_58 : decode cX14_isTemplateRead 58 = .ok (.ireturn, 1) := by decide +kernel
theorem dX14_isTemplateRead_59 : decode cX14_isTemplateRead 59 = .ok (.iload_n 3, 1) := by decide +kernel
theorem dX14_isTemplateRead_60 : decode cX14_isTemplateRead 60 = .ok (.bipush 123, 2) := by decide +kernel
theorem dX14_isTemplateRead_62 : decode cX14_isTemplateRead 62 = .ok (.if_icmp .eq 16, 3) := by decide +kernel
theorem dX14_isTemplateRead_65 : decode cX14_isTemplateRead 65 = .ok (.aload_n 0, 1) := by decide +kernel
theorem dX14_isTemplateRead_66 : decode cX14_isTemplateRead 66 = .ok (.dup, 1) := by decide +kernel
theorem dX14_isTemplateRead_67 : decode cX14_isTemplateRead 67 = .ok (.getfield 238, 3) := by decide +kernel
theorem dX14_isTemplateRead_70 : decode cX14_isTemplateRead 70 = .ok (.iconst 1, 1) := by decide +kernel
theorem dX14_isTemplateRead_71 : decode cX14_isTemplateRead 71 = .ok (.iadd, 1) := by decide +kernel
theorem dX14_isTemplateRead_72 : decode cX14_isTemplateRead 72 = .ok (.putfield 238, 3) := by decide +kernel
theorem dX14_isTemplateRead_75 : decode cX14_isTemplateRead 75 = .ok (.goto 14, 3) := by decide +kernel
theorem dX14_isTemplateRead_78 : decode cX14_isTemplateRead 78 = .ok (.aload_n 0, 1) := by decide +kernel
theorem dX14_isTemplateRead_79 : decode cX14_isTemplateRead 79 = .ok (.iload_n 1, 1) := by decide +kernel
theorem dX14_isTemplateRead_80 : decode cX14_isTemplateRead 80 = .ok (.iload_n 2, 1) := by decide +kernel
theorem dX14_isTemplateRead_81 : decode cX14_isTemplateRead 81 = .ok (.invokevirtual 312, 3) := by decide +kernel
theorem dX14_isTemplateRead_84 : decode cX14_isTemplateRead 84 = .ok (.ifCond .ne 5, 3) := by decide +kernel
theorem dX14_isTemplateRead_87 : decode cX14_isTemplateRead 87 = .ok (.iconst 0, 1) := by decide +kernel
theorem dX14_isTemplateRead_88 : decode cX14_isTemplateRead 88 = .ok (.ireturn, 1) := by decide +kernel
theorem dX14_isTemplateRead_89 : decode cX14_isTemplateRead 89 = .ok (.goto (-89), 3) := by decide +kernel
theorem dX14_isTemplateRead_92 : decode cX14_isTemplateRead 92 = .ok (.iconst 1, 1) := by decide +kernel
theorem dX14_isTemplateRead_93 : decode cX14_isTemplateRead 93 = .ok (.ireturn, 1) := by decide +kernel
theorem dX14_isAllRead_0 : decode cX14_isAllRead 0 = .ok (.aload_n 0, 1) := by decide +kernel
theorem dX14_isAllRead_1 : decode cX14_isAllRead 1 = .ok (.iconst 0, 1) := by decide +kernel
theorem dX14_isAllRead_2 : decode cX14_isAllRead 2 = .ok (.iconst 0, 1) := by decide +kernel
theorem dX14_isAllRead_3 : decode cX14_isAllRead 3 = .ok (.invokevirtual 294, 3) := by decide +kernel
theorem dX14_isAllRead_6 : decode cX14_isAllRead 6 = .ok (.ifCond .ne 5, 3) := by decide +kernel
theorem dX14_isAllRead_9 : decode cX14_isAllRead 9 = .ok (.iconst 0, 1) := by decide +kernel
theorem dX14_isAllRead_10 : decode cX14_isAllRead 10 = .ok (.ireturn, 1) := by decide +kernel
theorem dX14_isAllRead_11 : decode cX14_isAllRead 11 = .ok (.aload_n 0, 1) := by decide +kernel
theorem dX14_isAllRead_12 : decode cX14_isAllRead 12 = .ok (.getfield 238, 3) := by decide +kernel
theorem dX14_isAllRead_15 : decode cX14_isAllRead 15 = .ok (.aload_n 0, 1) := by decide +kernel
theorem dX14_isAllRead_16 : decode cX14_isAllRead 16 = .ok (.getfield 235, 3) := by decide +kernel
theorem dX14_isAllRead_19 : decode cX14_isAllRead 19 = .ok (.if_icmp .eq 16, 3) := by decide +kernel
theorem dX14_isAllRead_22 : decode cX14_isAllRead 22 = .ok (.aload_n 0, 1) := by decide +kernel
theorem dX14_isAllRead_23 : decode cX14_isAllRead 23 = .ok (.aload_n 0, 1) := by decide +kernel
theorem dX14_isAllRead_24 : decode cX14_isAllRead 24 = .ok (.getfield 238, 3) := by decide +kernel
theorem dX14_isAllRead_27 : decode cX14_isAllRead 27 = .ok (.iconst 1, 1) := by decide +kernel
theorem dX14_isAllRead_28 : decode cX14_isAllRead 28 = .ok (.iadd, 1) := by decide +kernel
theorem dX14_isAllRead_29 : decode cX14_isAllRead 29 = .ok (.invokevirtual 251, 3) := by decide +kernel
theorem dX14_isAllRead_32 : decode cX14_isAllRead 32 = .ok (.ifCond .eq 7, 3) := by decide +kernel
theorem dX14_isAllRead_35 : decode cX14_isAllRead 35 = .ok (.iconst 1, 1) := by decide +kernel
theorem dX14_isAllRead_36 : decode cX14_isAllRead 36 = .ok (.goto 4, 3) := by decide +kernel
theorem dX14_isAllRead_39 : decode cX14_isAllRead 39 = .ok (.iconst 0, 1) := by decide +kernel
theorem dX14_isAllRead_40 : decode cX14_isAllRead 40 = .ok (.ireturn, 1) := by decide +kernel
theorem dX14_template_0 : decode cX14_template 0 = .ok (.iload_n 1, 1) := by decide +kernel
theorem dX14_template_1 : decode cX14_template 1 = .ok (.i2l, 1) := by decide +kernel
theorem dX14_template_2 : decode cX14_template 2 = .ok (.lconst 0, 1) := by decide +kernel
theorem dX14_template_3 : decode cX14_template 3 = .ok (.ldc2_w 315, 3) := by decide +kernel
theorem dX14_template_6 : decode cX14_template 6 = .ok (.invokestatic 155, 3) := by decide +kernel
theorem dX14_template_9 : decode cX14_template 9 = .ok (.ifCond .ne 5, 3) := by decide +kernel
theorem dX14_template_12 : decode cX14_template 12 = .ok (.iconst (-1), 1) := by decide +kernel
theorem dX14_template_13 : decode cX14_template 13 = .ok (.ireturn, 1) := by decide +kernel
theorem dX14_template_14 : decode cX14_template 14 = .ok (.aload_n 0, 1) := by decide +kernel
theorem dX14_template_15 : decode cX14_template 15 = .ok (.getfield 229, 3) := by decide +kernel
theorem dX14_template_18 : decode cX14_template 18 = .ok (.istore_n 2, 1) := by decide +kernel
theorem dX14_template_19 : decode cX14_template 19 = .ok (.aload_n 0, 1) := by decide +kernel
theorem dX14_template_20 : decode cX14_template 20 = .ok (.iconst 0, 1) := by decide +kernel
theorem dX14_template_21 : decode cX14_template 21 = .ok (.putfield 229, 3) := by decide +kernel
theorem dX14_template_24 : decode cX14_template 24 = .ok (.aload_n 0, 1) := by decide +kernel
theorem dX14_template_25 : decode cX14_template 25 = .ok (.aload_n 0, 1) := by decide +kernel
theorem dX14_template_26 : decode cX14_template 26 = .ok (.getfield 31, 3) := by decide +kernel
theorem dX14_template_29 : decode cX14_template 29 = .ok (.iconst 0, 1) := by decide +kernel
theorem dX14_template_30 : decode cX14_template 30 = .ok (.iload_n 2, 1) := by decide +kernel
theorem dX14_template_31 : decode cX14_template 31 = .ok (.invokevirtual 317, 3) := by decide +kernel
theorem dX14_template_34 : decode cX14_template 34 = .ok (.aload_n 0, 1) := by decide +kernel
theorem dX14_template_35 : decode cX14_template 35 = .ok (.invokevirtual 321, 3) := by decide +kernel
theorem dX14_template_38 : decode cX14_template 38 = .ok (.ifCond .ne 11, 3) := by decide +kernel
theorem dX14_template_41 : decode cX14_template 41 = .ok (.bipush (-100), 2) := by decide +kernel
theorem dX14_template_43 : decode cX14_template 43 = .ok (.aload_n 0, 1) := by decide +kernel
theorem dX14_template_44 : decode cX14_template 44 = .ok (.getfield 241, 3) := by decide +kernel
theorem dX14_template_47 : decode cX14_template 47 = .ok (.isub, 1) := by decide +kernel
theorem dX14_template_48 : decode cX14_template 48 = .ok (.ireturn, 1) := by decide +kernel
theorem dX14_template_49 : decode cX14_template 49 = .ok (.iconst 0, 1) := by decide +kernel
theorem dX14_template_50 : decode cX14_template 50 = .ok (.istore_n 3, 1) := by decide +kernel
theorem dX14_template_51 : decode cX14_template 51 = .ok (.iload_n 3, 1) := by decide +kernel
theorem dX14_template_52 : decode cX14_template 52 = .ok (.iload_n 2, 1) := by decide +kernel
theorem dX14_template_53 : decode cX14_template 53 = .ok (.if_icmp .ge 27, 3) := by decide +kernel
theorem dX14_template_56 : decode cX14_template 56 = .ok (.aload_n 0, 1) := by decide +kernel
theorem dX14_template_57 : decode cX14_template 57 = .ok (.getfield 34, 3) := by decide +kernel
theorem dX14_template_60 : decode cX14_template 60 = .ok (.sipush 160, 3) := by decide +kernel
theorem dX14_template_63 : decode cX14_template 63 = .ok (.iload_n 1, 1) := by decide +kernel
theorem dX14_template_64 : decode cX14_template 64 = .ok (.imul, 1) := by decide +kernel
theorem dX14_template_65 : decode cX14_template 65 = .ok (.iload_n 3, 1) := by decide +kernel
theorem dX14_template_66 : decode cX14_template 66 = .ok (.iadd, 1) := by decide +kernel
theorem dX14_template_67 : decode cX14_template 67 = .ok (.aload_n 0, 1) := by decide +kernel
theorem dX14_template_68 : decode cX14_template 68 = .ok (.getfield 31, 3) := by decide +kernel
theorem dX14_template_71 : decode cX14_template 71 = .ok (.iload_n 3, 1) := by decide +kernel
theorem dX14_template_72 : decode cX14_template 72 = .ok (.iaload, 1) := by decide +kernel
theorem dX14_template_73 : decode cX14_template 73 = .ok (.iastore, 1) := by decide +kernel
theorem dX14_template_74 : decode cX14_template 74 = .ok (.iinc 3 1, 3) := by decide +kernel
theorem dX14_template_77 : decode cX14_template 77 = .ok (.goto (-26), 3) := by decide +kernel
theorem dX14_template_80 : decode cX14_template 80 = .ok (.aload_n 0, 1) := by decide +kernel
theorem dX14_template_81 : decode cX14_template 81 = .ok (.getfield 37, 3) := by decide +kernel
theorem dX14_template_84 : decode cX14_template 84 = .ok (.iload_n 1, 1) := by decide +kernel
theorem dX14_template_85 : decode cX14_template 85 = .ok (.iload_n 2, 1) := by decide +kernel
theorem dX14_template_86 : decode cX14_template 86 = .ok (.iastore, 1) := by decide +kernel
theorem dX14_template_87 : decode cX14_template 87 = .ok (.aload_n 0, 1) := by decide +kernel
theorem dX14_template_88 : decode cX14_template 88 = .ok (.getfield 244, 3) := by decide +kernel
theorem dX14_template_91 : decode cX14_template 91 = .ok (.ireturn, 1) := by decide +kernel
theorem dX14_nodesOf_0 : decode cX14_nodesOf 0 = .ok (.aload_n 0, 1) := by decide +kernel
theorem dX14_nodesOf_1 : decode cX14_nodesOf 1 = .ok (.aload_n 0, 1) := by decide +kernel
theorem dX14_nodesOf_2 : decode cX14_nodesOf 2 = .ok (.getfield 34, 3) := by decide +kernel
theorem dX14_nodesOf_5 : decode cX14_nodesOf 5 = .ok (.sipush 160, 3) := by decide +kernel
theorem dX14_nodesOf_8 : decode cX14_nodesOf 8 = .ok (.iload_n 1, 1) := by decide +kernel
theorem dX14_nodesOf_9 : decode cX14_nodesOf 9 = .ok (.imul, 1) := by decide +kernel
theorem dX14_nodesOf_10 : decode cX14_nodesOf 10 = .ok (.aload_n 0, 1) := by decide +kernel
theorem dX14_nodesOf_11 : decode cX14_nodesOf 11 = .ok (.getfield 37, 3) := by decide +kernel
theorem dX14_nodesOf_14 : decode cX14_nodesOf 14 = .ok (.iload_n 1, 1) := by decide +kernel
theorem dX14_nodesOf_15 : decode cX14_nodesOf 15 = .ok (.iaload, 1) := by decide +kernel
theorem dX14_nodesOf_16 : decode cX14_nodesOf 16 = .ok (.invokevirtual 317, 3) := by decide +kernel
theorem dX14_nodesOf_19 : decode cX14_nodesOf 19 = .ok (.aload_n 0, 1) := by decide +kernel
theorem dX14_nodesOf_20 : decode cX14_nodesOf 20 = .ok (.invokevirtual 321, 3) := by decide +kernel
theorem dX14_nodesOf_23 : decode cX14_nodesOf 23 = .ok (.pop, 1) := by decide +kernel
theorem dX14_nodesOf_24 : decode cX14_nodesOf 24 = .ok (.aload_n 0, 1) := by decide +kernel
theorem dX14_nodesOf_25 : decode cX14_nodesOf 25 = .ok (.getfield 244, 3) := by decide +kernel
theorem dX14_nodesOf_28 : decode cX14_nodesOf 28 = .ok (.ireturn, 1) := by decide +kernel
theorem dX14_drop_0 : decode cX14_drop 0 = .ok (.iload_n 1, 1) := by decide +kernel
theorem dX14_drop_1 : decode cX14_drop 1 = .ok (.i2l, 1) := by decide +kernel
theorem dX14_drop_2 : decode cX14_drop 2 = .ok (.lconst 0, 1) := by decide +kernel
theorem dX14_drop_3 : decode cX14_drop 3 = .ok (.ldc2_w 315, 3) := by decide +kernel
theorem dX14_drop_6 : decode cX14_drop 6 = .ok (.invokestatic 155, 3) := by decide +kernel
theorem dX14_drop_9 : decode cX14_drop 9 = .ok (.ifCond .ne 5, 3) := by decide +kernel
theorem dX14_drop_12 : decode cX14_drop 12 = .ok (.iconst (-1), 1) := by decide +kernel
theorem dX14_drop_13 : decode cX14_drop 13 = .ok (.ireturn, 1) := by decide +kernel
theorem dX14_drop_14 : decode cX14_drop 14 = .ok (.aload_n 0, 1) := by decide +kernel
theorem dX14_drop_15 : decode cX14_drop 15 = .ok (.getfield 37, 3) := by decide +kernel
theorem dX14_drop_18 : decode cX14_drop 18 = .ok (.iload_n 1, 1) := by decide +kernel
theorem dX14_drop_19 : decode cX14_drop 19 = .ok (.iaload, 1) := by decide +kernel
theorem dX14_drop_20 : decode cX14_drop 20 = .ok (.ifCond .ge 6, 3) := by decide +kernel
theorem dX14_drop_23 : decode cX14_drop 23 = .ok (.bipush (-3), 2) := by decide +kernel
theorem dX14_drop_25 : decode cX14_drop 25 = .ok (.ireturn, 1) := by decide +kernel
theorem dX14_drop_26 : decode cX14_drop 26 = .ok (.aload_n 0, 1) := by decide +kernel
theorem dX14_drop_27 : decode cX14_drop 27 = .ok (.iload_n 1, 1) := by decide +kernel
theorem dX14_drop_28 : decode cX14_drop 28 = .ok (.invokevirtual 324, 3) := by decide +kernel
theorem dX14_drop_31 : decode cX14_drop 31 = .ok (.istore_n 2, 1) := by decide +kernel
theorem dX14_drop_32 : decode cX14_drop 32 = .ok (.aload_n 0, 1) := by decide +kernel
theorem dX14_drop_33 : decode cX14_drop 33 = .ok (.getfield 37, 3) := by decide +kernel
theorem dX14_drop_36 : decode cX14_drop 36 = .ok (.iload_n 1, 1) := by decide +kernel
theorem dX14_drop_37 : decode cX14_drop 37 = .ok (.iconst (-1), 1) := by decide +kernel
theorem dX14_drop_38 : decode cX14_drop 38 = .ok (.iastore, 1) := by decide +kernel
theorem dX14_drop_39 : decode cX14_drop 39 = .ok (.iload_n 2, 1) := by decide +kernel
theorem dX14_drop_40 : decode cX14_drop 40 = .ok (.ireturn, 1) := by decide +kernel
theorem dX14_lineAt_0 : decode cX14_lineAt 0 = .ok (.iconst 1, 1) := by decide +kernel
theorem dX14_lineAt_1 : decode cX14_lineAt 1 = .ok (.istore_n 3, 1) := by decide +kernel
theorem dX14_lineAt_2 : decode cX14_lineAt 2 = .ok (.iconst 0, 1) := by decide +kernel
theorem dX14_lineAt_3 : decode cX14_lineAt 3 = .ok (.istore 4, 2) := by decide +kernel
theorem dX14_lineAt_5 : decode cX14_lineAt 5 = .ok (.iload 4, 2) := by decide +kernel
theorem dX14_lineAt_7 : decode cX14_lineAt 7 = .ok (.iload_n 2, 1) := by decide +kernel
theorem dX14_lineAt_8 : decode cX14_lineAt 8 = .ok (.if_icmp .ge 35, 3) := by decide +kernel
theorem dX14_lineAt_11 : decode cX14_lineAt 11 = .ok (.iload_n 3, 1) := by decide +kernel
theorem dX14_lineAt_12 : decode cX14_lineAt 12 = .ok (.aload_n 0, 1) := by decide +kernel
theorem dX14_lineAt_13 : decode cX14_lineAt 13 = .ok (.getfield 34, 3) := by decide +kernel
theorem dX14_lineAt_16 : decode cX14_lineAt 16 = .ok (.sipush 160, 3) := by decide +kernel
theorem dX14_lineAt_19 : decode cX14_lineAt 19 = .ok (.iload_n 1, 1) := by decide +kernel
theorem dX14_lineAt_20 : decode cX14_lineAt 20 = .ok (.imul, 1) := by decide +kernel
theorem dX14_lineAt_21 : decode cX14_lineAt 21 = .ok (.iload 4, 2) := by decide +kernel
theorem dX14_lineAt_23 : decode cX14_lineAt 23 = .ok (.iadd, 1) := by decide +kernel
theorem dX14_lineAt_24 : decode cX14_lineAt 24 = .ok (.iaload, 1) := by decide +kernel
theorem dX14_lineAt_25 : decode cX14_lineAt 25 = .ok (.bipush 10, 2) := by decide +kernel
theorem dX14_lineAt_27 : decode cX14_lineAt 27 = .ok (.if_icmp .ne 7, 3) := by decide +kernel
theorem dX14_lineAt_30 : decode cX14_lineAt 30 = .ok (.iconst 1, 1) := by decide +kernel
theorem dX14_lineAt_31 : decode cX14_lineAt 31 = .ok (.goto 4, 3) := by decide +kernel
theorem dX14_lineAt_34 : decode cX14_lineAt 34 = .ok (.iconst 0, 1) := by decide +kernel
theorem dX14_lineAt_35 : decode cX14_lineAt 35 = .ok (.iadd, 1) := by decide +kernel
theorem dX14_lineAt_36 : decode cX14_lineAt 36 = .ok (.istore_n 3, 1) := by decide +kernel
theorem dX14_lineAt_37 : decode cX14_lineAt 37 = .ok (.iinc 4 1, 3) := by decide +kernel
theorem dX14_lineAt_40 : decode cX14_lineAt 40 = .ok (.goto (-35), 3) := by decide +kernel
theorem dX14_lineAt_43 : decode cX14_lineAt 43 = .ok (.iload_n 3, 1) := by decide +kernel
theorem dX14_lineAt_44 : decode cX14_lineAt 44 = .ok (.ireturn, 1) := by decide +kernel
theorem dX14_extended_0 : decode cX14_extended 0 = .ok (.aload_n 0, 1) := by decide +kernel
theorem dX14_extended_1 : decode cX14_extended 1 = .ok (.getfield 37, 3) := by decide +kernel
theorem dX14_extended_4 : decode cX14_extended 4 = .ok (.iload_n 1, 1) := by decide +kernel
theorem dX14_extended_5 : decode cX14_extended 5 = .ok (.iaload, 1) := by decide +kernel
theorem dX14_extended_6 : decode cX14_extended 6 = .ok (.iconst 3, 1) := by decide +kernel
theorem dX14_extended_7 : decode cX14_extended 7 = .ok (.if_icmp .le 53, 3) := by decide +kernel
theorem dX14_extended_10 : decode cX14_extended 10 = .ok (.aload_n 0, 1) := by decide +kernel
theorem dX14_extended_11 : decode cX14_extended 11 = .ok (.getfield 34, 3) := by decide +kernel
theorem dX14_extended_14 : decode cX14_extended 14 = .ok (.sipush 160, 3) := by decide +kernel
theorem dX14_extended_17 : decode cX14_extended 17 = .ok (.iload_n 1, 1) := by decide +kernel
theorem dX14_extended_18 : decode cX14_extended 18 = .ok (.imul, 1) := by decide +kernel
theorem dX14_extended_19 : decode cX14_extended 19 = .ok (.iaload, 1) := by decide +kernel
theorem dX14_extended_20 : decode cX14_extended 20 = .ok (.bipush 123, 2) := by decide +kernel
theorem dX14_extended_22 : decode cX14_extended 22 = .ok (.if_icmp .ne 38, 3) := by decide +kernel
theorem dX14_extended_25 : decode cX14_extended 25 = .ok (.aload_n 0, 1) := by decide +kernel
theorem dX14_extended_26 : decode cX14_extended 26 = .ok (.getfield 34, 3) := by decide +kernel
theorem dX14_extended_29 : decode cX14_extended 29 = .ok (.sipush 160, 3) := by decide +kernel
theorem dX14_extended_32 : decode cX14_extended 32 = .ok (.iload_n 1, 1) := by decide +kernel
theorem dX14_extended_33 : decode cX14_extended 33 = .ok (.imul, 1) := by decide +kernel
theorem dX14_extended_34 : decode cX14_extended 34 = .ok (.iconst 1, 1) := by decide +kernel
theorem dX14_extended_35 : decode cX14_extended 35 = .ok (.iadd, 1) := by decide +kernel
theorem dX14_extended_36 : decode cX14_extended 36 = .ok (.iaload, 1) := by decide +kernel
theorem dX14_extended_37 : decode cX14_extended 37 = .ok (.bipush 60, 2) := by decide +kernel
theorem dX14_extended_39 : decode cX14_extended 39 = .ok (.if_icmp .ne 21, 3) := by decide +kernel
theorem dX14_extended_42 : decode cX14_extended 42 = .ok (.aload_n 0, 1) := by decide +kernel
theorem dX14_extended_43 : decode cX14_extended 43 = .ok (.getfield 34, 3) := by decide +kernel
theorem dX14_extended_46 : decode cX14_extended 46 = .ok (.sipush 160, 3) := by decide +kernel
theorem dX14_extended_49 : decode cX14_extended 49 = .ok (.iload_n 1, 1) := by decide +kernel
theorem dX14_extended_50 : decode cX14_extended 50 = .ok (.imul, 1) := by decide +kernel
theorem dX14_extended_51 : decode cX14_extended 51 = .ok (.iconst 2, 1) := by decide +kernel
theorem dX14_extended_52 : decode cX14_extended 52 = .ok (.iadd, 1) := by decide +kernel
theorem dX14_extended_53 : decode cX14_extended 53 = .ok (.iaload, 1) := by decide +kernel
theorem dX14_extended_54 : decode cX14_extended 54 = .ok (.bipush 48, 2) := by decide +kernel
theorem dX14_extended_56 : decode cX14_extended 56 = .ok (.isub, 1) := by decide +kernel
theorem dX14_extended_57 : decode cX14_extended 57 = .ok (.goto 5, 3) := by decide +kernel
theorem dX14_extended_60 : decode cX14_extended 60 = .ok (.bipush (-5), 2) := by decide +kernel
theorem dX14_extended_62 : decode cX14_extended 62 = .ok (.ireturn, 1) := by decide +kernel
theorem dX14_signsBehind_0 : decode cX14_signsBehind 0 = .ok (.iconst 0, 1) := by decide +kernel
theorem dX14_signsBehind_1 : decode cX14_signsBehind 1 = .ok (.istore 4, 2) := by decide +kernel
theorem dX14_signsBehind_3 : decode cX14_signsBehind 3 = .ok (.iconst 0, 1) := by decide +kernel
theorem dX14_signsBehind_4 : decode cX14_signsBehind 4 = .ok (.istore 5, 2) := by decide +kernel
theorem dX14_signsBehind_6 : decode cX14_signsBehind 6 = .ok (.iload 5, 2) := by decide +kernel
theorem dX14_signsBehind_8 : decode cX14_signsBehind 8 = .ok (.iconst 2, 1) := by decide +kernel
theorem dX14_signsBehind_9 : decode cX14_signsBehind 9 = .ok (.iadd, 1) := by decide +kernel
theorem dX14_signsBehind_10 : decode cX14_signsBehind 10 = .ok (.aload_n 0, 1) := by decide +kernel
theorem dX14_signsBehind_11 : decode cX14_signsBehind 11 = .ok (.getfield 37, 3) := by decide +kernel
theorem dX14_signsBehind_14 : decode cX14_signsBehind 14 = .ok (.iload_n 1, 1) := by decide +kernel
theorem dX14_signsBehind_15 : decode cX14_signsBehind 15 = .ok (.iaload, 1) := by decide +kernel
theorem dX14_signsBehind_16 : decode cX14_signsBehind 16 = .ok (.if_icmp .ge 70, 3) := by decide +kernel
theorem dX14_signsBehind_19 : decode cX14_signsBehind 19 = .ok (.aload_n 0, 1) := by decide +kernel
theorem dX14_signsBehind_20 : decode cX14_signsBehind 20 = .ok (.getfield 34, 3) := by decide +kernel
theorem dX14_signsBehind_23 : decode cX14_signsBehind 23 = .ok (.sipush 160, 3) := by decide +kernel
theorem dX14_signsBehind_26 : decode cX14_signsBehind 26 = .ok (.iload_n 1, 1) := by decide +kernel
theorem dX14_signsBehind_27 : decode cX14_signsBehind 27 = .ok (.imul, 1) := by decide +kernel
theorem dX14_signsBehind_28 : decode cX14_signsBehind 28 = .ok (.iload 5, 2) := by decide +kernel
theorem dX14_signsBehind_30 : decode cX14_signsBehind 30 = .ok (.iadd, 1) := by decide +kernel
theorem dX14_signsBehind_31 : decode cX14_signsBehind 31 = .ok (.iaload, 1) := by decide +kernel
theorem dX14_signsBehind_32 : decode cX14_signsBehind 32 = .ok (.bipush 123, 2) := by decide +kernel
theorem dX14_signsBehind_34 : decode cX14_signsBehind 34 = .ok (.if_icmp .ne 46, 3) := by decide +kernel
theorem dX14_signsBehind_37 : decode cX14_signsBehind 37 = .ok (.aload_n 0, 1) := by decide +kernel
theorem dX14_signsBehind_38 : decode cX14_signsBehind 38 = .ok (.getfield 34, 3) := by decide +kernel
theorem dX14_signsBehind_41 : decode cX14_signsBehind 41 = .ok (.sipush 160, 3) := by decide +kernel
theorem dX14_signsBehind_44 : decode cX14_signsBehind 44 = .ok (.iload_n 1, 1) := by decide +kernel
theorem dX14_signsBehind_45 : decode cX14_signsBehind 45 = .ok (.imul, 1) := by decide +kernel
theorem dX14_signsBehind_46 : decode cX14_signsBehind 46 = .ok (.iload 5, 2) := by decide +kernel
theorem dX14_signsBehind_48 : decode cX14_signsBehind 48 = .ok (.iadd, 1) := by decide +kernel
theorem dX14_signsBehind_49 : decode cX14_signsBehind 49 = .ok (.iconst 1, 1) := by decide +kernel
theorem dX14_signsBehind_50 : decode cX14_signsBehind 50 = .ok (.iadd, 1) := by decide +kernel
theorem dX14_signsBehind_51 : decode cX14_signsBehind 51 = .ok (.iaload, 1) := by decide +kernel
theorem dX14_signsBehind_52 : decode cX14_signsBehind 52 = .ok (.iload_n 2, 1) := by decide +kernel
theorem dX14_signsBehind_53 : decode cX14_signsBehind 53 = .ok (.if_icmp .ne 27, 3) := by decide +kernel
theorem dX14_signsBehind_56 : decode cX14_signsBehind 56 = .ok (.iload 4, 2) := by decide +kernel
theorem dX14_signsBehind_58 : decode cX14_signsBehind 58 = .ok (.iconst 1, 1) := by decide +kernel
theorem dX14_signsBehind_59 : decode cX14_signsBehind 59 = .ok (.aload_n 0, 1) := by decide +kernel
theorem dX14_signsBehind_60 : decode cX14_signsBehind 60 = .ok (.getfield 34, 3) := by decide +kernel
theorem dX14_signsBehind_63 : decode cX14_signsBehind 63 = .ok (.sipush 160, 3) := by decide +kernel
theorem dX14_signsBehind_66 : decode cX14_signsBehind 66 = .ok (.iload_n 1, 1) := by decide +kernel
theorem dX14_signsBehind_67 : decode cX14_signsBehind 67 = .ok (.imul, 1) := by decide +kernel
theorem dX14_signsBehind_68 : decode cX14_signsBehind 68 = .ok (.iload 5, 2) := by decide +kernel
theorem dX14_signsBehind_70 : decode cX14_signsBehind 70 = .ok (.iadd, 1) := by decide +kernel
theorem dX14_signsBehind_71 : decode cX14_signsBehind 71 = .ok (.iconst 2, 1) := by decide +kernel
theorem dX14_signsBehind_72 : decode cX14_signsBehind 72 = .ok (.iadd, 1) := by decide +kernel
theorem dX14_signsBehind_73 : decode cX14_signsBehind 73 = .ok (.iaload, 1) := by decide +kernel
theorem dX14_signsBehind_74 : decode cX14_signsBehind 74 = .ok (.iload_n 3, 1) := by decide +kernel
theorem dX14_signsBehind_75 : decode cX14_signsBehind 75 = .ok (.isub, 1) := by decide +kernel
theorem dX14_signsBehind_76 : decode cX14_signsBehind 76 = .ok (.ishl, 1) := by decide +kernel
theorem dX14_signsBehind_77 : decode cX14_signsBehind 77 = .ok (.ior, 1) := by decide +kernel
theorem dX14_signsBehind_78 : decode cX14_signsBehind 78 = .ok (.istore 4, 2) := by decide +kernel
theorem dX14_signsBehind_80 : decode cX14_signsBehind 80 = .ok (.iinc 5 1, 3) := by decide +kernel
theorem dX14_signsBehind_83 : decode cX14_signsBehind 83 = .ok (.goto (-77), 3) := by decide +kernel
theorem dX14_signsBehind_86 : decode cX14_signsBehind 86 = .ok (.iload 4, 2) := by decide +kernel
theorem dX14_signsBehind_88 : decode cX14_signsBehind 88 = .ok (.ireturn, 1) := by decide +kernel
theorem dX14_variablesIn_0 : decode cX14_variablesIn 0 = .ok (.iconst 0, 1) := by decide +kernel
theorem dX14_variablesIn_1 : decode cX14_variablesIn 1 = .ok (.istore_n 2, 1) := by decide +kernel
theorem dX14_variablesIn_2 : decode cX14_variablesIn 2 = .ok (.iconst 0, 1) := by decide +kernel
theorem dX14_variablesIn_3 : decode cX14_variablesIn 3 = .ok (.istore_n 3, 1) := by decide +kernel
theorem dX14_variablesIn_4 : decode cX14_variablesIn 4 = .ok (.iconst 0, 1) := by decide +kernel
theorem dX14_variablesIn_5 : decode cX14_variablesIn 5 = .ok (.istore 4, 2) := by decide +kernel
theorem dX14_variablesIn_7 : decode cX14_variablesIn 7 = .ok (.iload 4, 2) := by decide +kernel
theorem dX14_variablesIn_9 : decode cX14_variablesIn 9 = .ok (.aload_n 0, 1) := by decide +kernel
theorem dX14_variablesIn_10 : decode cX14_variablesIn 10 = .ok (.getfield 37, 3) := by decide +kernel
theorem dX14_variablesIn_13 : decode cX14_variablesIn 13 = .ok (.iload_n 1, 1) := by decide +kernel
theorem dX14_variablesIn_14 : decode cX14_variablesIn 14 = .ok (.iaload, 1) := by decide +kernel
theorem dX14_variablesIn_15 : decode cX14_variablesIn 15 = .ok (.if_icmp .ge 195, 3) := by decide +kernel
theorem dX14_variablesIn_18 : decode cX14_variablesIn 18 = .ok (.aload_n 0, 1) := by decide +kernel
theorem dX14_variablesIn_19 : decode cX14_variablesIn 19 = .ok (.getfield 34, 3) := by decide +kernel
theorem dX14_variablesIn_22 : decode cX14_variablesIn 22 = .ok (.sipush 160, 3) := by decide +kernel
theorem dX14_variablesIn_25 : decode cX14_variablesIn 25 = .ok (.iload_n 1, 1) := by decide +kernel
theorem dX14_variablesIn_26 : decode cX14_variablesIn 26 = .ok (.imul, 1) := by decide +kernel
theorem dX14_variablesIn_27 : decode cX14_variablesIn 27 = .ok (.iload 4, 2) := by decide +kernel
theorem dX14_variablesIn_29 : decode cX14_variablesIn 29 = .ok (.iadd, 1) := by decide +kernel
theorem dX14_variablesIn_30 : decode cX14_variablesIn 30 = .ok (.iaload, 1) := by decide +kernel
theorem dX14_variablesIn_31 : decode cX14_variablesIn 31 = .ok (.istore 5, 2) := by decide +kernel
theorem dX14_variablesIn_33 : decode cX14_variablesIn 33 = .ok (.iload 4, 2) := by decide +kernel
theorem dX14_variablesIn_35 : decode cX14_variablesIn 35 = .ok (.ifCond .ne 7, 3) := by decide +kernel
theorem dX14_variablesIn_38 : decode cX14_variablesIn 38 = .ok (.iconst 0, 1) := by decide +kernel
theorem dX14_variablesIn_39 : decode cX14_variablesIn 39 = .ok (.goto 18, 3) := by decide +kernel
theorem dX14_variablesIn_42 : decode cX14_variablesIn 42 = .ok (.aload_n 0, 1) := by decide +kernel
theorem dX14_variablesIn_43 : decode cX14_variablesIn 43 = .ok (.getfield 34, 3) := by decide +kernel
theorem dX14_variablesIn_46 : decode cX14_variablesIn 46 = .ok (.sipush 160, 3) := by decide +kernel
theorem dX14_variablesIn_49 : decode cX14_variablesIn 49 = .ok (.iload_n 1, 1) := by decide +kernel
theorem dX14_variablesIn_50 : decode cX14_variablesIn 50 = .ok (.imul, 1) := by decide +kernel
theorem dX14_variablesIn_51 : decode cX14_variablesIn 51 = .ok (.iload 4, 2) := by decide +kernel
theorem dX14_variablesIn_53 : decode cX14_variablesIn 53 = .ok (.iadd, 1) := by decide +kernel
theorem dX14_variablesIn_54 : decode cX14_variablesIn 54 = .ok (.iconst 1, 1) := by decide +kernel
theorem dX14_variablesIn_55 : decode cX14_variablesIn 55 = .ok (.isub, 1) := by decide +kernel
theorem dX14_variablesIn_56 : decode cX14_variablesIn 56 = .ok (.iaload, 1) := by decide +kernel
theorem dX14_variablesIn_57 : decode cX14_variablesIn 57 = .ok (.istore 6, 2) := by decide +kernel
theorem dX14_variablesIn_59 : decode cX14_variablesIn 59 = .ok (.iload 5, 2) := by decide +kernel
theorem dX14_variablesIn_61 : decode cX14_variablesIn 61 = .ok (.bipush 123, 2) := by decide +kernel
theorem dX14_variablesIn_63 : decode cX14_variablesIn 63 = .ok (.if_icmp .ne 5, 3) := by decide +kernel
theorem dX14_variablesIn_66 : decode cX14_variablesIn 66 = .ok (.iconst 1, 1) := by decide +kernel
theorem dX14_variablesIn_67 : decode cX14_variablesIn 67 = .ok (.istore_n 3, 1) := by decide +kernel
theorem dX14_variablesIn_68 : decode cX14_variablesIn 68 = .ok (.iload 5, 2) := by decide +kernel
theorem dX14_variablesIn_70 : decode cX14_variablesIn 70 = .ok (.bipush 125, 2) := by decide +kernel
theorem dX14_variablesIn_72 : decode cX14_variablesIn 72 = .ok (.if_icmp .ne 5, 3) := by decide +kernel
theorem dX14_variablesIn_75 : decode cX14_variablesIn 75 = .ok (.iconst 0, 1) := by decide +kernel
theorem dX14_variablesIn_76 : decode cX14_variablesIn 76 = .ok (.istore_n 3, 1) := by decide +kernel
theorem dX14_variablesIn_77 : decode cX14_variablesIn 77 = .ok (.iload_n 3, 1) := by decide +kernel
theorem dX14_variablesIn_78 : decode cX14_variablesIn 78 = .ok (.ifCond .eq 37, 3) := by decide +kernel
theorem dX14_variablesIn_81 : decode cX14_variablesIn 81 = .ok (.iload 5, 2) := by decide +kernel
theorem dX14_variablesIn_83 : decode cX14_variablesIn 83 = .ok (.bipush 39, 2) := by decide +kernel
theorem dX14_variablesIn_85 : decode cX14_variablesIn 85 = .ok (.if_icmp .ne 30, 3) := by decide +kernel
theorem dX14_variablesIn_88 : decode cX14_variablesIn 88 = .ok (.iinc 4 1, 3) := by decide +kernel
theorem dX14_variablesIn_91 : decode cX14_variablesIn 91 = .ok (.aload_n 0, 1) := by decide +kernel
theorem dX14_variablesIn_92 : decode cX14_variablesIn 92 = .ok (.getfield 34, 3) := by decide +kernel
theorem dX14_variablesIn_95 : decode cX14_variablesIn 95 = .ok (.sipush 160, 3) := by decide +kernel
theorem dX14_variablesIn_98 : decode cX14_variablesIn 98 = .ok (.iload_n 1, 1) := by decide +kernel
theorem dX14_variablesIn_99 : decode cX14_variablesIn 99 = .ok (.imul, 1) := by decide +kernel
theorem dX14_variablesIn_100 : decode cX14_variablesIn 100 = .ok (.iload 4, 2) := by decide +kernel
theorem dX14_variablesIn_102 : decode cX14_variablesIn 102 = .ok (.iadd, 1) := by decide +kernel
theorem dX14_variablesIn_103 : decode cX14_variablesIn 103 = .ok (.iaload, 1) := by decide +kernel
theorem dX14_variablesIn_104 : decode cX14_variablesIn 104 = .ok (.bipush 39, 2) := by decide +kernel
theorem dX14_variablesIn_106 : decode cX14_variablesIn 106 = .ok (.if_icmp .eq 9, 3) := by decide +kernel
theorem dX14_variablesIn_109 : decode cX14_variablesIn 109 = .ok (.iinc 4 1, 3) := by decide +kernel
theorem dX14_variablesIn_112 : decode cX14_variablesIn 112 = .ok (.goto (-21), 3) := by decide +kernel
theorem dX14_variablesIn_115 : decode cX14_variablesIn 115 = .ok (.iload_n 3, 1) := by decide +kernel
theorem dX14_variablesIn_116 : decode cX14_variablesIn 116 = .ok (.ifCond .eq 59, 3) := by decide +kernel
theorem dX14_variablesIn_119 : decode cX14_variablesIn 119 = .ok (.iload 5, 2) := by decide +kernel
theorem dX14_variablesIn_121 : decode cX14_variablesIn 121 = .ok (.i2l, 1) := by decide +kernel
theorem dX14_variablesIn_122 : decode cX14_variablesIn 122 = .ok (.ldc2_w 266, 3) := by decide +kernel
theorem dX14_variablesIn_125 : decode cX14_variablesIn 125 = .ok (.ldc2_w 268, 3) := by decide +kernel
theorem dX14_variablesIn_128 : decode cX14_variablesIn 128 = .ok (.invokestatic 155, 3) := by decide +kernel
theorem dX14_variablesIn_131 : decode cX14_variablesIn 131 = .ok (.ifCond .eq 44, 3) := by decide +kernel
theorem dX14_variablesIn_134 : decode cX14_variablesIn 134 = .ok (.iload 6, 2) := by decide +kernel
theorem dX14_variablesIn_136 : decode cX14_variablesIn 136 = .ok (.bipush 124, 2) := by decide +kernel
theorem dX14_variablesIn_138 : decode cX14_variablesIn 138 = .ok (.if_icmp .ne 37, 3) := by decide +kernel
theorem dX14_variablesIn_141 : decode cX14_variablesIn 141 = .ok (.aload_n 0, 1) := by decide +kernel
theorem dX14_variablesIn_142 : decode cX14_variablesIn 142 = .ok (.getfield 34, 3) := by decide +kernel
theorem dX14_variablesIn_145 : decode cX14_variablesIn 145 = .ok (.sipush 160, 3) := by decide +kernel
theorem dX14_variablesIn_148 : decode cX14_variablesIn 148 = .ok (.iload_n 1, 1) := by decide +kernel
theorem dX14_variablesIn_149 : decode cX14_variablesIn 149 = .ok (.imul, 1) := by decide +kernel
theorem dX14_variablesIn_150 : decode cX14_variablesIn 150 = .ok (.iload 4, 2) := by decide +kernel
theorem dX14_variablesIn_152 : decode cX14_variablesIn 152 = .ok (.iadd, 1) := by decide +kernel
theorem dX14_variablesIn_153 : decode cX14_variablesIn 153 = .ok (.iconst 1, 1) := by decide +kernel
theorem dX14_variablesIn_154 : decode cX14_variablesIn 154 = .ok (.iadd, 1) := by decide +kernel
theorem dX14_variablesIn_155 : decode cX14_variablesIn 155 = .ok (.iaload, 1) := by decide +kernel
theorem dX14_variablesIn_156 : decode cX14_variablesIn 156 = .ok (.i2l, 1) := by decide +kernel
theorem dX14_variablesIn_157 : decode cX14_variablesIn 157 = .ok (.ldc2_w 266, 3) := by decide +kernel
theorem dX14_variablesIn_160 : decode cX14_variablesIn 160 = .ok (.ldc2_w 268, 3) := by decide +kernel
theorem dX14_variablesIn_163 : decode cX14_variablesIn 163 = .ok (.invokestatic 155, 3) := by decide +kernel
theorem dX14_variablesIn_166 : decode cX14_variablesIn 166 = .ok (.ifCond .eq 38, 3) := by decide +kernel
theorem dX14_variablesIn_169 : decode cX14_variablesIn 169 = .ok (.iinc 4 1, 3) := by decide +kernel
theorem dX14_variablesIn_172 : decode cX14_variablesIn 172 = .ok (.goto (-31), 3) := by decide +kernel
theorem dX14_variablesIn_175 : decode cX14_variablesIn 175 = .ok (.iload_n 3, 1) := by decide +kernel
theorem dX14_variablesIn_176 : decode cX14_variablesIn 176 = .ok (.ifCond .eq 28, 3) := by decide +kernel
theorem dX14_variablesIn_179 : decode cX14_variablesIn 179 = .ok (.iload 5, 2) := by decide +kernel
theorem dX14_variablesIn_181 : decode cX14_variablesIn 181 = .ok (.i2l, 1) := by decide +kernel
theorem dX14_variablesIn_182 : decode cX14_variablesIn 182 = .ok (.ldc2_w 266, 3) := by decide +kernel
theorem dX14_variablesIn_185 : decode cX14_variablesIn 185 = .ok (.ldc2_w 286, 3) := by decide +kernel
theorem dX14_variablesIn_188 : decode cX14_variablesIn 188 = .ok (.invokestatic 155, 3) := by decide +kernel
theorem dX14_variablesIn_191 : decode cX14_variablesIn 191 = .ok (.ifCond .eq 13, 3) := by decide +kernel
theorem dX14_variablesIn_194 : decode cX14_variablesIn 194 = .ok (.iload_n 2, 1) := by decide +kernel
theorem dX14_variablesIn_195 : decode cX14_variablesIn 195 = .ok (.iconst 1, 1) := by decide +kernel
theorem dX14_variablesIn_196 : decode cX14_variablesIn 196 = .ok (.iload 5, 2) := by decide +kernel
theorem dX14_variablesIn_198 : decode cX14_variablesIn 198 = .ok (.bipush 97, 2) := by decide +kernel
theorem dX14_variablesIn_200 : decode cX14_variablesIn 200 = .ok (.isub, 1) := by decide +kernel
theorem dX14_variablesIn_201 : decode cX14_variablesIn 201 = .ok (.ishl, 1) := by decide +kernel
theorem dX14_variablesIn_202 : decode cX14_variablesIn 202 = .ok (.ior, 1) := by decide +kernel
theorem dX14_variablesIn_203 : decode cX14_variablesIn 203 = .ok (.istore_n 2, 1) := by decide +kernel
theorem dX14_variablesIn_204 : decode cX14_variablesIn 204 = .ok (.iinc 4 1, 3) := by decide +kernel
theorem dX14_variablesIn_207 : decode cX14_variablesIn 207 = .ok (.goto (-200), 3) := by decide +kernel
theorem dX14_variablesIn_210 : decode cX14_variablesIn 210 = .ok (.iload_n 2, 1) := by decide +kernel
theorem dX14_variablesIn_211 : decode cX14_variablesIn 211 = .ok (.ireturn, 1) := by decide +kernel
theorem dX14_has_0 : decode cX14_has 0 = .ok (.iload_n 1, 1) := by decide +kernel
theorem dX14_has_1 : decode cX14_has 1 = .ok (.i2l, 1) := by decide +kernel
theorem dX14_has_2 : decode cX14_has 2 = .ok (.lconst 0, 1) := by decide +kernel
theorem dX14_has_3 : decode cX14_has 3 = .ok (.ldc2_w 315, 3) := by decide +kernel
theorem dX14_has_6 : decode cX14_has 6 = .ok (.invokestatic 155, 3) := by decide +kernel
theorem dX14_has_9 : decode cX14_has 9 = .ok (.ifCond .eq 15, 3) := by decide +kernel
theorem dX14_has_12 : decode cX14_has 12 = .ok (.iload_n 2, 1) := by decide +kernel
theorem dX14_has_13 : decode cX14_has 13 = .ok (.i2l, 1) := by decide +kernel
theorem dX14_has_14 : decode cX14_has 14 = .ok (.lconst 0, 1) := by decide +kernel
theorem dX14_has_15 : decode cX14_has 15 = .ok (.ldc2_w 327, 3) := by decide +kernel
theorem dX14_has_18 : decode cX14_has 18 = .ok (.invokestatic 155, 3) := by decide +kernel
theorem dX14_has_21 : decode cX14_has 21 = .ok (.ifCond .ne 5, 3) := by decide +kernel
theorem dX14_has_24 : decode cX14_has 24 = .ok (.iconst (-1), 1) := by decide +kernel
theorem dX14_has_25 : decode cX14_has 25 = .ok (.ireturn, 1) := by decide +kernel
theorem dX14_has_26 : decode cX14_has 26 = .ok (.aload_n 0, 1) := by decide +kernel
theorem dX14_has_27 : decode cX14_has 27 = .ok (.getfield 37, 3) := by decide +kernel
theorem dX14_has_30 : decode cX14_has 30 = .ok (.iload_n 1, 1) := by decide +kernel
theorem dX14_has_31 : decode cX14_has 31 = .ok (.iaload, 1) := by decide +kernel
theorem dX14_has_32 : decode cX14_has 32 = .ok (.ifCond .ge 6, 3) := by decide +kernel
theorem dX14_has_35 : decode cX14_has 35 = .ok (.bipush (-3), 2) := by decide +kernel
theorem dX14_has_37 : decode cX14_has 37 = .ok (.ireturn, 1) := by decide +kernel
theorem dX14_has_38 : decode cX14_has 38 = .ok (.iload_n 2, 1) := by decide +kernel
theorem dX14_has_39 : decode cX14_has 39 = .ok (.tableswitch 87 0 5 #[37, 43, 55, 61, 71, 81], 37) := by decide +kernel
theorem dX14_has_76 : decode cX14_has 76 = .ok (.aload_n 0, 1) := by decide +kernel
theorem dX14_has_77 : decode cX14_has 77 = .ok (.iload_n 1, 1) := by decide +kernel
theorem dX14_has_78 : decode cX14_has 78 = .ok (.invokevirtual 324, 3) := by decide +kernel
theorem dX14_has_81 : decode cX14_has 81 = .ok (.ireturn, 1) := by decide +kernel
theorem dX14_has_82 : decode cX14_has 82 = .ok (.aload_n 0, 1) := by decide +kernel
theorem dX14_has_83 : decode cX14_has 83 = .ok (.iload_n 1, 1) := by decide +kernel
theorem dX14_has_84 : decode cX14_has 84 = .ok (.aload_n 0, 1) := by decide +kernel
theorem dX14_has_85 : decode cX14_has 85 = .ok (.getfield 37, 3) := by decide +kernel
theorem dX14_has_88 : decode cX14_has 88 = .ok (.iload_n 1, 1) := by decide +kernel
theorem dX14_has_89 : decode cX14_has 89 = .ok (.iaload, 1) := by decide +kernel
theorem dX14_has_90 : decode cX14_has 90 = .ok (.invokevirtual 329, 3) := by decide +kernel
theorem dX14_has_93 : decode cX14_has 93 = .ok (.ireturn, 1) := by decide +kernel
theorem dX14_has_94 : decode cX14_has 94 = .ok (.aload_n 0, 1) := by decide +kernel
theorem dX14_has_95 : decode cX14_has 95 = .ok (.iload_n 1, 1) := by decide +kernel
theorem dX14_has_96 : decode cX14_has 96 = .ok (.invokevirtual 332, 3) := by decide +kernel
theorem dX14_has_99 : decode cX14_has 99 = .ok (.ireturn, 1) := by decide +kernel
theorem dX14_has_100 : decode cX14_has 100 = .ok (.aload_n 0, 1) := by decide +kernel
theorem dX14_has_101 : decode cX14_has 101 = .ok (.iload_n 1, 1) := by decide +kernel
theorem dX14_has_102 : decode cX14_has 102 = .ok (.bipush 61, 2) := by decide +kernel
theorem dX14_has_104 : decode cX14_has 104 = .ok (.bipush 65, 2) := by decide +kernel
theorem dX14_has_106 : decode cX14_has 106 = .ok (.invokevirtual 335, 3) := by decide +kernel
theorem dX14_has_109 : decode cX14_has 109 = .ok (.ireturn, 1) := by decide +kernel
theorem dX14_has_110 : decode cX14_has 110 = .ok (.aload_n 0, 1) := by decide +kernel
theorem dX14_has_111 : decode cX14_has 111 = .ok (.iload_n 1, 1) := by decide +kernel
theorem dX14_has_112 : decode cX14_has 112 = .ok (.bipush 62, 2) := by decide +kernel
theorem dX14_has_114 : decode cX14_has 114 = .ok (.bipush 48, 2) := by decide +kernel
theorem dX14_has_116 : decode cX14_has 116 = .ok (.invokevirtual 335, 3) := by decide +kernel
theorem dX14_has_119 : decode cX14_has 119 = .ok (.ireturn, 1) := by decide +kernel
theorem dX14_has_120 : decode cX14_has 120 = .ok (.aload_n 0, 1) := by decide +kernel
theorem dX14_has_121 : decode cX14_has 121 = .ok (.iload_n 1, 1) := by decide +kernel
theorem dX14_has_122 : decode cX14_has 122 = .ok (.invokevirtual 338, 3) := by decide +kernel
theorem dX14_has_125 : decode cX14_has 125 = .ok (.ireturn, 1) := by decide +kernel
theorem dX14_has_126 : decode cX14_has 126 = .ok (.aload_n 0, 1) := by decide +kernel
theorem dX14_has_127 : decode cX14_has 127 = .ok (.getfield 37, 3) := by decide +kernel
theorem dX14_has_130 : decode cX14_has 130 = .ok (.iload_n 1, 1) := by decide +kernel
theorem dX14_has_131 : decode cX14_has 131 = .ok (.iaload, 1) := by decide +kernel
theorem dX14_has_132 : decode cX14_has 132 = .ok (.ireturn, 1) := by decide +kernel
theorem dX14_byteAt_0 : decode cX14_byteAt 0 = .ok (.aload_n 0, 1) := by decide +kernel
theorem dX14_byteAt_1 : decode cX14_byteAt 1 = .ok (.getfield 34, 3) := by decide +kernel
theorem dX14_byteAt_4 : decode cX14_byteAt 4 = .ok (.sipush 160, 3) := by decide +kernel
theorem dX14_byteAt_7 : decode cX14_byteAt 7 = .ok (.iload_n 1, 1) := by decide +kernel
theorem dX14_byteAt_8 : decode cX14_byteAt 8 = .ok (.imul, 1) := by decide +kernel
theorem dX14_byteAt_9 : decode cX14_byteAt 9 = .ok (.iload_n 2, 1) := by decide +kernel
theorem dX14_byteAt_10 : decode cX14_byteAt 10 = .ok (.iadd, 1) := by decide +kernel
theorem dX14_byteAt_11 : decode cX14_byteAt 11 = .ok (.iaload, 1) := by decide +kernel
theorem dX14_byteAt_12 : decode cX14_byteAt 12 = .ok (.ireturn, 1) := by decide +kernel
theorem dX14_figuresAt_0 : decode cX14_figuresAt 0 = .ok (.iconst 0, 1) := by decide +kernel
theorem dX14_figuresAt_1 : decode cX14_figuresAt 1 = .ok (.istore_n 2, 1) := by decide +kernel
theorem dX14_figuresAt_2 : decode cX14_figuresAt 2 = .ok (.aload_n 0, 1) := by decide +kernel
theorem dX14_figuresAt_3 : decode cX14_figuresAt 3 = .ok (.iload_n 1, 1) := by decide +kernel
theorem dX14_figuresAt_4 : decode cX14_figuresAt 4 = .ok (.aload_n 0, 1) := by decide +kernel
theorem dX14_figuresAt_5 : decode cX14_figuresAt 5 = .ok (.getfield 341, 3) := by decide +kernel
theorem dX14_figuresAt_8 : decode cX14_figuresAt 8 = .ok (.invokevirtual 344, 3) := by decide +kernel
theorem dX14_figuresAt_11 : decode cX14_figuresAt 11 = .ok (.i2l, 1) := by decide +kernel
theorem dX14_figuresAt_12 : decode cX14_figuresAt 12 = .ok (.ldc2_w 159, 3) := by decide +kernel
theorem dX14_figuresAt_15 : decode cX14_figuresAt 15 = .ok (.ldc2_w 161, 3) := by decide +kernel
theorem dX14_figuresAt_18 : decode cX14_figuresAt 18 = .ok (.invokestatic 155, 3) := by decide +kernel
theorem dX14_figuresAt_21 : decode cX14_figuresAt 21 = .ok (.ifCond .eq 34, 3) := by decide +kernel
theorem dX14_figuresAt_24 : decode cX14_figuresAt 24 = .ok (.bipush 10, 2) := by decide +kernel
theorem dX14_figuresAt_26 : decode cX14_figuresAt 26 = .ok (.iload_n 2, 1) := by decide +kernel
theorem dX14_figuresAt_27 : decode cX14_figuresAt 27 = .ok (.imul, 1) := by decide +kernel
theorem dX14_figuresAt_28 : decode cX14_figuresAt 28 = .ok (.aload_n 0, 1) := by decide +kernel
theorem dX14_figuresAt_29 : decode cX14_figuresAt 29 = .ok (.iload_n 1, 1) := by decide +kernel
theorem dX14_figuresAt_30 : decode cX14_figuresAt 30 = .ok (.aload_n 0, 1) := by decide +kernel
theorem dX14_figuresAt_31 : decode cX14_figuresAt 31 = .ok (.getfield 341, 3) := by decide +kernel
theorem dX14_figuresAt_34 : decode cX14_figuresAt 34 = .ok (.invokevirtual 344, 3) := by decide +kernel
theorem dX14_figuresAt_37 : decode cX14_figuresAt 37 = .ok (.iadd, 1) := by decide +kernel
theorem dX14_figuresAt_38 : decode cX14_figuresAt 38 = .ok (.bipush 48, 2) := by decide +kernel
theorem dX14_figuresAt_40 : decode cX14_figuresAt 40 = .ok (.isub, 1) := by decide +kernel
theorem dX14_figuresAt_41 : decode cX14_figuresAt 41 = .ok (.istore_n 2, 1) := by decide +kernel
theorem dX14_figuresAt_42 : decode cX14_figuresAt 42 = .ok (.aload_n 0, 1) := by decide +kernel
theorem dX14_figuresAt_43 : decode cX14_figuresAt 43 = .ok (.dup, 1) := by decide +kernel
theorem dX14_figuresAt_44 : decode cX14_figuresAt 44 = .ok (.getfield 341, 3) := by decide +kernel
theorem dX14_figuresAt_47 : decode cX14_figuresAt 47 = .ok (.iconst 1, 1) := by decide +kernel
theorem dX14_figuresAt_48 : decode cX14_figuresAt 48 = .ok (.iadd, 1) := by decide +kernel
theorem dX14_figuresAt_49 : decode cX14_figuresAt 49 = .ok (.putfield 341, 3) := by decide +kernel
theorem dX14_figuresAt_52 : decode cX14_figuresAt 52 = .ok (.goto (-50), 3) := by decide +kernel
theorem dX14_figuresAt_55 : decode cX14_figuresAt 55 = .ok (.iload_n 2, 1) := by decide +kernel
theorem dX14_figuresAt_56 : decode cX14_figuresAt 56 = .ok (.ireturn, 1) := by decide +kernel
theorem dX14_operand_0 : decode cX14_operand 0 = .ok (.aload_n 0, 1) := by decide +kernel
theorem dX14_operand_1 : decode cX14_operand 1 = .ok (.iload_n 1, 1) := by decide +kernel
theorem dX14_operand_2 : decode cX14_operand 2 = .ok (.aload_n 0, 1) := by decide +kernel
theorem dX14_operand_3 : decode cX14_operand 3 = .ok (.getfield 341, 3) := by decide +kernel
theorem dX14_operand_6 : decode cX14_operand 6 = .ok (.invokevirtual 344, 3) := by decide +kernel
theorem dX14_operand_9 : decode cX14_operand 9 = .ok (.istore_n 3, 1) := by decide +kernel
theorem dX14_operand_10 : decode cX14_operand 10 = .ok (.iload_n 3, 1) := by decide +kernel
theorem dX14_operand_11 : decode cX14_operand 11 = .ok (.i2l, 1) := by decide +kernel
theorem dX14_operand_12 : decode cX14_operand 12 = .ok (.ldc2_w 266, 3) := by decide +kernel
theorem dX14_operand_15 : decode cX14_operand 15 = .ok (.ldc2_w 286, 3) := by decide +kernel
theorem dX14_operand_18 : decode cX14_operand 18 = .ok (.invokestatic 155, 3) := by decide +kernel
theorem dX14_operand_21 : decode cX14_operand 21 = .ok (.ifCond .eq 24, 3) := by decide +kernel
theorem dX14_operand_24 : decode cX14_operand 24 = .ok (.aload_n 0, 1) := by decide +kernel
theorem dX14_operand_25 : decode cX14_operand 25 = .ok (.iload_n 3, 1) := by decide +kernel
theorem dX14_operand_26 : decode cX14_operand 26 = .ok (.bipush 97, 2) := by decide +kernel
theorem dX14_operand_28 : decode cX14_operand 28 = .ok (.isub, 1) := by decide +kernel
theorem dX14_operand_29 : decode cX14_operand 29 = .ok (.iload_n 2, 1) := by decide +kernel
theorem dX14_operand_30 : decode cX14_operand 30 = .ok (.invokevirtual 347, 3) := by decide +kernel
theorem dX14_operand_33 : decode cX14_operand 33 = .ok (.aload_n 0, 1) := by decide +kernel
theorem dX14_operand_34 : decode cX14_operand 34 = .ok (.dup, 1) := by decide +kernel
theorem dX14_operand_35 : decode cX14_operand 35 = .ok (.getfield 341, 3) := by decide +kernel
theorem dX14_operand_38 : decode cX14_operand 38 = .ok (.iconst 1, 1) := by decide +kernel
theorem dX14_operand_39 : decode cX14_operand 39 = .ok (.iadd, 1) := by decide +kernel
theorem dX14_operand_40 : decode cX14_operand 40 = .ok (.putfield 341, 3) := by decide +kernel
theorem dX14_operand_43 : decode cX14_operand 43 = .ok (.iconst 0, 1) := by decide +kernel
theorem dX14_operand_44 : decode cX14_operand 44 = .ok (.ireturn, 1) := by decide +kernel
theorem dX14_operand_45 : decode cX14_operand 45 = .ok (.iload_n 3, 1) := by decide +kernel
theorem dX14_operand_46 : decode cX14_operand 46 = .ok (.bipush 35, 2) := by decide +kernel
theorem dX14_operand_48 : decode cX14_operand 48 = .ok (.if_icmp .ne 41, 3) := by decide +kernel
theorem dX14_operand_51 : decode cX14_operand 51 = .ok (.aload_n 0, 1) := by decide +kernel
theorem dX14_operand_52 : decode cX14_operand 52 = .ok (.dup, 1) := by decide +kernel
theorem dX14_operand_53 : decode cX14_operand 53 = .ok (.getfield 341, 3) := by decide +kernel
theorem dX14_operand_56 : decode cX14_operand 56 = .ok (.iconst 1, 1) := by decide +kernel
theorem dX14_operand_57 : decode cX14_operand 57 = .ok (.iadd, 1) := by decide +kernel
theorem dX14_operand_58 : decode cX14_operand 58 = .ok (.putfield 341, 3) := by decide +kernel
theorem dX14_operand_61 : decode cX14_operand 61 = .ok (.aload_n 0, 1) := by decide +kernel
theorem dX14_operand_62 : decode cX14_operand 62 = .ok (.getfield 350, 3) := by decide +kernel
theorem dX14_operand_65 : decode cX14_operand 65 = .ok (.ifCond .ne 6, 3) := by decide +kernel
theorem dX14_operand_68 : decode cX14_operand 68 = .ok (.bipush 9, 2) := by decide +kernel
theorem dX14_operand_70 : decode cX14_operand 70 = .ok (.ireturn, 1) := by decide +kernel
theorem dX14_operand_71 : decode cX14_operand 71 = .ok (.aload_n 0, 1) := by decide +kernel
theorem dX14_operand_72 : decode cX14_operand 72 = .ok (.iload_n 2, 1) := by decide +kernel
theorem dX14_operand_73 : decode cX14_operand 73 = .ok (.aload_n 0, 1) := by decide +kernel
theorem dX14_operand_74 : decode cX14_operand 74 = .ok (.getfield 80, 3) := by decide +kernel
theorem dX14_operand_77 : decode cX14_operand 77 = .ok (.aload_n 0, 1) := by decide +kernel
theorem dX14_operand_78 : decode cX14_operand 78 = .ok (.getfield 350, 3) := by decide +kernel
theorem dX14_operand_81 : decode cX14_operand 81 = .ok (.iconst 1, 1) := by decide +kernel
theorem dX14_operand_82 : decode cX14_operand 82 = .ok (.isub, 1) := by decide +kernel
theorem dX14_operand_83 : decode cX14_operand 83 = .ok (.iaload, 1) := by decide +kernel
theorem dX14_operand_84 : decode cX14_operand 84 = .ok (.invokevirtual 171, 3) := by decide +kernel
theorem dX14_operand_87 : decode cX14_operand 87 = .ok (.iconst 0, 1) := by decide +kernel
theorem dX14_operand_88 : decode cX14_operand 88 = .ok (.ireturn, 1) := by decide +kernel
theorem dX14_operand_89 : decode cX14_operand 89 = .ok (.iload_n 3, 1) := by decide +kernel
theorem dX14_operand_90 : decode cX14_operand 90 = .ok (.bipush 39, 2) := by decide +kernel
theorem dX14_operand_92 : decode cX14_operand 92 = .ok (.if_icmp .ne 101, 3) := by decide +kernel
theorem dX14_operand_95 : decode cX14_operand 95 = .ok (.aload_n 0, 1) := by decide +kernel
theorem dX14_operand_96 : decode cX14_operand 96 = .ok (.getfield 11, 3) := by decide +kernel
theorem dX14_operand_99 : decode cX14_operand 99 = .ok (.iload_n 2, 1) := by decide +kernel
theorem dX14_operand_100 : decode cX14_operand 100 = .ok (.iconst 3, 1) := by decide +kernel
theorem dX14_operand_101 : decode cX14_operand 101 = .ok (.iastore, 1) := by decide +kernel
theorem dX14_operand_102 : decode cX14_operand 102 = .ok (.aload_n 0, 1) := by decide +kernel
theorem dX14_operand_103 : decode cX14_operand 103 = .ok (.getfield 18, 3) := by decide +kernel
theorem dX14_operand_106 : decode cX14_operand 106 = .ok (.iload_n 2, 1) := by decide +kernel
theorem dX14_operand_107 : decode cX14_operand 107 = .ok (.iconst 0, 1) := by decide +kernel
theorem dX14_operand_108 : decode cX14_operand 108 = .ok (.iastore, 1) := by decide +kernel
theorem dX14_operand_109 : decode cX14_operand 109 = .ok (.aload_n 0, 1) := by decide +kernel
theorem dX14_operand_110 : decode cX14_operand 110 = .ok (.dup, 1) := by decide +kernel
theorem dX14_operand_111 : decode cX14_operand 111 = .ok (.getfield 341, 3) := by decide +kernel
theorem dX14_operand_114 : decode cX14_operand 114 = .ok (.iconst 1, 1) := by decide +kernel
theorem dX14_operand_115 : decode cX14_operand 115 = .ok (.iadd, 1) := by decide +kernel
theorem dX14_operand_116 : decode cX14_operand 116 = .ok (.putfield 341, 3) := by decide +kernel
theorem dX14_operand_119 : decode cX14_operand 119 = .ok (.aload_n 0, 1) := by decide +kernel
theorem dX14_operand_120 : decode cX14_operand 120 = .ok (.iload_n 1, 1) := by decide +kernel
theorem dX14_operand_121 : decode cX14_operand 121 = .ok (.aload_n 0, 1) := by decide +kernel
theorem dX14_operand_122 : decode cX14_operand 122 = .ok (.getfield 341, 3) := by decide +kernel
theorem dX14_operand_125 : decode cX14_operand 125 = .ok (.invokevirtual 344, 3) := by decide +kernel
theorem dX14_operand_128 : decode cX14_operand 128 = .ok (.bipush 39, 2) := by decide +kernel
theorem dX14_operand_130 : decode cX14_operand 130 = .ok (.if_icmp .eq 51, 3) := by decide +kernel
theorem dX14_operand_133 : decode cX14_operand 133 = .ok (.aload_n 0, 1) := by decide +kernel
theorem dX14_operand_134 : decode cX14_operand 134 = .ok (.getfield 21, 3) := by decide +kernel
theorem dX14_operand_137 : decode cX14_operand 137 = .ok (.bipush 16, 2) := by decide +kernel
theorem dX14_operand_139 : decode cX14_operand 139 = .ok (.iload_n 2, 1) := by decide +kernel
theorem dX14_operand_140 : decode cX14_operand 140 = .ok (.imul, 1) := by decide +kernel
theorem dX14_operand_141 : decode cX14_operand 141 = .ok (.aload_n 0, 1) := by decide +kernel
theorem dX14_operand_142 : decode cX14_operand 142 = .ok (.getfield 18, 3) := by decide +kernel
theorem dX14_operand_145 : decode cX14_operand 145 = .ok (.iload_n 2, 1) := by decide +kernel
theorem dX14_operand_146 : decode cX14_operand 146 = .ok (.iaload, 1) := by decide +kernel
theorem dX14_operand_147 : decode cX14_operand 147 = .ok (.iadd, 1) := by decide +kernel
theorem dX14_operand_148 : decode cX14_operand 148 = .ok (.aload_n 0, 1) := by decide +kernel
theorem dX14_operand_149 : decode cX14_operand 149 = .ok (.iload_n 1, 1) := by decide +kernel
theorem dX14_operand_150 : decode cX14_operand 150 = .ok (.aload_n 0, 1) := by decide +kernel
theorem dX14_operand_151 : decode cX14_operand 151 = .ok (.getfield 341, 3) := by decide +kernel
theorem dX14_operand_154 : decode cX14_operand 154 = .ok (.invokevirtual 344, 3) := by decide +kernel
theorem dX14_operand_157 : decode cX14_operand 157 = .ok (.iastore, 1) := by decide +kernel
theorem dX14_operand_158 : decode cX14_operand 158 = .ok (.aload_n 0, 1) := by decide +kernel
theorem dX14_operand_159 : decode cX14_operand 159 = .ok (.getfield 18, 3) := by decide +kernel
theorem dX14_operand_162 : decode cX14_operand 162 = .ok (.iload_n 2, 1) := by decide +kernel
theorem dX14_operand_163 : decode cX14_operand 163 = .ok (.dup2, 1) := by decide +kernel
theorem dX14_operand_164 : decode cX14_operand 164 = .ok (.iaload, 1) := by decide +kernel
theorem dX14_operand_165 : decode cX14_operand 165 = .ok (.iconst 1, 1) := by decide +kernel
theorem dX14_operand_166 : decode cX14_operand 166 = .ok (.iadd, 1) := by decide +kernel
theorem dX14_operand_167 : decode cX14_operand 167 = .ok (.iastore, 1) := by decide +kernel
theorem dX14_operand_168 : decode cX14_operand 168 = .ok (.aload_n 0, 1) := by decide +kernel
theorem dX14_operand_169 : decode cX14_operand 169 = .ok (.dup, 1) := by decide +kernel
theorem dX14_operand_170 : decode cX14_operand 170 = .ok (.getfield 341, 3) := by decide +kernel
theorem dX14_operand_173 : decode cX14_operand 173 = .ok (.iconst 1, 1) := by decide +kernel
theorem dX14_operand_174 : decode cX14_operand 174 = .ok (.iadd, 1) := by decide +kernel
theorem dX14_operand_175 : decode cX14_operand 175 = .ok (.putfield 341, 3) := by decide +kernel
theorem dX14_operand_178 : decode cX14_operand 178 = .ok (.goto (-59), 3) := by decide +kernel
theorem dX14_operand_181 : decode cX14_operand 181 = .ok (.aload_n 0, 1) := by decide +kernel
theorem dX14_operand_182 : decode cX14_operand 182 = .ok (.dup, 1) := by decide +kernel
theorem dX14_operand_183 : decode cX14_operand 183 = .ok (.getfield 341, 3) := by decide +kernel
theorem dX14_operand_186 : decode cX14_operand 186 = .ok (.iconst 1, 1) := by decide +kernel
theorem dX14_operand_187 : decode cX14_operand 187 = .ok (.iadd, 1) := by decide +kernel
theorem dX14_operand_188 : decode cX14_operand 188 = .ok (.putfield 341, 3) := by decide +kernel
theorem dX14_operand_191 : decode cX14_operand 191 = .ok (.iconst 0, 1) := by decide +kernel
theorem dX14_operand_192 : decode cX14_operand 192 = .ok (.ireturn, 1) := by decide +kernel
theorem dX14_operand_193 : decode cX14_operand 193 = .ok (.aload_n 0, 1) := by decide +kernel
theorem dX14_operand_194 : decode cX14_operand 194 = .ok (.dup, 1) := by decide +kernel
theorem dX14_operand_195 : decode cX14_operand 195 = .ok (.getfield 341, 3) := by decide +kernel
theorem dX14_operand_198 : decode cX14_operand 198 = .ok (.iload_n 3, 1) := by decide +kernel
