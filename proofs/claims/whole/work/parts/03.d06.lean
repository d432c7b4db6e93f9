theorem dX14_loop_224 : decode cX14_loop 224 = .ok (.aload_n 0, 1) := by decide +kernel
theorem dX14_loop_225 : decode cX14_loop 225 = .ok (.iload_n 1, 1) := by decide +kernel
theorem dX14_loop_226 : decode cX14_loop 226 = .ok (.iload_n 2, 1) := by decide +kernel
theorem dX14_loop_227 : decode cX14_loop 227 = .ok (.iload 14, 2) := by decide +kernel
theorem dX14_loop_229 : decode cX14_loop 229 = .ok (.iload 13, 2) := by decide +kernel
theorem dX14_loop_231 : decode cX14_loop 231 = .ok (.invokevirtual 472, 3) := by decide +kernel
theorem dX14_loop_234 : decode cX14_loop 234 = .ok (.goto 17, 3) := by decide +kernel
theorem dX14_loop_237 : decode cX14_loop 237 = .ok (.aload_n 0, 1) := by decide +kernel
theorem dX14_loop_238 : decode cX14_loop 238 = .ok (.iload_n 1, 1) := by decide +kernel
theorem dX14_loop_239 : decode cX14_loop 239 = .ok (.iload_n 2, 1) := by decide +kernel
theorem dX14_loop_240 : decode cX14_loop 240 = .ok (.iload 9, 2) := by decide +kernel
theorem dX14_loop_242 : decode cX14_loop 242 = .ok (.iload 4, 2) := by decide +kernel
theorem dX14_loop_244 : decode cX14_loop 244 = .ok (.iload 5, 2) := by decide +kernel
theorem dX14_loop_246 : decode cX14_loop 246 = .ok (.iload 7, 2) := by decide +kernel
theorem dX14_loop_248 : decode cX14_loop 248 = .ok (.invokevirtual 475, 3) := by decide +kernel
theorem dX14_loop_251 : decode cX14_loop 251 = .ok (.iload 11, 2) := by decide +kernel
theorem dX14_loop_253 : decode cX14_loop 253 = .ok (.ifCond .eq 46, 3) := by decide +kernel
theorem dX14_loop_256 : decode cX14_loop 256 = .ok (.aload_n 0, 1) := by decide +kernel
theorem dX14_loop_257 : decode cX14_loop 257 = .ok (.getfield 409, 3) := by decide +kernel
theorem dX14_loop_260 : decode cX14_loop 260 = .ok (.ifCond .ne 39, 3) := by decide +kernel
theorem dX14_loop_263 : decode cX14_loop 263 = .ok (.aload_n 0, 1) := by decide +kernel
theorem dX14_loop_264 : decode cX14_loop 264 = .ok (.getfield 423, 3) := by decide +kernel
theorem dX14_loop_267 : decode cX14_loop 267 = .ok (.ifCond .ne 8, 3) := by decide +kernel
theorem dX14_loop_270 : decode cX14_loop 270 = .ok (.iload 15, 2) := by decide +kernel
theorem dX14_loop_272 : decode cX14_loop 272 = .ok (.ifCond .eq 27, 3) := by decide +kernel
theorem dX14_loop_275 : decode cX14_loop 275 = .ok (.aload_n 0, 1) := by decide +kernel
theorem dX14_loop_276 : decode cX14_loop 276 = .ok (.iload_n 1, 1) := by decide +kernel
theorem dX14_loop_277 : decode cX14_loop 277 = .ok (.iload_n 2, 1) := by decide +kernel
theorem dX14_loop_278 : decode cX14_loop 278 = .ok (.iload 10, 2) := by decide +kernel
theorem dX14_loop_280 : decode cX14_loop 280 = .ok (.iconst 3, 1) := by decide +kernel
theorem dX14_loop_281 : decode cX14_loop 281 = .ok (.iadd, 1) := by decide +kernel
theorem dX14_loop_282 : decode cX14_loop 282 = .ok (.iload 4, 2) := by decide +kernel
theorem dX14_loop_284 : decode cX14_loop 284 = .ok (.iload 5, 2) := by decide +kernel
theorem dX14_loop_286 : decode cX14_loop 286 = .ok (.invokevirtual 468, 3) := by decide +kernel
theorem dX14_loop_289 : decode cX14_loop 289 = .ok (.aload_n 0, 1) := by decide +kernel
theorem dX14_loop_290 : decode cX14_loop 290 = .ok (.iload_n 1, 1) := by decide +kernel
theorem dX14_loop_291 : decode cX14_loop 291 = .ok (.iload_n 2, 1) := by decide +kernel
theorem dX14_loop_292 : decode cX14_loop 292 = .ok (.iload 14, 2) := by decide +kernel
theorem dX14_loop_294 : decode cX14_loop 294 = .ok (.iload 13, 2) := by decide +kernel
theorem dX14_loop_296 : decode cX14_loop 296 = .ok (.invokevirtual 472, 3) := by decide +kernel
theorem dX14_loop_299 : decode cX14_loop 299 = .ok (.iload 12, 2) := by decide +kernel
theorem dX14_loop_301 : decode cX14_loop 301 = .ok (.iconst 3, 1) := by decide +kernel
theorem dX14_loop_302 : decode cX14_loop 302 = .ok (.iadd, 1) := by decide +kernel
theorem dX14_loop_303 : decode cX14_loop 303 = .ok (.ireturn, 1) := by decide +kernel
theorem dX14_turns_0 : decode cX14_turns 0 = .ok (.aload_n 0, 1) := by decide +kernel
theorem dX14_turns_1 : decode cX14_turns 1 = .ok (.getfield 18, 3) := by decide +kernel
theorem dX14_turns_4 : decode cX14_turns 4 = .ok (.bipush 8, 2) := by decide +kernel
theorem dX14_turns_6 : decode cX14_turns 6 = .ok (.iaload, 1) := by decide +kernel
theorem dX14_turns_7 : decode cX14_turns 7 = .ok (.istore 7, 2) := by decide +kernel
theorem dX14_turns_9 : decode cX14_turns 9 = .ok (.iconst 0, 1) := by decide +kernel
theorem dX14_turns_10 : decode cX14_turns 10 = .ok (.istore 8, 2) := by decide +kernel
theorem dX14_turns_12 : decode cX14_turns 12 = .ok (.iload 8, 2) := by decide +kernel
theorem dX14_turns_14 : decode cX14_turns 14 = .ok (.iload 7, 2) := by decide +kernel
theorem dX14_turns_16 : decode cX14_turns 16 = .ok (.if_icmp .ge 35, 3) := by decide +kernel
theorem dX14_turns_19 : decode cX14_turns 19 = .ok (.aload_n 0, 1) := by decide +kernel
theorem dX14_turns_20 : decode cX14_turns 20 = .ok (.getfield 83, 3) := by decide +kernel
theorem dX14_turns_23 : decode cX14_turns 23 = .ok (.bipush 6, 2) := by decide +kernel
theorem dX14_turns_25 : decode cX14_turns 25 = .ok (.aload_n 0, 1) := by decide +kernel
theorem dX14_turns_26 : decode cX14_turns 26 = .ok (.getfield 350, 3) := by decide +kernel
theorem dX14_turns_29 : decode cX14_turns 29 = .ok (.imul, 1) := by decide +kernel
theorem dX14_turns_30 : decode cX14_turns 30 = .ok (.iload 8, 2) := by decide +kernel
theorem dX14_turns_32 : decode cX14_turns 32 = .ok (.iadd, 1) := by decide +kernel
theorem dX14_turns_33 : decode cX14_turns 33 = .ok (.aload_n 0, 1) := by decide +kernel
theorem dX14_turns_34 : decode cX14_turns 34 = .ok (.getfield 21, 3) := by decide +kernel
theorem dX14_turns_37 : decode cX14_turns 37 = .ok (.sipush 128, 3) := by decide +kernel
theorem dX14_turns_40 : decode cX14_turns 40 = .ok (.iload 8, 2) := by decide +kernel
theorem dX14_turns_42 : decode cX14_turns 42 = .ok (.iadd, 1) := by decide +kernel
theorem dX14_turns_43 : decode cX14_turns 43 = .ok (.iaload, 1) := by decide +kernel
theorem dX14_turns_44 : decode cX14_turns 44 = .ok (.iastore, 1) := by decide +kernel
theorem dX14_turns_45 : decode cX14_turns 45 = .ok (.iinc 8 1, 3) := by decide +kernel
theorem dX14_turns_48 : decode cX14_turns 48 = .ok (.goto (-36), 3) := by decide +kernel
theorem dX14_turns_51 : decode cX14_turns 51 = .ok (.aload_n 0, 1) := by decide +kernel
theorem dX14_turns_52 : decode cX14_turns 52 = .ok (.dup, 1) := by decide +kernel
theorem dX14_turns_53 : decode cX14_turns 53 = .ok (.getfield 350, 3) := by decide +kernel
theorem dX14_turns_56 : decode cX14_turns 56 = .ok (.iconst 1, 1) := by decide +kernel
theorem dX14_turns_57 : decode cX14_turns 57 = .ok (.iadd, 1) := by decide +kernel
theorem dX14_turns_58 : decode cX14_turns 58 = .ok (.putfield 350, 3) := by decide +kernel
theorem dX14_turns_61 : decode cX14_turns 61 = .ok (.iconst 0, 1) := by decide +kernel
theorem dX14_turns_62 : decode cX14_turns 62 = .ok (.istore 8, 2) := by decide +kernel
theorem dX14_turns_64 : decode cX14_turns 64 = .ok (.iload 8, 2) := by decide +kernel
theorem dX14_turns_66 : decode cX14_turns 66 = .ok (.iload 7, 2) := by decide +kernel
theorem dX14_turns_68 : decode cX14_turns 68 = .ok (.if_icmp .ge 72, 3) := by decide +kernel
theorem dX14_turns_71 : decode cX14_turns 71 = .ok (.aload_n 0, 1) := by decide +kernel
theorem dX14_turns_72 : decode cX14_turns 72 = .ok (.getfield 409, 3) := by decide +kernel
theorem dX14_turns_75 : decode cX14_turns 75 = .ok (.ifCond .ne 65, 3) := by decide +kernel
theorem dX14_turns_78 : decode cX14_turns 78 = .ok (.aload_n 0, 1) := by decide +kernel
theorem dX14_turns_79 : decode cX14_turns 79 = .ok (.invokevirtual 429, 3) := by decide +kernel
theorem dX14_turns_82 : decode cX14_turns 82 = .ok (.aload_n 0, 1) := by decide +kernel
theorem dX14_turns_83 : decode cX14_turns 83 = .ok (.getfield 80, 3) := by decide +kernel
theorem dX14_turns_86 : decode cX14_turns 86 = .ok (.aload_n 0, 1) := by decide +kernel
theorem dX14_turns_87 : decode cX14_turns 87 = .ok (.getfield 350, 3) := by decide +kernel
theorem dX14_turns_90 : decode cX14_turns 90 = .ok (.iconst 1, 1) := by decide +kernel
theorem dX14_turns_91 : decode cX14_turns 91 = .ok (.isub, 1) := by decide +kernel
theorem dX14_turns_92 : decode cX14_turns 92 = .ok (.iload 8, 2) := by decide +kernel
theorem dX14_turns_94 : decode cX14_turns 94 = .ok (.iastore, 1) := by decide +kernel
theorem dX14_turns_95 : decode cX14_turns 95 = .ok (.aload_n 0, 1) := by decide +kernel
theorem dX14_turns_96 : decode cX14_turns 96 = .ok (.iload 6, 2) := by decide +kernel
theorem dX14_turns_98 : decode cX14_turns 98 = .ok (.aload_n 0, 1) := by decide +kernel
theorem dX14_turns_99 : decode cX14_turns 99 = .ok (.getfield 83, 3) := by decide +kernel
theorem dX14_turns_102 : decode cX14_turns 102 = .ok (.bipush 6, 2) := by decide +kernel
theorem dX14_turns_104 : decode cX14_turns 104 = .ok (.aload_n 0, 1) := by decide +kernel
theorem dX14_turns_105 : decode cX14_turns 105 = .ok (.getfield 350, 3) := by decide +kernel
theorem dX14_turns_108 : decode cX14_turns 108 = .ok (.iconst 1, 1) := by decide +kernel
theorem dX14_turns_109 : decode cX14_turns 109 = .ok (.isub, 1) := by decide +kernel
theorem dX14_turns_110 : decode cX14_turns 110 = .ok (.imul, 1) := by decide +kernel
theorem dX14_turns_111 : decode cX14_turns 111 = .ok (.iload 8, 2) := by decide +kernel
theorem dX14_turns_113 : decode cX14_turns 113 = .ok (.iadd, 1) := by decide +kernel
theorem dX14_turns_114 : decode cX14_turns 114 = .ok (.iaload, 1) := by decide +kernel
theorem dX14_turns_115 : decode cX14_turns 115 = .ok (.invokevirtual 171, 3) := by decide +kernel
theorem dX14_turns_118 : decode cX14_turns 118 = .ok (.aload_n 0, 1) := by decide +kernel
theorem dX14_turns_119 : decode cX14_turns 119 = .ok (.iload_n 1, 1) := by decide +kernel
theorem dX14_turns_120 : decode cX14_turns 120 = .ok (.iload_n 2, 1) := by decide +kernel
theorem dX14_turns_121 : decode cX14_turns 121 = .ok (.iload_n 3, 1) := by decide +kernel
theorem dX14_turns_122 : decode cX14_turns 122 = .ok (.iload 4, 2) := by decide +kernel
theorem dX14_turns_124 : decode cX14_turns 124 = .ok (.iload 5, 2) := by decide +kernel
theorem dX14_turns_126 : decode cX14_turns 126 = .ok (.invokevirtual 432, 3) := by decide +kernel
theorem dX14_turns_129 : decode cX14_turns 129 = .ok (.pop, 1) := by decide +kernel
theorem dX14_turns_130 : decode cX14_turns 130 = .ok (.aload_n 0, 1) := by decide +kernel
theorem dX14_turns_131 : decode cX14_turns 131 = .ok (.invokevirtual 435, 3) := by decide +kernel
theorem dX14_turns_134 : decode cX14_turns 134 = .ok (.iinc 8 1, 3) := by decide +kernel
theorem dX14_turns_137 : decode cX14_turns 137 = .ok (.goto (-73), 3) := by decide +kernel
theorem dX14_turns_140 : decode cX14_turns 140 = .ok (.aload_n 0, 1) := by decide +kernel
theorem dX14_turns_141 : decode cX14_turns 141 = .ok (.dup, 1) := by decide +kernel
theorem dX14_turns_142 : decode cX14_turns 142 = .ok (.getfield 350, 3) := by decide +kernel
theorem dX14_turns_145 : decode cX14_turns 145 = .ok (.iconst 1, 1) := by decide +kernel
theorem dX14_turns_146 : decode cX14_turns 146 = .ok (.isub, 1) := by decide +kernel
theorem dX14_turns_147 : decode cX14_turns 147 = .ok (.putfield 350, 3) := by decide +kernel
theorem dX14_turns_150 : decode cX14_turns 150 = .ok (.return_, 1) := by decide +kernel
theorem dX14_block_0 : decode cX14_block 0 = .ok (.aload_n 0, 1) := by decide +kernel
theorem dX14_block_1 : decode cX14_block 1 = .ok (.aload_n 0, 1) := by decide +kernel
theorem dX14_block_2 : decode cX14_block 2 = .ok (.getfield 68, 3) := by decide +kernel
theorem dX14_block_5 : decode cX14_block 5 = .ok (.bipush 6, 2) := by decide +kernel
theorem dX14_block_7 : decode cX14_block 7 = .ok (.iload_n 1, 1) := by decide +kernel
theorem dX14_block_8 : decode cX14_block 8 = .ok (.imul, 1) := by decide +kernel
theorem dX14_block_9 : decode cX14_block 9 = .ok (.iload_n 2, 1) := by decide +kernel
theorem dX14_block_10 : decode cX14_block 10 = .ok (.iadd, 1) := by decide +kernel
theorem dX14_block_11 : decode cX14_block 11 = .ok (.iaload, 1) := by decide +kernel
theorem dX14_block_12 : decode cX14_block 12 = .ok (.iload_n 3, 1) := by decide +kernel
theorem dX14_block_13 : decode cX14_block 13 = .ok (.invokevirtual 329, 3) := by decide +kernel
theorem dX14_block_16 : decode cX14_block 16 = .ok (.istore 7, 2) := by decide +kernel
theorem dX14_block_18 : decode cX14_block 18 = .ok (.aload_n 0, 1) := by decide +kernel
theorem dX14_block_19 : decode cX14_block 19 = .ok (.iload_n 1, 1) := by decide +kernel
theorem dX14_block_20 : decode cX14_block 20 = .ok (.iload 5, 2) := by decide +kernel
theorem dX14_block_22 : decode cX14_block 22 = .ok (.iload 4, 2) := by decide +kernel
theorem dX14_block_24 : decode cX14_block 24 = .ok (.invokevirtual 479, 3) := by decide +kernel
theorem dX14_block_27 : decode cX14_block 27 = .ok (.istore 8, 2) := by decide +kernel
theorem dX14_block_29 : decode cX14_block 29 = .ok (.aload_n 0, 1) := by decide +kernel
theorem dX14_block_30 : decode cX14_block 30 = .ok (.getfield 482, 3) := by decide +kernel
theorem dX14_block_33 : decode cX14_block 33 = .ok (.bipush 8, 2) := by decide +kernel
theorem dX14_block_35 : decode cX14_block 35 = .ok (.if_icmp .eq 8, 3) := by decide +kernel
theorem dX14_block_38 : decode cX14_block 38 = .ok (.iload 8, 2) := by decide +kernel
theorem dX14_block_40 : decode cX14_block 40 = .ok (.ifCond .ge 29, 3) := by decide +kernel
theorem dX14_block_43 : decode cX14_block 43 = .ok (.aload_n 0, 1) := by decide +kernel
theorem dX14_block_44 : decode cX14_block 44 = .ok (.iload_n 1, 1) := by decide +kernel
theorem dX14_block_45 : decode cX14_block 45 = .ok (.iload_n 2, 1) := by decide +kernel
theorem dX14_block_46 : decode cX14_block 46 = .ok (.iload 7, 2) := by decide +kernel
theorem dX14_block_48 : decode cX14_block 48 = .ok (.aload_n 0, 1) := by decide +kernel
theorem dX14_block_49 : decode cX14_block 49 = .ok (.getfield 482, 3) := by decide +kernel
theorem dX14_block_52 : decode cX14_block 52 = .ok (.bipush 8, 2) := by decide +kernel
theorem dX14_block_54 : decode cX14_block 54 = .ok (.if_icmp .ne 8, 3) := by decide +kernel
theorem dX14_block_57 : decode cX14_block 57 = .ok (.bipush 7, 2) := by decide +kernel
theorem dX14_block_59 : decode cX14_block 59 = .ok (.goto 5, 3) := by decide +kernel
theorem dX14_block_62 : decode cX14_block 62 = .ok (.bipush 8, 2) := by decide +kernel
theorem dX14_block_64 : decode cX14_block 64 = .ok (.invokevirtual 415, 3) := by decide +kernel
theorem dX14_block_67 : decode cX14_block 67 = .ok (.iload_n 3, 1) := by decide +kernel
theorem dX14_block_68 : decode cX14_block 68 = .ok (.ireturn, 1) := by decide +kernel
theorem dX14_block_69 : decode cX14_block 69 = .ok (.aload_n 0, 1) := by decide +kernel
theorem dX14_block_70 : decode cX14_block 70 = .ok (.getfield 384, 3) := by decide +kernel
theorem dX14_block_73 : decode cX14_block 73 = .ok (.istore 9, 2) := by decide +kernel
theorem dX14_block_75 : decode cX14_block 75 = .ok (.aload_n 0, 1) := by decide +kernel
theorem dX14_block_76 : decode cX14_block 76 = .ok (.dup, 1) := by decide +kernel
theorem dX14_block_77 : decode cX14_block 77 = .ok (.getfield 482, 3) := by decide +kernel
theorem dX14_block_80 : decode cX14_block 80 = .ok (.iconst 1, 1) := by decide +kernel
theorem dX14_block_81 : decode cX14_block 81 = .ok (.iadd, 1) := by decide +kernel
theorem dX14_block_82 : decode cX14_block 82 = .ok (.putfield 482, 3) := by decide +kernel
theorem dX14_block_85 : decode cX14_block 85 = .ok (.aload_n 0, 1) := by decide +kernel
theorem dX14_block_86 : decode cX14_block 86 = .ok (.iload_n 1, 1) := by decide +kernel
theorem dX14_block_87 : decode cX14_block 87 = .ok (.iload 8, 2) := by decide +kernel
theorem dX14_block_89 : decode cX14_block 89 = .ok (.aload_n 0, 1) := by decide +kernel
theorem dX14_block_90 : decode cX14_block 90 = .ok (.aload_n 0, 1) := by decide +kernel
theorem dX14_block_91 : decode cX14_block 91 = .ok (.getfield 68, 3) := by decide +kernel
theorem dX14_block_94 : decode cX14_block 94 = .ok (.bipush 6, 2) := by decide +kernel
theorem dX14_block_96 : decode cX14_block 96 = .ok (.iload_n 1, 1) := by decide +kernel
theorem dX14_block_97 : decode cX14_block 97 = .ok (.imul, 1) := by decide +kernel
theorem dX14_block_98 : decode cX14_block 98 = .ok (.iload 8, 2) := by decide +kernel
theorem dX14_block_100 : decode cX14_block 100 = .ok (.iadd, 1) := by decide +kernel
theorem dX14_block_101 : decode cX14_block 101 = .ok (.iaload, 1) := by decide +kernel
theorem dX14_block_102 : decode cX14_block 102 = .ok (.iload 4, 2) := by decide +kernel
theorem dX14_block_104 : decode cX14_block 104 = .ok (.invokevirtual 485, 3) := by decide +kernel
theorem dX14_block_107 : decode cX14_block 107 = .ok (.iload 8, 2) := by decide +kernel
theorem dX14_block_109 : decode cX14_block 109 = .ok (.iload 4, 2) := by decide +kernel
theorem dX14_block_111 : decode cX14_block 111 = .ok (.invokevirtual 468, 3) := by decide +kernel
theorem dX14_block_114 : decode cX14_block 114 = .ok (.aload_n 0, 1) := by decide +kernel
theorem dX14_block_115 : decode cX14_block 115 = .ok (.dup, 1) := by decide +kernel
theorem dX14_block_116 : decode cX14_block 116 = .ok (.getfield 482, 3) := by decide +kernel
theorem dX14_block_119 : decode cX14_block 119 = .ok (.iconst 1, 1) := by decide +kernel
theorem dX14_block_120 : decode cX14_block 120 = .ok (.isub, 1) := by decide +kernel
theorem dX14_block_121 : decode cX14_block 121 = .ok (.putfield 482, 3) := by decide +kernel
theorem dX14_block_124 : decode cX14_block 124 = .ok (.aload_n 0, 1) := by decide +kernel
theorem dX14_block_125 : decode cX14_block 125 = .ok (.iload_n 1, 1) := by decide +kernel
theorem dX14_block_126 : decode cX14_block 126 = .ok (.iload_n 2, 1) := by decide +kernel
theorem dX14_block_127 : decode cX14_block 127 = .ok (.iload 7, 2) := by decide +kernel
theorem dX14_block_129 : decode cX14_block 129 = .ok (.iload 9, 2) := by decide +kernel
theorem dX14_block_131 : decode cX14_block 131 = .ok (.invokevirtual 472, 3) := by decide +kernel
theorem dX14_block_134 : decode cX14_block 134 = .ok (.iload 6, 2) := by decide +kernel
theorem dX14_block_136 : decode cX14_block 136 = .ok (.ireturn, 1) := by decide +kernel
theorem dX14_part_0 : decode cX14_part 0 = .ok (.aload_n 0, 1) := by decide +kernel
theorem dX14_part_1 : decode cX14_part 1 = .ok (.getfield 68, 3) := by decide +kernel
theorem dX14_part_4 : decode cX14_part 4 = .ok (.bipush 6, 2) := by decide +kernel
theorem dX14_part_6 : decode cX14_part 6 = .ok (.iload_n 1, 1) := by decide +kernel
theorem dX14_part_7 : decode cX14_part 7 = .ok (.imul, 1) := by decide +kernel
theorem dX14_part_8 : decode cX14_part 8 = .ok (.iload_n 2, 1) := by decide +kernel
theorem dX14_part_9 : decode cX14_part 9 = .ok (.iadd, 1) := by decide +kernel
theorem dX14_part_10 : decode cX14_part 10 = .ok (.iaload, 1) := by decide +kernel
theorem dX14_part_11 : decode cX14_part 11 = .ok (.istore 4, 2) := by decide +kernel
theorem dX14_part_13 : decode cX14_part 13 = .ok (.aload_n 0, 1) := by decide +kernel
theorem dX14_part_14 : decode cX14_part 14 = .ok (.iload 4, 2) := by decide +kernel
theorem dX14_part_16 : decode cX14_part 16 = .ok (.iload_n 3, 1) := by decide +kernel
theorem dX14_part_17 : decode cX14_part 17 = .ok (.invokevirtual 329, 3) := by decide +kernel
theorem dX14_part_20 : decode cX14_part 20 = .ok (.istore 5, 2) := by decide +kernel
theorem dX14_part_22 : decode cX14_part 22 = .ok (.aload_n 0, 1) := by decide +kernel
theorem dX14_part_23 : decode cX14_part 23 = .ok (.getfield 482, 3) := by decide +kernel
theorem dX14_part_26 : decode cX14_part 26 = .ok (.bipush 8, 2) := by decide +kernel
theorem dX14_part_28 : decode cX14_part 28 = .ok (.if_icmp .ne 15, 3) := by decide +kernel
theorem dX14_part_31 : decode cX14_part 31 = .ok (.aload_n 0, 1) := by decide +kernel
theorem dX14_part_32 : decode cX14_part 32 = .ok (.iload_n 1, 1) := by decide +kernel
theorem dX14_part_33 : decode cX14_part 33 = .ok (.iload_n 2, 1) := by decide +kernel
theorem dX14_part_34 : decode cX14_part 34 = .ok (.iload 5, 2) := by decide +kernel
theorem dX14_part_36 : decode cX14_part 36 = .ok (.bipush 7, 2) := by decide +kernel
theorem dX14_part_38 : decode cX14_part 38 = .ok (.invokevirtual 415, 3) := by decide +kernel
theorem dX14_part_41 : decode cX14_part 41 = .ok (.iload_n 3, 1) := by decide +kernel
theorem dX14_part_42 : decode cX14_part 42 = .ok (.ireturn, 1) := by decide +kernel
theorem dX14_part_43 : decode cX14_part 43 = .ok (.aload_n 0, 1) := by decide +kernel
theorem dX14_part_44 : decode cX14_part 44 = .ok (.dup, 1) := by decide +kernel
theorem dX14_part_45 : decode cX14_part 45 = .ok (.getfield 482, 3) := by decide +kernel
theorem dX14_part_48 : decode cX14_part 48 = .ok (.iconst 1, 1) := by decide +kernel
theorem dX14_part_49 : decode cX14_part 49 = .ok (.iadd, 1) := by decide +kernel
theorem dX14_part_50 : decode cX14_part 50 = .ok (.putfield 482, 3) := by decide +kernel
theorem dX14_part_53 : decode cX14_part 53 = .ok (.aload_n 0, 1) := by decide +kernel
theorem dX14_part_54 : decode cX14_part 54 = .ok (.getfield 74, 3) := by decide +kernel
theorem dX14_part_57 : decode cX14_part 57 = .ok (.iload_n 1, 1) := by decide +kernel
theorem dX14_part_58 : decode cX14_part 58 = .ok (.iload_n 2, 1) := by decide +kernel
theorem dX14_part_59 : decode cX14_part 59 = .ok (.iastore, 1) := by decide +kernel
theorem dX14_part_60 : decode cX14_part 60 = .ok (.aload_n 0, 1) := by decide +kernel
theorem dX14_part_61 : decode cX14_part 61 = .ok (.getfield 77, 3) := by decide +kernel
theorem dX14_part_64 : decode cX14_part 64 = .ok (.iload_n 1, 1) := by decide +kernel
theorem dX14_part_65 : decode cX14_part 65 = .ok (.iload 5, 2) := by decide +kernel
theorem dX14_part_67 : decode cX14_part 67 = .ok (.iastore, 1) := by decide +kernel
theorem dX14_part_68 : decode cX14_part 68 = .ok (.aload_n 0, 1) := by decide +kernel
theorem dX14_part_69 : decode cX14_part 69 = .ok (.iload_n 1, 1) := by decide +kernel
theorem dX14_part_70 : decode cX14_part 70 = .ok (.iconst 1, 1) := by decide +kernel
theorem dX14_part_71 : decode cX14_part 71 = .ok (.iadd, 1) := by decide +kernel
theorem dX14_part_72 : decode cX14_part 72 = .ok (.aload_n 0, 1) := by decide +kernel
theorem dX14_part_73 : decode cX14_part 73 = .ok (.iload 4, 2) := by decide +kernel
theorem dX14_part_75 : decode cX14_part 75 = .ok (.iload_n 3, 1) := by decide +kernel
theorem dX14_part_76 : decode cX14_part 76 = .ok (.iconst 2, 1) := by decide +kernel
theorem dX14_part_77 : decode cX14_part 77 = .ok (.iadd, 1) := by decide +kernel
theorem dX14_part_78 : decode cX14_part 78 = .ok (.invokevirtual 344, 3) := by decide +kernel
theorem dX14_part_81 : decode cX14_part 81 = .ok (.bipush 48, 2) := by decide +kernel
theorem dX14_part_83 : decode cX14_part 83 = .ok (.isub, 1) := by decide +kernel
theorem dX14_part_84 : decode cX14_part 84 = .ok (.invokevirtual 488, 3) := by decide +kernel
theorem dX14_part_87 : decode cX14_part 87 = .ok (.aload_n 0, 1) := by decide +kernel
theorem dX14_part_88 : decode cX14_part 88 = .ok (.dup, 1) := by decide +kernel
theorem dX14_part_89 : decode cX14_part 89 = .ok (.getfield 482, 3) := by decide +kernel
theorem dX14_part_92 : decode cX14_part 92 = .ok (.iconst 1, 1) := by decide +kernel
theorem dX14_part_93 : decode cX14_part 93 = .ok (.isub, 1) := by decide +kernel
theorem dX14_part_94 : decode cX14_part 94 = .ok (.putfield 482, 3) := by decide +kernel
theorem dX14_part_97 : decode cX14_part 97 = .ok (.iload_n 3, 1) := by decide +kernel
theorem dX14_part_98 : decode cX14_part 98 = .ok (.iconst 4, 1) := by decide +kernel
theorem dX14_part_99 : decode cX14_part 99 = .ok (.iadd, 1) := by decide +kernel
theorem dX14_part_100 : decode cX14_part 100 = .ok (.ireturn, 1) := by decide +kernel
theorem dX14_assigns_0 : decode cX14_assigns 0 = .ok (.aload_n 0, 1) := by decide +kernel
theorem dX14_assigns_1 : decode cX14_assigns 1 = .ok (.getfield 68, 3) := by decide +kernel
theorem dX14_assigns_4 : decode cX14_assigns 4 = .ok (.bipush 6, 2) := by decide +kernel
theorem dX14_assigns_6 : decode cX14_assigns 6 = .ok (.iload_n 1, 1) := by decide +kernel
theorem dX14_assigns_7 : decode cX14_assigns 7 = .ok (.imul, 1) := by decide +kernel
theorem dX14_assigns_8 : decode cX14_assigns 8 = .ok (.iload_n 2, 1) := by decide +kernel
theorem dX14_assigns_9 : decode cX14_assigns 9 = .ok (.iadd, 1) := by decide +kernel
theorem dX14_assigns_10 : decode cX14_assigns 10 = .ok (.iaload, 1) := by decide +kernel
theorem dX14_assigns_11 : decode cX14_assigns 11 = .ok (.istore 4, 2) := by decide +kernel
theorem dX14_assigns_13 : decode cX14_assigns 13 = .ok (.aload_n 0, 1) := by decide +kernel
theorem dX14_assigns_14 : decode cX14_assigns 14 = .ok (.iload_n 3, 1) := by decide +kernel
theorem dX14_assigns_15 : decode cX14_assigns 15 = .ok (.iconst 4, 1) := by decide +kernel
theorem dX14_assigns_16 : decode cX14_assigns 16 = .ok (.iadd, 1) := by decide +kernel
theorem dX14_assigns_17 : decode cX14_assigns 17 = .ok (.putfield 341, 3) := by decide +kernel
theorem dX14_assigns_20 : decode cX14_assigns 20 = .ok (.aload_n 0, 1) := by decide +kernel
theorem dX14_assigns_21 : decode cX14_assigns 21 = .ok (.getfield 423, 3) := by decide +kernel
theorem dX14_assigns_24 : decode cX14_assigns 24 = .ok (.ifCond .eq 7, 3) := by decide +kernel
theorem dX14_assigns_27 : decode cX14_assigns 27 = .ok (.iconst 0, 1) := by decide +kernel
theorem dX14_assigns_28 : decode cX14_assigns 28 = .ok (.goto 11, 3) := by decide +kernel
theorem dX14_assigns_31 : decode cX14_assigns 31 = .ok (.aload_n 0, 1) := by decide +kernel
theorem dX14_assigns_32 : decode cX14_assigns 32 = .ok (.iload 4, 2) := by decide +kernel
theorem dX14_assigns_34 : decode cX14_assigns 34 = .ok (.bipush 8, 2) := by decide +kernel
theorem dX14_assigns_36 : decode cX14_assigns 36 = .ok (.invokevirtual 362, 3) := by decide +kernel
theorem dX14_assigns_39 : decode cX14_assigns 39 = .ok (.istore 5, 2) := by decide +kernel
theorem dX14_assigns_41 : decode cX14_assigns 41 = .ok (.iload 5, 2) := by decide +kernel
theorem dX14_assigns_43 : decode cX14_assigns 43 = .ok (.ifCond .eq 21, 3) := by decide +kernel
theorem dX14_assigns_46 : decode cX14_assigns 46 = .ok (.aload_n 0, 1) := by decide +kernel
theorem dX14_assigns_47 : decode cX14_assigns 47 = .ok (.iload_n 1, 1) := by decide +kernel
theorem dX14_assigns_48 : decode cX14_assigns 48 = .ok (.iload_n 2, 1) := by decide +kernel
theorem dX14_assigns_49 : decode cX14_assigns 49 = .ok (.aload_n 0, 1) := by decide +kernel
theorem dX14_assigns_50 : decode cX14_assigns 50 = .ok (.iload 4, 2) := by decide +kernel
theorem dX14_assigns_52 : decode cX14_assigns 52 = .ok (.iload_n 3, 1) := by decide +kernel
theorem dX14_assigns_53 : decode cX14_assigns 53 = .ok (.invokevirtual 329, 3) := by decide +kernel
theorem dX14_assigns_56 : decode cX14_assigns 56 = .ok (.iload 5, 2) := by decide +kernel
theorem dX14_assigns_58 : decode cX14_assigns 58 = .ok (.invokevirtual 415, 3) := by decide +kernel
theorem dX14_assigns_61 : decode cX14_assigns 61 = .ok (.goto 28, 3) := by decide +kernel
theorem dX14_assigns_64 : decode cX14_assigns 64 = .ok (.aload_n 0, 1) := by decide +kernel
theorem dX14_assigns_65 : decode cX14_assigns 65 = .ok (.getfield 423, 3) := by decide +kernel
theorem dX14_assigns_68 : decode cX14_assigns 68 = .ok (.ifCond .ne 21, 3) := by decide +kernel
theorem dX14_assigns_71 : decode cX14_assigns 71 = .ok (.aload_n 0, 1) := by decide +kernel
theorem dX14_assigns_72 : decode cX14_assigns 72 = .ok (.bipush 8, 2) := by decide +kernel
theorem dX14_assigns_74 : decode cX14_assigns 74 = .ok (.aload_n 0, 1) := by decide +kernel
theorem dX14_assigns_75 : decode cX14_assigns 75 = .ok (.iload 4, 2) := by decide +kernel
theorem dX14_assigns_77 : decode cX14_assigns 77 = .ok (.iload_n 3, 1) := by decide +kernel
theorem dX14_assigns_78 : decode cX14_assigns 78 = .ok (.iconst 2, 1) := by decide +kernel
theorem dX14_assigns_79 : decode cX14_assigns 79 = .ok (.iadd, 1) := by decide +kernel
theorem dX14_assigns_80 : decode cX14_assigns 80 = .ok (.invokevirtual 344, 3) := by decide +kernel
theorem dX14_assigns_83 : decode cX14_assigns 83 = .ok (.bipush 97, 2) := by decide +kernel
theorem dX14_assigns_85 : decode cX14_assigns 85 = .ok (.isub, 1) := by decide +kernel
theorem dX14_assigns_86 : decode cX14_assigns 86 = .ok (.invokevirtual 347, 3) := by decide +kernel
theorem dX14_assigns_89 : decode cX14_assigns 89 = .ok (.aload_n 0, 1) := by decide +kernel
theorem dX14_assigns_90 : decode cX14_assigns 90 = .ok (.iload 4, 2) := by decide +kernel
theorem dX14_assigns_92 : decode cX14_assigns 92 = .ok (.iload_n 3, 1) := by decide +kernel
theorem dX14_assigns_93 : decode cX14_assigns 93 = .ok (.invokevirtual 465, 3) := by decide +kernel
theorem dX14_assigns_96 : decode cX14_assigns 96 = .ok (.ireturn, 1) := by decide +kernel
theorem dX14_value_0 : decode cX14_value 0 = .ok (.aload_n 0, 1) := by decide +kernel
theorem dX14_value_1 : decode cX14_value 1 = .ok (.getfield 68, 3) := by decide +kernel
theorem dX14_value_4 : decode cX14_value 4 = .ok (.bipush 6, 2) := by decide +kernel
theorem dX14_value_6 : decode cX14_value 6 = .ok (.iload_n 1, 1) := by decide +kernel
theorem dX14_value_7 : decode cX14_value 7 = .ok (.imul, 1) := by decide +kernel
theorem dX14_value_8 : decode cX14_value 8 = .ok (.iload_n 2, 1) := by decide +kernel
theorem dX14_value_9 : decode cX14_value 9 = .ok (.iadd, 1) := by decide +kernel
theorem dX14_value_10 : decode cX14_value 10 = .ok (.iaload, 1) := by decide +kernel
theorem dX14_value_11 : decode cX14_value 11 = .ok (.istore 4, 2) := by decide +kernel
theorem dX14_value_13 : decode cX14_value 13 = .ok (.aload_n 0, 1) := by decide +kernel
theorem dX14_value_14 : decode cX14_value 14 = .ok (.iload_n 3, 1) := by decide +kernel
theorem dX14_value_15 : decode cX14_value 15 = .ok (.iconst 1, 1) := by decide +kernel
theorem dX14_value_16 : decode cX14_value 16 = .ok (.iadd, 1) := by decide +kernel
theorem dX14_value_17 : decode cX14_value 17 = .ok (.putfield 341, 3) := by decide +kernel
theorem dX14_value_20 : decode cX14_value 20 = .ok (.aload_n 0, 1) := by decide +kernel
theorem dX14_value_21 : decode cX14_value 21 = .ok (.getfield 423, 3) := by decide +kernel
theorem dX14_value_24 : decode cX14_value 24 = .ok (.ifCond .eq 7, 3) := by decide +kernel
theorem dX14_value_27 : decode cX14_value 27 = .ok (.iconst 0, 1) := by decide +kernel
theorem dX14_value_28 : decode cX14_value 28 = .ok (.goto 11, 3) := by decide +kernel
theorem dX14_value_31 : decode cX14_value 31 = .ok (.aload_n 0, 1) := by decide +kernel
theorem dX14_value_32 : decode cX14_value 32 = .ok (.iload 4, 2) := by decide +kernel
theorem dX14_value_34 : decode cX14_value 34 = .ok (.bipush 8, 2) := by decide +kernel
theorem dX14_value_36 : decode cX14_value 36 = .ok (.invokevirtual 362, 3) := by decide +kernel
theorem dX14_value_39 : decode cX14_value 39 = .ok (.istore 5, 2) := by decide +kernel
theorem dX14_value_41 : decode cX14_value 41 = .ok (.iload 5, 2) := by decide +kernel
theorem dX14_value_43 : decode cX14_value 43 = .ok (.ifCond .eq 18, 3) := by decide +kernel
theorem dX14_value_46 : decode cX14_value 46 = .ok (.aload_n 0, 1) := by decide +kernel
theorem dX14_value_47 : decode cX14_value 47 = .ok (.iload_n 1, 1) := by decide +kernel
theorem dX14_value_48 : decode cX14_value 48 = .ok (.iload_n 2, 1) := by decide +kernel
theorem dX14_value_49 : decode cX14_value 49 = .ok (.aload_n 0, 1) := by decide +kernel
theorem dX14_value_50 : decode cX14_value 50 = .ok (.iload 4, 2) := by decide +kernel
theorem dX14_value_52 : decode cX14_value 52 = .ok (.iload_n 3, 1) := by decide +kernel
theorem dX14_value_53 : decode cX14_value 53 = .ok (.invokevirtual 329, 3) := by decide +kernel
theorem dX14_value_56 : decode cX14_value 56 = .ok (.iload 5, 2) := by decide +kernel
theorem dX14_value_58 : decode cX14_value 58 = .ok (.invokevirtual 415, 3) := by decide +kernel
theorem dX14_value_61 : decode cX14_value 61 = .ok (.aload_n 0, 1) := by decide +kernel
theorem dX14_value_62 : decode cX14_value 62 = .ok (.getfield 423, 3) := by decide +kernel
theorem dX14_value_65 : decode cX14_value 65 = .ok (.ifCond .ne 8, 3) := by decide +kernel
theorem dX14_value_68 : decode cX14_value 68 = .ok (.iload 5, 2) := by decide +kernel
theorem dX14_value_70 : decode cX14_value 70 = .ok (.ifCond .eq 11, 3) := by decide +kernel
theorem dX14_value_73 : decode cX14_value 73 = .ok (.aload_n 0, 1) := by decide +kernel
theorem dX14_value_74 : decode cX14_value 74 = .ok (.iload 4, 2) := by decide +kernel
theorem dX14_value_76 : decode cX14_value 76 = .ok (.iload_n 3, 1) := by decide +kernel
theorem dX14_value_77 : decode cX14_value 77 = .ok (.invokevirtual 465, 3) := by decide +kernel
theorem dX14_value_80 : decode cX14_value 80 = .ok (.ireturn, 1) := by decide +kernel
theorem dX14_value_81 : decode cX14_value 81 = .ok (.aload_n 0, 1) := by decide +kernel
theorem dX14_value_82 : decode cX14_value 82 = .ok (.bipush 8, 2) := by decide +kernel
theorem dX14_value_84 : decode cX14_value 84 = .ok (.invokevirtual 491, 3) := by decide +kernel
theorem dX14_value_87 : decode cX14_value 87 = .ok (.iconst 1, 1) := by decide +kernel
theorem dX14_value_88 : decode cX14_value 88 = .ok (.istore 6, 2) := by decide +kernel
theorem dX14_value_90 : decode cX14_value 90 = .ok (.iconst 0, 1) := by decide +kernel
theorem dX14_value_91 : decode cX14_value 91 = .ok (.istore 7, 2) := by decide +kernel
theorem dX14_value_93 : decode cX14_value 93 = .ok (.iload 7, 2) := by decide +kernel
theorem dX14_value_95 : decode cX14_value 95 = .ok (.aload_n 0, 1) := by decide +kernel
theorem dX14_value_96 : decode cX14_value 96 = .ok (.getfield 140, 3) := by decide +kernel
theorem dX14_value_99 : decode cX14_value 99 = .ok (.if_icmp .ge 27, 3) := by decide +kernel
theorem dX14_value_102 : decode cX14_value 102 = .ok (.iload 6, 2) := by decide +kernel
theorem dX14_value_104 : decode cX14_value 104 = .ok (.ifCond .eq 22, 3) := by decide +kernel
theorem dX14_value_107 : decode cX14_value 107 = .ok (.aload_n 0, 1) := by decide +kernel
theorem dX14_value_108 : decode cX14_value 108 = .ok (.aload_n 0, 1) := by decide +kernel
theorem dX14_value_109 : decode cX14_value 109 = .ok (.getfield 28, 3) := by decide +kernel
theorem dX14_value_112 : decode cX14_value 112 = .ok (.iload 7, 2) := by decide +kernel
theorem dX14_value_114 : decode cX14_value 114 = .ok (.iaload, 1) := by decide +kernel
theorem dX14_value_115 : decode cX14_value 115 = .ok (.invokevirtual 494, 3) := by decide +kernel
theorem dX14_value_118 : decode cX14_value 118 = .ok (.istore 6, 2) := by decide +kernel
theorem dX14_value_120 : decode cX14_value 120 = .ok (.iinc 7 1, 3) := by decide +kernel
theorem dX14_value_123 : decode cX14_value 123 = .ok (.goto (-30), 3) := by decide +kernel
theorem dX14_value_126 : decode cX14_value 126 = .ok (.iload 6, 2) := by decide +kernel
theorem dX14_value_128 : decode cX14_value 128 = .ok (.ifCond .ne 17, 3) := by decide +kernel
theorem dX14_value_131 : decode cX14_value 131 = .ok (.aload_n 0, 1) := by decide +kernel
theorem dX14_value_132 : decode cX14_value 132 = .ok (.iload_n 1, 1) := by decide +kernel
theorem dX14_value_133 : decode cX14_value 133 = .ok (.iload_n 2, 1) := by decide +kernel
theorem dX14_value_134 : decode cX14_value 134 = .ok (.aload_n 0, 1) := by decide +kernel
theorem dX14_value_135 : decode cX14_value 135 = .ok (.iload 4, 2) := by decide +kernel
theorem dX14_value_137 : decode cX14_value 137 = .ok (.iload_n 3, 1) := by decide +kernel
theorem dX14_value_138 : decode cX14_value 138 = .ok (.invokevirtual 329, 3) := by decide +kernel
theorem dX14_value_141 : decode cX14_value 141 = .ok (.iconst 5, 1) := by decide +kernel
theorem dX14_value_142 : decode cX14_value 142 = .ok (.invokevirtual 415, 3) := by decide +kernel
theorem dX14_value_145 : decode cX14_value 145 = .ok (.aload_n 0, 1) := by decide +kernel
theorem dX14_value_146 : decode cX14_value 146 = .ok (.iload 4, 2) := by decide +kernel
theorem dX14_value_148 : decode cX14_value 148 = .ok (.iload_n 3, 1) := by decide +kernel
theorem dX14_value_149 : decode cX14_value 149 = .ok (.invokevirtual 465, 3) := by decide +kernel
theorem dX14_value_152 : decode cX14_value 152 = .ok (.ireturn, 1) := by decide +kernel
theorem dX14_prints_0 : decode cX14_prints 0 = .ok (.aload_n 0, 1) := by decide +kernel
theorem dX14_prints_1 : decode cX14_prints 1 = .ok (.iload_n 1, 1) := by decide +kernel
theorem dX14_prints_2 : decode cX14_prints 2 = .ok (.iload_n 2, 1) := by decide +kernel
theorem dX14_prints_3 : decode cX14_prints 3 = .ok (.invokevirtual 497, 3) := by decide +kernel
theorem dX14_prints_6 : decode cX14_prints 6 = .ok (.ifCond .ne 4, 3) := by decide +kernel
theorem dX14_prints_9 : decode cX14_prints 9 = .ok (.return_, 1) := by decide +kernel
theorem dX14_prints_10 : decode cX14_prints 10 = .ok (.aload_n 0, 1) := by decide +kernel
theorem dX14_prints_11 : decode cX14_prints 11 = .ok (.getfield 384, 3) := by decide +kernel
theorem dX14_prints_14 : decode cX14_prints 14 = .ok (.istore_n 3, 1) := by decide +kernel
theorem dX14_prints_15 : decode cX14_prints 15 = .ok (.aload_n 0, 1) := by decide +kernel
theorem dX14_prints_16 : decode cX14_prints 16 = .ok (.iload_n 1, 1) := by decide +kernel
theorem dX14_prints_17 : decode cX14_prints 17 = .ok (.aload_n 0, 1) := by decide +kernel
theorem dX14_prints_18 : decode cX14_prints 18 = .ok (.getfield 71, 3) := by decide +kernel
theorem dX14_prints_21 : decode cX14_prints 21 = .ok (.iload_n 1, 1) := by decide +kernel
theorem dX14_prints_22 : decode cX14_prints 22 = .ok (.iaload, 1) := by decide +kernel
theorem dX14_prints_23 : decode cX14_prints 23 = .ok (.iconst 1, 1) := by decide +kernel
theorem dX14_prints_24 : decode cX14_prints 24 = .ok (.isub, 1) := by decide +kernel
theorem dX14_prints_25 : decode cX14_prints 25 = .ok (.iconst 0, 1) := by decide +kernel
theorem dX14_prints_26 : decode cX14_prints 26 = .ok (.iconst (-1), 1) := by decide +kernel
theorem dX14_prints_27 : decode cX14_prints 27 = .ok (.iconst (-1), 1) := by decide +kernel
theorem dX14_prints_28 : decode cX14_prints 28 = .ok (.invokevirtual 468, 3) := by decide +kernel
theorem dX14_prints_31 : decode cX14_prints 31 = .ok (.aload_n 0, 1) := by decide +kernel
theorem dX14_prints_32 : decode cX14_prints 32 = .ok (.iload_n 1, 1) := by decide +kernel
theorem dX14_prints_33 : decode cX14_prints 33 = .ok (.iconst 0, 1) := by decide +kernel
theorem dX14_prints_34 : decode cX14_prints 34 = .ok (.iconst 0, 1) := by decide +kernel
theorem dX14_prints_35 : decode cX14_prints 35 = .ok (.iload_n 3, 1) := by decide +kernel
theorem dX14_prints_36 : decode cX14_prints 36 = .ok (.invokevirtual 472, 3) := by decide +kernel
theorem dX14_prints_39 : decode cX14_prints 39 = .ok (.return_, 1) := by decide +kernel
theorem dX14_begins_0 : decode cX14_begins 0 = .ok (.aload_n 0, 1) := by decide +kernel
theorem dX14_begins_1 : decode cX14_begins 1 = .ok (.iload_n 3, 1) := by decide +kernel
theorem dX14_begins_2 : decode cX14_begins 2 = .ok (.putfield 423, 3) := by decide +kernel
theorem dX14_begins_5 : decode cX14_begins 5 = .ok (.aload_n 0, 1) := by decide +kernel
theorem dX14_begins_6 : decode cX14_begins 6 = .ok (.iconst 0, 1) := by decide +kernel
theorem dX14_begins_7 : decode cX14_begins 7 = .ok (.putfield 409, 3) := by decide +kernel
theorem dX14_begins_10 : decode cX14_begins 10 = .ok (.aload_n 0, 1) := by decide +kernel
theorem dX14_begins_11 : decode cX14_begins 11 = .ok (.iconst 0, 1) := by decide +kernel
theorem dX14_begins_12 : decode cX14_begins 12 = .ok (.putfield 438, 3) := by decide +kernel
theorem dX14_begins_15 : decode cX14_begins 15 = .ok (.aload_n 0, 1) := by decide +kernel
theorem dX14_begins_16 : decode cX14_begins 16 = .ok (.iconst 0, 1) := by decide +kernel
theorem dX14_begins_17 : decode cX14_begins 17 = .ok (.putfield 482, 3) := by decide +kernel
theorem dX14_begins_20 : decode cX14_begins 20 = .ok (.aload_n 0, 1) := by decide +kernel
theorem dX14_begins_21 : decode cX14_begins 21 = .ok (.iconst 0, 1) := by decide +kernel
theorem dX14_begins_22 : decode cX14_begins 22 = .ok (.putfield 350, 3) := by decide +kernel
theorem dX14_begins_25 : decode cX14_begins 25 = .ok (.aload_n 0, 1) := by decide +kernel
theorem dX14_begins_26 : decode cX14_begins 26 = .ok (.iconst 0, 1) := by decide +kernel
theorem dX14_begins_27 : decode cX14_begins 27 = .ok (.putfield 400, 3) := by decide +kernel
theorem dX14_begins_30 : decode cX14_begins 30 = .ok (.aload_n 0, 1) := by decide +kernel
theorem dX14_begins_31 : decode cX14_begins 31 = .ok (.iconst 0, 1) := by decide +kernel
theorem dX14_begins_32 : decode cX14_begins 32 = .ok (.putfield 378, 3) := by decide +kernel
theorem dX14_begins_35 : decode cX14_begins 35 = .ok (.aload_n 0, 1) := by decide +kernel
theorem dX14_begins_36 : decode cX14_begins 36 = .ok (.iload_n 2, 1) := by decide +kernel
theorem dX14_begins_37 : decode cX14_begins 37 = .ok (.putfield 384, 3) := by decide +kernel
theorem dX14_begins_40 : decode cX14_begins 40 = .ok (.aload_n 0, 1) := by decide +kernel
theorem dX14_begins_41 : decode cX14_begins 41 = .ok (.iconst 0, 1) := by decide +kernel
theorem dX14_begins_42 : decode cX14_begins 42 = .ok (.iload_n 1, 1) := by decide +kernel
theorem dX14_begins_43 : decode cX14_begins 43 = .ok (.invokevirtual 488, 3) := by decide +kernel
theorem dX14_begins_46 : decode cX14_begins 46 = .ok (.return_, 1) := by decide +kernel
theorem dX14_isTemplate_0 : decode cX14_isTemplate 0 = .ok (.iload_n 0, 1) := by decide +kernel
theorem dX14_isTemplate_1 : decode cX14_isTemplate 1 = .ok (.i2l, 1) := by decide +kernel
theorem dX14_isTemplate_2 : decode cX14_isTemplate 2 = .ok (.lconst 0, 1) := by decide +kernel
theorem dX14_isTemplate_3 : decode cX14_isTemplate 3 = .ok (.ldc2_w 315, 3) := by decide +kernel
theorem dX14_isTemplate_6 : decode cX14_isTemplate 6 = .ok (.invokestatic 155, 3) := by decide +kernel
theorem dX14_isTemplate_9 : decode cX14_isTemplate 9 = .ok (.ireturn, 1) := by decide +kernel
theorem dX14_look_0 : decode cX14_look 0 = .ok (.iload_n 1, 1) := by decide +kernel
theorem dX14_look_1 : decode cX14_look 1 = .ok (.invokestatic 500, 3) := by decide +kernel
theorem dX14_look_4 : decode cX14_look 4 = .ok (.ifCond .ne 5, 3) := by decide +kernel
theorem dX14_look_7 : decode cX14_look 7 = .ok (.iconst (-1), 1) := by decide +kernel
theorem dX14_look_8 : decode cX14_look 8 = .ok (.ireturn, 1) := by decide +kernel
theorem dX14_look_9 : decode cX14_look 9 = .ok (.iload_n 2, 1) := by decide +kernel
theorem dX14_look_10 : decode cX14_look 10 = .ok (.i2l, 1) := by decide +kernel
theorem dX14_look_11 : decode cX14_look 11 = .ok (.lconst 0, 1) := by decide +kernel
theorem dX14_look_12 : decode cX14_look 12 = .ok (.ldc2_w 503, 3) := by decide +kernel
theorem dX14_look_15 : decode cX14_look 15 = .ok (.invokestatic 155, 3) := by decide +kernel
theorem dX14_look_18 : decode cX14_look 18 = .ok (.ifCond .ne 6, 3) := by decide +kernel
theorem dX14_look_21 : decode cX14_look 21 = .ok (.bipush (-2), 2) := by decide +kernel
theorem dX14_look_23 : decode cX14_look 23 = .ok (.ireturn, 1) := by decide +kernel
theorem dX14_look_24 : decode cX14_look 24 = .ok (.aload_n 0, 1) := by decide +kernel
theorem dX14_look_25 : decode cX14_look 25 = .ok (.iload_n 1, 1) := by decide +kernel
theorem dX14_look_26 : decode cX14_look 26 = .ok (.iload_n 2, 1) := by decide +kernel
theorem dX14_look_27 : decode cX14_look 27 = .ok (.iconst 1, 1) := by decide +kernel
theorem dX14_look_28 : decode cX14_look 28 = .ok (.invokevirtual 505, 3) := by decide +kernel
theorem dX14_look_31 : decode cX14_look 31 = .ok (.aload_n 0, 1) := by decide +kernel
theorem dX14_look_32 : decode cX14_look 32 = .ok (.getfield 409, 3) := by decide +kernel
theorem dX14_look_35 : decode cX14_look 35 = .ok (.ifCond .eq 8, 3) := by decide +kernel
theorem dX14_look_38 : decode cX14_look 38 = .ok (.bipush (-20), 2) := by decide +kernel
theorem dX14_look_40 : decode cX14_look 40 = .ok (.goto 7, 3) := by decide +kernel
theorem dX14_look_43 : decode cX14_look 43 = .ok (.aload_n 0, 1) := by decide +kernel
theorem dX14_look_44 : decode cX14_look 44 = .ok (.getfield 384, 3) := by decide +kernel
theorem dX14_look_47 : decode cX14_look 47 = .ok (.ireturn, 1) := by decide +kernel
theorem dX14_press_0 : decode cX14_press 0 = .ok (.iload_n 1, 1) := by decide +kernel
theorem dX14_press_1 : decode cX14_press 1 = .ok (.invokestatic 500, 3) := by decide +kernel
theorem dX14_press_4 : decode cX14_press 4 = .ok (.ifCond .ne 5, 3) := by decide +kernel
theorem dX14_press_7 : decode cX14_press 7 = .ok (.iconst (-1), 1) := by decide +kernel
theorem dX14_press_8 : decode cX14_press 8 = .ok (.ireturn, 1) := by decide +kernel
theorem dX14_press_9 : decode cX14_press 9 = .ok (.aload_n 0, 1) := by decide +kernel
theorem dX14_press_10 : decode cX14_press 10 = .ok (.iload_n 1, 1) := by decide +kernel
theorem dX14_press_11 : decode cX14_press 11 = .ok (.iconst 0, 1) := by decide +kernel
theorem dX14_press_12 : decode cX14_press 12 = .ok (.iconst 1, 1) := by decide +kernel
theorem dX14_press_13 : decode cX14_press 13 = .ok (.invokevirtual 505, 3) := by decide +kernel
theorem dX14_press_16 : decode cX14_press 16 = .ok (.aload_n 0, 1) := by decide +kernel
theorem dX14_press_17 : decode cX14_press 17 = .ok (.getfield 409, 3) := by decide +kernel
theorem dX14_press_20 : decode cX14_press 20 = .ok (.ifCond .eq 6, 3) := by decide +kernel
theorem dX14_press_23 : decode cX14_press 23 = .ok (.bipush (-20), 2) := by decide +kernel
theorem dX14_press_25 : decode cX14_press 25 = .ok (.ireturn, 1) := by decide +kernel
theorem dX14_press_26 : decode cX14_press 26 = .ok (.aload_n 0, 1) := by decide +kernel
theorem dX14_press_27 : decode cX14_press 27 = .ok (.iload_n 1, 1) := by decide +kernel
theorem dX14_press_28 : decode cX14_press 28 = .ok (.iconst 0, 1) := by decide +kernel
theorem dX14_press_29 : decode cX14_press 29 = .ok (.iconst 0, 1) := by decide +kernel
theorem dX14_press_30 : decode cX14_press 30 = .ok (.invokevirtual 505, 3) := by decide +kernel
theorem dX14_press_33 : decode cX14_press 33 = .ok (.aload_n 0, 1) := by decide +kernel
theorem dX14_press_34 : decode cX14_press 34 = .ok (.aload_n 0, 1) := by decide +kernel
theorem dX14_press_35 : decode cX14_press 35 = .ok (.getfield 438, 3) := by decide +kernel
theorem dX14_press_38 : decode cX14_press 38 = .ok (.putfield 509, 3) := by decide +kernel
theorem dX14_press_41 : decode cX14_press 41 = .ok (.aload_n 0, 1) := by decide +kernel
theorem dX14_press_42 : decode cX14_press 42 = .ok (.getfield 409, 3) := by decide +kernel
theorem dX14_press_45 : decode cX14_press 45 = .ok (.ifCond .eq 6, 3) := by decide +kernel
theorem dX14_press_48 : decode cX14_press 48 = .ok (.bipush (-20), 2) := by decide +kernel
theorem dX14_press_50 : decode cX14_press 50 = .ok (.ireturn, 1) := by decide +kernel
theorem dX14_press_51 : decode cX14_press 51 = .ok (.iconst 0, 1) := by decide +kernel
theorem dX14_press_52 : decode cX14_press 52 = .ok (.istore_n 2, 1) := by decide +kernel
theorem dX14_press_53 : decode cX14_press 53 = .ok (.iload_n 2, 1) := by decide +kernel
theorem dX14_press_54 : decode cX14_press 54 = .ok (.aload_n 0, 1) := by decide +kernel
theorem dX14_press_55 : decode cX14_press 55 = .ok (.getfield 378, 3) := by decide +kernel
theorem dX14_press_58 : decode cX14_press 58 = .ok (.if_icmp .ge 21, 3) := by decide +kernel
theorem dX14_press_61 : decode cX14_press 61 = .ok (.aload_n 0, 1) := by decide +kernel
theorem dX14_press_62 : decode cX14_press 62 = .ok (.getfield 43, 3) := by decide +kernel
theorem dX14_press_65 : decode cX14_press 65 = .ok (.iload_n 2, 1) := by decide +kernel
theorem dX14_press_66 : decode cX14_press 66 = .ok (.aload_n 0, 1) := by decide +kernel
theorem dX14_press_67 : decode cX14_press 67 = .ok (.getfield 46, 3) := by decide +kernel
theorem dX14_press_70 : decode cX14_press 70 = .ok (.iload_n 2, 1) := by decide +kernel
theorem dX14_press_71 : decode cX14_press 71 = .ok (.iaload, 1) := by decide +kernel
theorem dX14_press_72 : decode cX14_press 72 = .ok (.iastore, 1) := by decide +kernel
theorem dX14_press_73 : decode cX14_press 73 = .ok (.iinc 2 1, 3) := by decide +kernel
theorem dX14_press_76 : decode cX14_press 76 = .ok (.goto (-23), 3) := by decide +kernel
theorem dX14_press_79 : decode cX14_press 79 = .ok (.aload_n 0, 1) := by decide +kernel
theorem dX14_press_80 : decode cX14_press 80 = .ok (.aload_n 0, 1) := by decide +kernel
theorem dX14_press_81 : decode cX14_press 81 = .ok (.getfield 378, 3) := by decide +kernel
theorem dX14_press_84 : decode cX14_press 84 = .ok (.putfield 512, 3) := by decide +kernel
theorem dX14_press_87 : decode cX14_press 87 = .ok (.aload_n 0, 1) := by decide +kernel
theorem dX14_press_88 : decode cX14_press 88 = .ok (.getfield 512, 3) := by decide +kernel
theorem dX14_press_91 : decode cX14_press 91 = .ok (.ireturn, 1) := by decide +kernel
theorem dX14_page_0 : decode cX14_page 0 = .ok (.iload_n 1, 1) := by decide +kernel
theorem dX14_page_1 : decode cX14_page 1 = .ok (.i2l, 1) := by decide +kernel
theorem dX14_page_2 : decode cX14_page 2 = .ok (.lconst 0, 1) := by decide +kernel
theorem dX14_page_3 : decode cX14_page 3 = .ok (.aload_n 0, 1) := by decide +kernel
theorem dX14_page_4 : decode cX14_page 4 = .ok (.getfield 512, 3) := by decide +kernel
theorem dX14_page_7 : decode cX14_page 7 = .ok (.iconst 1, 1) := by decide +kernel
theorem dX14_page_8 : decode cX14_page 8 = .ok (.isub, 1) := by decide +kernel
theorem dX14_page_9 : decode cX14_page 9 = .ok (.i2l, 1) := by decide +kernel
theorem dX14_page_10 : decode cX14_page 10 = .ok (.invokestatic 155, 3) := by decide +kernel
theorem dX14_page_13 : decode cX14_page 13 = .ok (.ifCond .eq 12, 3) := by decide +kernel
theorem dX14_page_16 : decode cX14_page 16 = .ok (.aload_n 0, 1) := by decide +kernel
theorem dX14_page_17 : decode cX14_page 17 = .ok (.getfield 43, 3) := by decide +kernel
theorem dX14_page_20 : decode cX14_page 20 = .ok (.iload_n 1, 1) := by decide +kernel
theorem dX14_page_21 : decode cX14_page 21 = .ok (.iaload, 1) := by decide +kernel
theorem dX14_page_22 : decode cX14_page 22 = .ok (.goto 4, 3) := by decide +kernel
theorem dX14_page_25 : decode cX14_page 25 = .ok (.iconst (-1), 1) := by decide +kernel
theorem dX14_page_26 : decode cX14_page 26 = .ok (.ireturn, 1) := by decide +kernel
theorem dX14_why_0 : decode cX14_why 0 = .ok (.iload_n 1, 1) := by decide +kernel
theorem dX14_why_1 : decode cX14_why 1 = .ok (.i2l, 1) := by decide +kernel
theorem dX14_why_2 : decode cX14_why 2 = .ok (.lconst 0, 1) := by decide +kernel
theorem dX14_why_3 : decode cX14_why 3 = .ok (.aload_n 0, 1) := by decide +kernel
theorem dX14_why_4 : decode cX14_why 4 = .ok (.getfield 403, 3) := by decide +kernel
theorem dX14_why_7 : decode cX14_why 7 = .ok (.iconst 1, 1) := by decide +kernel
theorem dX14_why_8 : decode cX14_why 8 = .ok (.isub, 1) := by decide +kernel
theorem dX14_why_9 : decode cX14_why 9 = .ok (.i2l, 1) := by decide +kernel
theorem dX14_why_10 : decode cX14_why 10 = .ok (.invokestatic 155, 3) := by decide +kernel
theorem dX14_why_13 : decode cX14_why 13 = .ok (.ifCond .eq 15, 3) := by decide +kernel
theorem dX14_why_16 : decode cX14_why 16 = .ok (.iload_n 2, 1) := by decide +kernel
theorem dX14_why_17 : decode cX14_why 17 = .ok (.i2l, 1) := by decide +kernel
theorem dX14_why_18 : decode cX14_why 18 = .ok (.lconst 0, 1) := by decide +kernel
theorem dX14_why_19 : decode cX14_why 19 = .ok (.ldc2_w 515, 3) := by decide +kernel
theorem dX14_why_22 : decode cX14_why 22 = .ok (.invokestatic 155, 3) := by decide +kernel
theorem dX14_why_25 : decode cX14_why 25 = .ok (.ifCond .ne 5, 3) := by decide +kernel
theorem dX14_why_28 : decode cX14_why 28 = .ok (.iconst (-1), 1) := by decide +kernel
theorem dX14_why_29 : decode cX14_why 29 = .ok (.ireturn, 1) := by decide +kernel
theorem dX14_why_30 : decode cX14_why 30 = .ok (.iload_n 2, 1) := by decide +kernel
theorem dX14_why_31 : decode cX14_why 31 = .ok (.ifCond .ne 12, 3) := by decide +kernel
theorem dX14_why_34 : decode cX14_why 34 = .ok (.aload_n 0, 1) := by decide +kernel
theorem dX14_why_35 : decode cX14_why 35 = .ok (.getfield 89, 3) := by decide +kernel
theorem dX14_why_38 : decode cX14_why 38 = .ok (.iload_n 1, 1) := by decide +kernel
theorem dX14_why_39 : decode cX14_why 39 = .ok (.iaload, 1) := by decide +kernel
theorem dX14_why_40 : decode cX14_why 40 = .ok (.goto 23, 3) := by decide +kernel
theorem dX14_why_43 : decode cX14_why 43 = .ok (.iload_n 2, 1) := by decide +kernel
theorem dX14_why_44 : decode cX14_why 44 = .ok (.iconst 1, 1) := by decide +kernel
theorem dX14_why_45 : decode cX14_why 45 = .ok (.if_icmp .ne 12, 3) := by decide +kernel
theorem dX14_why_48 : decode cX14_why 48 = .ok (.aload_n 0, 1) := by decide +kernel
theorem dX14_why_49 : decode cX14_why 49 = .ok (.getfield 92, 3) := by decide +kernel
theorem dX14_why_52 : decode cX14_why 52 = .ok (.iload_n 1, 1) := by decide +kernel
theorem dX14_why_53 : decode cX14_why 53 = .ok (.iaload, 1) := by decide +kernel
theorem dX14_why_54 : decode cX14_why 54 = .ok (.goto 9, 3) := by decide +kernel
theorem dX14_why_57 : decode cX14_why 57 = .ok (.aload_n 0, 1) := by decide +kernel
theorem dX14_why_58 : decode cX14_why 58 = .ok (.getfield 95, 3) := by decide +kernel
theorem dX14_why_61 : decode cX14_why 61 = .ok (.iload_n 1, 1) := by decide +kernel
theorem dX14_why_62 : decode cX14_why 62 = .ok (.iaload, 1) := by decide +kernel
theorem dX14_why_63 : decode cX14_why 63 = .ok (.ireturn, 1) := by decide +kernel
theorem dX14_budget_0 : decode cX14_budget 0 = .ok (.iload_n 1, 1) := by decide +kernel
theorem dX14_budget_1 : decode cX14_budget 1 = .ok (.i2l, 1) := by decide +kernel
theorem dX14_budget_2 : decode cX14_budget 2 = .ok (.lconst 0, 1) := by decide +kernel
theorem dX14_budget_3 : decode cX14_budget 3 = .ok (.ldc2_w 517, 3) := by decide +kernel
theorem dX14_budget_6 : decode cX14_budget 6 = .ok (.invokestatic 155, 3) := by decide +kernel
theorem dX14_budget_9 : decode cX14_budget 9 = .ok (.ifCond .ne 6, 3) := by decide +kernel
theorem dX14_budget_12 : decode cX14_budget 12 = .ok (.bipush (-2), 2) := by decide +kernel
theorem dX14_budget_14 : decode cX14_budget 14 = .ok (.ireturn, 1) := by decide +kernel
theorem dX14_budget_15 : decode cX14_budget 15 = .ok (.aload_n 0, 1) := by decide +kernel
theorem dX14_budget_16 : decode cX14_budget 16 = .ok (.getfield 49, 3) := by decide +kernel
theorem dX14_budget_19 : decode cX14_budget 19 = .ok (.istore_n 2, 1) := by decide +kernel
theorem dX14_budget_20 : decode cX14_budget 20 = .ok (.aload_n 0, 1) := by decide +kernel
theorem dX14_budget_21 : decode cX14_budget 21 = .ok (.iload_n 1, 1) := by decide +kernel
theorem dX14_budget_22 : decode cX14_budget 22 = .ok (.putfield 49, 3) := by decide +kernel
theorem dX14_budget_25 : decode cX14_budget 25 = .ok (.iload_n 2, 1) := by decide +kernel
theorem dX14_budget_26 : decode cX14_budget 26 = .ok (.ireturn, 1) := by decide +kernel
theorem dX14_withText_0 : decode cX14_withText 0 = .ok (.iconst 0, 1) := by decide +kernel
theorem dX14_withText_1 : decode cX14_withText 1 = .ok (.istore_n 1, 1) := by decide +kernel
theorem dX14_withText_2 : decode cX14_withText 2 = .ok (.iconst 0, 1) := by decide +kernel
theorem dX14_withText_3 : decode cX14_withText 3 = .ok (.istore_n 2, 1) := by decide +kernel
theorem dX14_withText_4 : decode cX14_withText 4 = .ok (.iload_n 2, 1) := by decide +kernel
theorem dX14_withText_5 : decode cX14_withText 5 = .ok (.bipush 6, 2) := by decide +kernel
theorem dX14_withText_7 : decode cX14_withText 7 = .ok (.if_icmp .ge 28, 3) := by decide +kernel
theorem dX14_withText_10 : decode cX14_withText 10 = .ok (.iload_n 1, 1) := by decide +kernel
theorem dX14_withText_11 : decode cX14_withText 11 = .ok (.aload_n 0, 1) := by decide +kernel
theorem dX14_withText_12 : decode cX14_withText 12 = .ok (.getfield 37, 3) := by decide +kernel
theorem dX14_withText_15 : decode cX14_withText 15 = .ok (.iload_n 2, 1) := by decide +kernel
theorem dX14_withText_16 : decode cX14_withText 16 = .ok (.iaload, 1) := by decide +kernel
theorem dX14_withText_17 : decode cX14_withText 17 = .ok (.ifCond .lt 9, 3) := by decide +kernel
theorem dX14_withText_20 : decode cX14_withText 20 = .ok (.iconst 1, 1) := by decide +kernel
theorem dX14_withText_21 : decode cX14_withText 21 = .ok (.iload_n 2, 1) := by decide +kernel
theorem dX14_withText_22 : decode cX14_withText 22 = .ok (.ishl, 1) := by decide +kernel
theorem dX14_withText_23 : decode cX14_withText 23 = .ok (.goto 4, 3) := by decide +kernel
theorem dX14_withText_26 : decode cX14_withText 26 = .ok (.iconst 0, 1) := by decide +kernel
theorem dX14_withText_27 : decode cX14_withText 27 = .ok (.ior, 1) := by decide +kernel
theorem dX14_withText_28 : decode cX14_withText 28 = .ok (.istore_n 1, 1) := by decide +kernel
theorem dX14_withText_29 : decode cX14_withText 29 = .ok (.iinc 2 1, 3) := by decide +kernel
theorem dX14_withText_32 : decode cX14_withText 32 = .ok (.goto (-28), 3) := by decide +kernel
theorem dX14_withText_35 : decode cX14_withText 35 = .ok (.iload_n 1, 1) := by decide +kernel
theorem dX14_withText_36 : decode cX14_withText 36 = .ok (.ireturn, 1) := by decide +kernel
theorem dX14_onPage_0 : decode cX14_onPage 0 = .ok (.iconst 0, 1) := by decide +kernel
theorem dX14_onPage_1 : decode cX14_onPage 1 = .ok (.istore_n 2, 1) := by decide +kernel
theorem dX14_onPage_2 : decode cX14_onPage 2 = .ok (.iconst 0, 1) := by decide +kernel
theorem dX14_onPage_3 : decode cX14_onPage 3 = .ok (.istore_n 3, 1) := by decide +kernel
theorem dX14_onPage_4 : decode cX14_onPage 4 = .ok (.iload_n 3, 1) := by decide +kernel
theorem dX14_onPage_5 : decode cX14_onPage 5 = .ok (.aload_n 0, 1) := by decide +kernel
theorem dX14_onPage_6 : decode cX14_onPage 6 = .ok (.getfield 512, 3) := by decide +kernel
theorem dX14_onPage_9 : decode cX14_onPage 9 = .ok (.if_icmp .ge 41, 3) := by decide +kernel
theorem dX14_onPage_12 : decode cX14_onPage 12 = .ok (.iload_n 2, 1) := by decide +kernel
theorem dX14_onPage_13 : decode cX14_onPage 13 = .ok (.iload_n 1, 1) := by decide +kernel
theorem dX14_onPage_14 : decode cX14_onPage 14 = .ok (.ifCond .eq 12, 3) := by decide +kernel
theorem dX14_onPage_17 : decode cX14_onPage 17 = .ok (.aload_n 0, 1) := by decide +kernel
theorem dX14_onPage_18 : decode cX14_onPage 18 = .ok (.getfield 43, 3) := by decide +kernel
theorem dX14_onPage_21 : decode cX14_onPage 21 = .ok (.iload_n 3, 1) := by decide +kernel
theorem dX14_onPage_22 : decode cX14_onPage 22 = .ok (.iaload, 1) := by decide +kernel
theorem dX14_onPage_23 : decode cX14_onPage 23 = .ok (.goto 19, 3) := by decide +kernel
theorem dX14_onPage_26 : decode cX14_onPage 26 = .ok (.aload_n 0, 1) := by decide +kernel
theorem dX14_onPage_27 : decode cX14_onPage 27 = .ok (.getfield 43, 3) := by decide +kernel
theorem dX14_onPage_30 : decode cX14_onPage 30 = .ok (.iload_n 3, 1) := by decide +kernel
theorem dX14_onPage_31 : decode cX14_onPage 31 = .ok (.iaload, 1) := by decide +kernel
theorem dX14_onPage_32 : decode cX14_onPage 32 = .ok (.bipush 10, 2) := by decide +kernel
theorem dX14_onPage_34 : decode cX14_onPage 34 = .ok (.if_icmp .ne 7, 3) := by decide +kernel
theorem dX14_onPage_37 : decode cX14_onPage 37 = .ok (.iconst 1, 1) := by decide +kernel
theorem dX14_onPage_38 : decode cX14_onPage 38 = .ok (.goto 4, 3) := by decide +kernel
theorem dX14_onPage_41 : decode cX14_onPage 41 = .ok (.iconst 0, 1) := by decide +kernel
theorem dX14_onPage_42 : decode cX14_onPage 42 = .ok (.iadd, 1) := by decide +kernel
theorem dX14_onPage_43 : decode cX14_onPage 43 = .ok (.istore_n 2, 1) := by decide +kernel
theorem dX14_onPage_44 : decode cX14_onPage 44 = .ok (.iinc 3 1, 3) := by decide +kernel
theorem dX14_onPage_47 : decode cX14_onPage 47 = .ok (.goto (-43), 3) := by decide +kernel
theorem dX14_onPage_50 : decode cX14_onPage 50 = .ok (.iload_n 2, 1) := by decide +kernel
theorem dX14_onPage_51 : decode cX14_onPage 51 = .ok (.ireturn, 1) := by decide +kernel
theorem dX14_told_0 : decode cX14_told 0 = .ok (.iload_n 1, 1) := by decide +kernel
theorem dX14_told_1 : decode cX14_told 1 = .ok (.tableswitch 89 0 7 #[47, 52, 57, 62, 67, 72, 77, 83], 47) := by decide +kernel
theorem dX14_told_48 : decode cX14_told 48 = .ok (.aload_n 0, 1) := by decide +kernel
theorem dX14_told_49 : decode cX14_told 49 = .ok (.getfield 512, 3) := by decide +kernel
theorem dX14_told_52 : decode cX14_told 52 = .ok (.ireturn, 1) := by decide +kernel
theorem dX14_told_53 : decode cX14_told 53 = .ok (.aload_n 0, 1) := by decide +kernel
theorem dX14_told_54 : decode cX14_told 54 = .ok (.getfield 403, 3) := by decide +kernel
theorem dX14_told_57 : decode cX14_told 57 = .ok (.ireturn, 1) := by decide +kernel
theorem dX14_told_58 : decode cX14_told 58 = .ok (.aload_n 0, 1) := by decide +kernel
theorem dX14_told_59 : decode cX14_told 59 = .ok (.getfield 49, 3) := by decide +kernel
theorem dX14_told_62 : decode cX14_told 62 = .ok (.ireturn, 1) := by decide +kernel
theorem dX14_told_63 : decode cX14_told 63 = .ok (.aload_n 0, 1) := by decide +kernel
theorem dX14_told_64 : decode cX14_told 64 = .ok (.invokevirtual 519, 3) := by decide +kernel
theorem dX14_told_67 : decode cX14_told 67 = .ok (.ireturn, 1) := by decide +kernel
theorem dX14_told_68 : decode cX14_told 68 = .ok (.aload_n 0, 1) := by decide +kernel
theorem dX14_told_69 : decode cX14_told 69 = .ok (.getfield 229, 3) := by decide +kernel
theorem dX14_told_72 : decode cX14_told 72 = .ok (.ireturn, 1) := by decide +kernel
theorem dX14_told_73 : decode cX14_told 73 = .ok (.aload_n 0, 1) := by decide +kernel
theorem dX14_told_74 : decode cX14_told 74 = .ok (.getfield 509, 3) := by decide +kernel
theorem dX14_told_77 : decode cX14_told 77 = .ok (.ireturn, 1) := by decide +kernel
theorem dX14_told_78 : decode cX14_told 78 = .ok (.aload_n 0, 1) := by decide +kernel
theorem dX14_told_79 : decode cX14_told 79 = .ok (.iconst 1, 1) := by decide +kernel
theorem dX14_told_80 : decode cX14_told 80 = .ok (.invokevirtual 522, 3) := by decide +kernel
theorem dX14_told_83 : decode cX14_told 83 = .ok (.ireturn, 1) := by decide +kernel
theorem dX14_told_84 : decode cX14_told 84 = .ok (.aload_n 0, 1) := by decide +kernel
theorem dX14_told_85 : decode cX14_told 85 = .ok (.iconst 0, 1) := by decide +kernel
theorem dX14_told_86 : decode cX14_told 86 = .ok (.invokevirtual 522, 3) := by decide +kernel
theorem dX14_told_89 : decode cX14_told 89 = .ok (.ireturn, 1) := by decide +kernel
theorem dX14_told_90 : decode cX14_told 90 = .ok (.iconst (-1), 1) := by decide +kernel
theorem dX14_told_91 : decode cX14_told 91 = .ok (.ireturn, 1) := by decide +kernel
theorem dX14_isVariable_0 : decode cX14_isVariable 0 = .ok (.iload_n 0, 1) := by decide +kernel
theorem dX14_isVariable_1 : decode cX14_isVariable 1 = .ok (.i2l, 1) := by decide +kernel
theorem dX14_isVariable_2 : decode cX14_isVariable 2 = .ok (.lconst 0, 1) := by decide +kernel
theorem dX14_isVariable_3 : decode cX14_isVariable 3 = .ok (.ldc2_w 526, 3) := by decide +kernel
theorem dX14_isVariable_6 : decode cX14_isVariable 6 = .ok (.invokestatic 155, 3) := by decide +kernel
theorem dX14_isVariable_9 : decode cX14_isVariable 9 = .ok (.ireturn, 1) := by decide +kernel
theorem dX14_none_0 : decode cX14_none 0 = .ok (.iload_n 1, 1) := by decide +kernel
theorem dX14_none_1 : decode cX14_none 1 = .ok (.invokestatic 528, 3) := by decide +kernel
theorem dX14_none_4 : decode cX14_none 4 = .ok (.ifCond .ne 5, 3) := by decide +kernel
theorem dX14_none_7 : decode cX14_none 7 = .ok (.iconst (-1), 1) := by decide +kernel
theorem dX14_none_8 : decode cX14_none 8 = .ok (.ireturn, 1) := by decide +kernel
theorem dX14_none_9 : decode cX14_none 9 = .ok (.aload_n 0, 1) := by decide +kernel
theorem dX14_none_10 : decode cX14_none 10 = .ok (.getfield 11, 3) := by decide +kernel
theorem dX14_none_13 : decode cX14_none 13 = .ok (.iload_n 1, 1) := by decide +kernel
theorem dX14_none_14 : decode cX14_none 14 = .ok (.iaload, 1) := by decide +kernel
theorem dX14_none_15 : decode cX14_none 15 = .ok (.istore_n 2, 1) := by decide +kernel
theorem dX14_none_16 : decode cX14_none 16 = .ok (.aload_n 0, 1) := by decide +kernel
theorem dX14_none_17 : decode cX14_none 17 = .ok (.getfield 11, 3) := by decide +kernel
theorem dX14_none_20 : decode cX14_none 20 = .ok (.iload_n 1, 1) := by decide +kernel
theorem dX14_none_21 : decode cX14_none 21 = .ok (.iconst 0, 1) := by decide +kernel
theorem dX14_none_22 : decode cX14_none 22 = .ok (.iastore, 1) := by decide +kernel
theorem dX14_none_23 : decode cX14_none 23 = .ok (.iload_n 2, 1) := by decide +kernel
theorem dX14_none_24 : decode cX14_none 24 = .ok (.ireturn, 1) := by decide +kernel
theorem dX14_number_0 : decode cX14_number 0 = .ok (.iload_n 1, 1) := by decide +kernel
theorem dX14_number_1 : decode cX14_number 1 = .ok (.invokestatic 528, 3) := by decide +kernel
theorem dX14_number_4 : decode cX14_number 4 = .ok (.ifCond .ne 5, 3) := by decide +kernel
theorem dX14_number_7 : decode cX14_number 7 = .ok (.iconst (-1), 1) := by decide +kernel
theorem dX14_number_8 : decode cX14_number 8 = .ok (.ireturn, 1) := by decide +kernel
theorem dX14_number_9 : decode cX14_number 9 = .ok (.iload_n 2, 1) := by decide +kernel
theorem dX14_number_10 : decode cX14_number 10 = .ok (.i2l, 1) := by decide +kernel
theorem dX14_number_11 : decode cX14_number 11 = .ok (.ldc2_w 167, 3) := by decide +kernel
theorem dX14_number_14 : decode cX14_number 14 = .ok (.ldc2_w 169, 3) := by decide +kernel
theorem dX14_number_17 : decode cX14_number 17 = .ok (.invokestatic 155, 3) := by decide +kernel
theorem dX14_number_20 : decode cX14_number 20 = .ok (.ifCond .ne 6, 3) := by decide +kernel
theorem dX14_number_23 : decode cX14_number 23 = .ok (.bipush (-2), 2) := by decide +kernel
theorem dX14_number_25 : decode cX14_number 25 = .ok (.ireturn, 1) := by decide +kernel
theorem dX14_number_26 : decode cX14_number 26 = .ok (.aload_n 0, 1) := by decide +kernel
theorem dX14_number_27 : decode cX14_number 27 = .ok (.getfield 11, 3) := by decide +kernel
theorem dX14_number_30 : decode cX14_number 30 = .ok (.iload_n 1, 1) := by decide +kernel
theorem dX14_number_31 : decode cX14_number 31 = .ok (.iaload, 1) := by decide +kernel
theorem dX14_number_32 : decode cX14_number 32 = .ok (.istore_n 3, 1) := by decide +kernel
theorem dX14_number_33 : decode cX14_number 33 = .ok (.aload_n 0, 1) := by decide +kernel
theorem dX14_number_34 : decode cX14_number 34 = .ok (.iload_n 1, 1) := by decide +kernel
theorem dX14_number_35 : decode cX14_number 35 = .ok (.iload_n 2, 1) := by decide +kernel
theorem dX14_number_36 : decode cX14_number 36 = .ok (.invokevirtual 171, 3) := by decide +kernel
theorem dX14_number_39 : decode cX14_number 39 = .ok (.iload_n 3, 1) := by decide +kernel
theorem dX14_number_40 : decode cX14_number 40 = .ok (.ireturn, 1) := by decide +kernel
theorem dX14_real_0 : decode cX14_real 0 = .ok (.iload_n 1, 1) := by decide +kernel
theorem dX14_real_1 : decode cX14_real 1 = .ok (.invokestatic 528, 3) := by decide +kernel
theorem dX14_real_4 : decode cX14_real 4 = .ok (.ifCond .ne 5, 3) := by decide +kernel
theorem dX14_real_7 : decode cX14_real 7 = .ok (.iconst (-1), 1) := by decide +kernel
theorem dX14_real_8 : decode cX14_real 8 = .ok (.ireturn, 1) := by decide +kernel
theorem dX14_real_9 : decode cX14_real 9 = .ok (.iload_n 3, 1) := by decide +kernel
theorem dX14_real_10 : decode cX14_real 10 = .ok (.ifCond .ne 6, 3) := by decide +kernel
theorem dX14_real_13 : decode cX14_real 13 = .ok (.bipush (-2), 2) := by decide +kernel
theorem dX14_real_15 : decode cX14_real 15 = .ok (.ireturn, 1) := by decide +kernel
theorem dX14_real_16 : decode cX14_real 16 = .ok (.aload_n 0, 1) := by decide +kernel
theorem dX14_real_17 : decode cX14_real 17 = .ok (.getfield 11, 3) := by decide +kernel
theorem dX14_real_20 : decode cX14_real 20 = .ok (.iload_n 1, 1) := by decide +kernel
theorem dX14_real_21 : decode cX14_real 21 = .ok (.iaload, 1) := by decide +kernel
theorem dX14_real_22 : decode cX14_real 22 = .ok (.istore 4, 2) := by decide +kernel
theorem dX14_real_24 : decode cX14_real 24 = .ok (.aload_n 0, 1) := by decide +kernel
theorem dX14_real_25 : decode cX14_real 25 = .ok (.iload_n 1, 1) := by decide +kernel
theorem dX14_real_26 : decode cX14_real 26 = .ok (.iload_n 2, 1) := by decide +kernel
theorem dX14_real_27 : decode cX14_real 27 = .ok (.i2f, 1) := by decide +kernel
theorem dX14_real_28 : decode cX14_real 28 = .ok (.iload_n 3, 1) := by decide +kernel
theorem dX14_real_29 : decode cX14_real 29 = .ok (.i2f, 1) := by decide +kernel
theorem dX14_real_30 : decode cX14_real 30 = .ok (.fdiv, 1) := by decide +kernel
theorem dX14_real_31 : decode cX14_real 31 = .ok (.invokevirtual 193, 3) := by decide +kernel
theorem dX14_real_34 : decode cX14_real 34 = .ok (.iload 4, 2) := by decide +kernel
theorem dX14_real_36 : decode cX14_real 36 = .ok (.ireturn, 1) := by decide +kernel
theorem dX14_text_0 : decode cX14_text 0 = .ok (.iload_n 1, 1) := by decide +kernel
theorem dX14_text_1 : decode cX14_text 1 = .ok (.invokestatic 528, 3) := by decide +kernel
theorem dX14_text_4 : decode cX14_text 4 = .ok (.ifCond .ne 5, 3) := by decide +kernel
theorem dX14_text_7 : decode cX14_text 7 = .ok (.iconst (-1), 1) := by decide +kernel
theorem dX14_text_8 : decode cX14_text 8 = .ok (.ireturn, 1) := by decide +kernel
theorem dX14_text_9 : decode cX14_text 9 = .ok (.aload_n 0, 1) := by decide +kernel
theorem dX14_text_10 : decode cX14_text 10 = .ok (.getfield 229, 3) := by decide +kernel
theorem dX14_text_13 : decode cX14_text 13 = .ok (.istore_n 2, 1) := by decide +kernel
theorem dX14_text_14 : decode cX14_text 14 = .ok (.aload_n 0, 1) := by decide +kernel
theorem dX14_text_15 : decode cX14_text 15 = .ok (.iconst 0, 1) := by decide +kernel
theorem dX14_text_16 : decode cX14_text 16 = .ok (.putfield 229, 3) := by decide +kernel
theorem dX14_text_19 : decode cX14_text 19 = .ok (.iload_n 2, 1) := by decide +kernel
theorem dX14_text_20 : decode cX14_text 20 = .ok (.bipush 16, 2) := by decide +kernel
theorem dX14_text_22 : decode cX14_text 22 = .ok (.if_icmp .le 6, 3) := by decide +kernel
theorem dX14_text_25 : decode cX14_text 25 = .ok (.bipush (-2), 2) := by decide +kernel
theorem dX14_text_27 : decode cX14_text 27 = .ok (.ireturn, 1) := by decide +kernel
theorem dX14_text_28 : decode cX14_text 28 = .ok (.aload_n 0, 1) := by decide +kernel
theorem dX14_text_29 : decode cX14_text 29 = .ok (.getfield 11, 3) := by decide +kernel
theorem dX14_text_32 : decode cX14_text 32 = .ok (.iload_n 1, 1) := by decide +kernel
theorem dX14_text_33 : decode cX14_text 33 = .ok (.iaload, 1) := by decide +kernel
theorem dX14_text_34 : decode cX14_text 34 = .ok (.istore_n 3, 1) := by decide +kernel
theorem dX14_text_35 : decode cX14_text 35 = .ok (.aload_n 0, 1) := by decide +kernel
theorem dX14_text_36 : decode cX14_text 36 = .ok (.getfield 11, 3) := by decide +kernel
theorem dX14_text_39 : decode cX14_text 39 = .ok (.iload_n 1, 1) := by decide +kernel
theorem dX14_text_40 : decode cX14_text 40 = .ok (.iconst 3, 1) := by decide +kernel
theorem dX14_text_41 : decode cX14_text 41 = .ok (.iastore, 1) := by decide +kernel
theorem dX14_text_42 : decode cX14_text 42 = .ok (.aload_n 0, 1) := by decide +kernel
theorem dX14_text_43 : decode cX14_text 43 = .ok (.getfield 18, 3) := by decide +kernel
theorem dX14_text_46 : decode cX14_text 46 = .ok (.iload_n 1, 1) := by decide +kernel
theorem dX14_text_47 : decode cX14_text 47 = .ok (.iload_n 2, 1) := by decide +kernel
theorem dX14_text_48 : decode cX14_text 48 = .ok (.iastore, 1) := by decide +kernel
theorem dX14_text_49 : decode cX14_text 49 = .ok (.iconst 0, 1) := by decide +kernel
theorem dX14_text_50 : decode cX14_text 50 = .ok (.istore 4, 2) := by decide +kernel
theorem dX14_text_52 : decode cX14_text 52 = .ok (.iload 4, 2) := by decide +kernel
theorem dX14_text_54 : decode cX14_text 54 = .ok (.iload_n 2, 1) := by decide +kernel
theorem dX14_text_55 : decode cX14_text 55 = .ok (.if_icmp .ge 28, 3) := by decide +kernel
theorem dX14_text_58 : decode cX14_text 58 = .ok (.aload_n 0, 1) := by decide +kernel
theorem dX14_text_59 : decode cX14_text 59 = .ok (.getfield 21, 3) := by decide +kernel
theorem dX14_text_62 : decode cX14_text 62 = .ok (.bipush 16, 2) := by decide +kernel
theorem dX14_text_64 : decode cX14_text 64 = .ok (.iload_n 1, 1) := by decide +kernel
theorem dX14_text_65 : decode cX14_text 65 = .ok (.imul, 1) := by decide +kernel
theorem dX14_text_66 : decode cX14_text 66 = .ok (.iload 4, 2) := by decide +kernel
theorem dX14_text_68 : decode cX14_text 68 = .ok (.iadd, 1) := by decide +kernel
theorem dX14_text_69 : decode cX14_text 69 = .ok (.aload_n 0, 1) := by decide +kernel
theorem dX14_text_70 : decode cX14_text 70 = .ok (.getfield 31, 3) := by decide +kernel
theorem dX14_text_73 : decode cX14_text 73 = .ok (.iload 4, 2) := by decide +kernel
theorem dX14_text_75 : decode cX14_text 75 = .ok (.iaload, 1) := by decide +kernel
theorem dX14_text_76 : decode cX14_text 76 = .ok (.iastore, 1) := by decide +kernel
theorem dX14_text_77 : decode cX14_text 77 = .ok (.iinc 4 1, 3) := by decide +kernel
theorem dX14_text_80 : decode cX14_text 80 = .ok (.goto (-28), 3) := by decide +kernel
theorem dX14_text_83 : decode cX14_text 83 = .ok (.iload_n 3, 1) := by decide +kernel
theorem dX14_text_84 : decode cX14_text 84 = .ok (.ireturn, 1) := by decide +kernel
theorem dX14_list_0 : decode cX14_list 0 = .ok (.iload_n 1, 1) := by decide +kernel
theorem dX14_list_1 : decode cX14_list 1 = .ok (.invokestatic 528, 3) := by decide +kernel
theorem dX14_list_4 : decode cX14_list 4 = .ok (.ifCond .ne 5, 3) := by decide +kernel
theorem dX14_list_7 : decode cX14_list 7 = .ok (.iconst (-1), 1) := by decide +kernel
theorem dX14_list_8 : decode cX14_list 8 = .ok (.ireturn, 1) := by decide +kernel
theorem dX14_list_9 : decode cX14_list 9 = .ok (.iload_n 2, 1) := by decide +kernel
theorem dX14_list_10 : decode cX14_list 10 = .ok (.i2l, 1) := by decide +kernel
theorem dX14_list_11 : decode cX14_list 11 = .ok (.lconst 0, 1) := by decide +kernel
theorem dX14_list_12 : decode cX14_list 12 = .ok (.ldc2_w 327, 3) := by decide +kernel
theorem dX14_list_15 : decode cX14_list 15 = .ok (.invokestatic 155, 3) := by decide +kernel
theorem dX14_list_18 : decode cX14_list 18 = .ok (.ifCond .ne 6, 3) := by decide +kernel
theorem dX14_list_21 : decode cX14_list 21 = .ok (.bipush (-2), 2) := by decide +kernel
theorem dX14_list_23 : decode cX14_list 23 = .ok (.ireturn, 1) := by decide +kernel
theorem dX14_list_24 : decode cX14_list 24 = .ok (.aload_n 0, 1) := by decide +kernel
theorem dX14_list_25 : decode cX14_list 25 = .ok (.getfield 11, 3) := by decide +kernel
theorem dX14_list_28 : decode cX14_list 28 = .ok (.iload_n 1, 1) := by decide +kernel
theorem dX14_list_29 : decode cX14_list 29 = .ok (.iaload, 1) := by decide +kernel
theorem dX14_list_30 : decode cX14_list 30 = .ok (.istore_n 3, 1) := by decide +kernel
theorem dX14_list_31 : decode cX14_list 31 = .ok (.aload_n 0, 1) := by decide +kernel
theorem dX14_list_32 : decode cX14_list 32 = .ok (.getfield 11, 3) := by decide +kernel
theorem dX14_list_35 : decode cX14_list 35 = .ok (.iload_n 1, 1) := by decide +kernel
theorem dX14_list_36 : decode cX14_list 36 = .ok (.iconst 4, 1) := by decide +kernel
theorem dX14_list_37 : decode cX14_list 37 = .ok (.iastore, 1) := by decide +kernel
theorem dX14_list_38 : decode cX14_list 38 = .ok (.aload_n 0, 1) := by decide +kernel
theorem dX14_list_39 : decode cX14_list 39 = .ok (.getfield 18, 3) := by decide +kernel
theorem dX14_list_42 : decode cX14_list 42 = .ok (.iload_n 1, 1) := by decide +kernel
theorem dX14_list_43 : decode cX14_list 43 = .ok (.iload_n 2, 1) := by decide +kernel
theorem dX14_list_44 : decode cX14_list 44 = .ok (.iastore, 1) := by decide +kernel
theorem dX14_list_45 : decode cX14_list 45 = .ok (.iconst 0, 1) := by decide +kernel
theorem dX14_list_46 : decode cX14_list 46 = .ok (.istore 4, 2) := by decide +kernel
theorem dX14_list_48 : decode cX14_list 48 = .ok (.iload 4, 2) := by decide +kernel
theorem dX14_list_50 : decode cX14_list 50 = .ok (.iload_n 2, 1) := by decide +kernel
theorem dX14_list_51 : decode cX14_list 51 = .ok (.if_icmp .ge 22, 3) := by decide +kernel
theorem dX14_list_54 : decode cX14_list 54 = .ok (.aload_n 0, 1) := by decide +kernel
theorem dX14_list_55 : decode cX14_list 55 = .ok (.getfield 21, 3) := by decide +kernel
theorem dX14_list_58 : decode cX14_list 58 = .ok (.bipush 16, 2) := by decide +kernel
theorem dX14_list_60 : decode cX14_list 60 = .ok (.iload_n 1, 1) := by decide +kernel
theorem dX14_list_61 : decode cX14_list 61 = .ok (.imul, 1) := by decide +kernel
theorem dX14_list_62 : decode cX14_list 62 = .ok (.iload 4, 2) := by decide +kernel
theorem dX14_list_64 : decode cX14_list 64 = .ok (.iadd, 1) := by decide +kernel
theorem dX14_list_65 : decode cX14_list 65 = .ok (.iconst 0, 1) := by decide +kernel
theorem dX14_list_66 : decode cX14_list 66 = .ok (.iastore, 1) := by decide +kernel
theorem dX14_list_67 : decode cX14_list 67 = .ok (.iinc 4 1, 3) := by decide +kernel
theorem dX14_list_70 : decode cX14_list 70 = .ok (.goto (-22), 3) := by decide +kernel
theorem dX14_list_73 : decode cX14_list 73 = .ok (.iload_n 3, 1) := by decide +kernel
theorem dX14_list_74 : decode cX14_list 74 = .ok (.ireturn, 1) := by decide +kernel
theorem dX14_item_0 : decode cX14_item 0 = .ok (.iload_n 1, 1) := by decide +kernel
theorem dX14_item_1 : decode cX14_item 1 = .ok (.invokestatic 528, 3) := by decide +kernel
theorem dX14_item_4 : decode cX14_item 4 = .ok (.ifCond .ne 5, 3) := by decide +kernel
theorem dX14_item_7 : decode cX14_item 7 = .ok (.iconst (-1), 1) := by decide +kernel
theorem dX14_item_8 : decode cX14_item 8 = .ok (.ireturn, 1) := by decide +kernel
theorem dX14_item_9 : decode cX14_item 9 = .ok (.aload_n 0, 1) := by decide +kernel
theorem dX14_item_10 : decode cX14_item 10 = .ok (.getfield 11, 3) := by decide +kernel
theorem dX14_item_13 : decode cX14_item 13 = .ok (.iload_n 1, 1) := by decide +kernel
theorem dX14_item_14 : decode cX14_item 14 = .ok (.iaload, 1) := by decide +kernel
theorem dX14_item_15 : decode cX14_item 15 = .ok (.iconst 4, 1) := by decide +kernel
theorem dX14_item_16 : decode cX14_item 16 = .ok (.if_icmp .eq 6, 3) := by decide +kernel
theorem dX14_item_19 : decode cX14_item 19 = .ok (.bipush (-3), 2) := by decide +kernel
theorem dX14_item_21 : decode cX14_item 21 = .ok (.ireturn, 1) := by decide +kernel
theorem dX14_item_22 : decode cX14_item 22 = .ok (.iload_n 2, 1) := by decide +kernel
theorem dX14_item_23 : decode cX14_item 23 = .ok (.i2l, 1) := by decide +kernel
theorem dX14_item_24 : decode cX14_item 24 = .ok (.lconst 0, 1) := by decide +kernel
theorem dX14_item_25 : decode cX14_item 25 = .ok (.aload_n 0, 1) := by decide +kernel
theorem dX14_item_26 : decode cX14_item 26 = .ok (.getfield 18, 3) := by decide +kernel
theorem dX14_item_29 : decode cX14_item 29 = .ok (.iload_n 1, 1) := by decide +kernel
theorem dX14_item_30 : decode cX14_item 30 = .ok (.iaload, 1) := by decide +kernel
theorem dX14_item_31 : decode cX14_item 31 = .ok (.iconst 1, 1) := by decide +kernel
theorem dX14_item_32 : decode cX14_item 32 = .ok (.isub, 1) := by decide +kernel
theorem dX14_item_33 : decode cX14_item 33 = .ok (.i2l, 1) := by decide +kernel
theorem dX14_item_34 : decode cX14_item 34 = .ok (.invokestatic 155, 3) := by decide +kernel
theorem dX14_item_37 : decode cX14_item 37 = .ok (.ifCond .ne 5, 3) := by decide +kernel
theorem dX14_item_40 : decode cX14_item 40 = .ok (.iconst (-1), 1) := by decide +kernel
theorem dX14_item_41 : decode cX14_item 41 = .ok (.ireturn, 1) := by decide +kernel
theorem dX14_item_42 : decode cX14_item 42 = .ok (.iload_n 3, 1) := by decide +kernel
theorem dX14_item_43 : decode cX14_item 43 = .ok (.i2l, 1) := by decide +kernel
theorem dX14_item_44 : decode cX14_item 44 = .ok (.ldc2_w 167, 3) := by decide +kernel
theorem dX14_item_47 : decode cX14_item 47 = .ok (.ldc2_w 169, 3) := by decide +kernel
theorem dX14_item_50 : decode cX14_item 50 = .ok (.invokestatic 155, 3) := by decide +kernel
theorem dX14_item_53 : decode cX14_item 53 = .ok (.ifCond .ne 6, 3) := by decide +kernel
theorem dX14_item_56 : decode cX14_item 56 = .ok (.bipush (-2), 2) := by decide +kernel
theorem dX14_item_58 : decode cX14_item 58 = .ok (.ireturn, 1) := by decide +kernel
theorem dX14_item_59 : decode cX14_item 59 = .ok (.aload_n 0, 1) := by decide +kernel
theorem dX14_item_60 : decode cX14_item 60 = .ok (.getfield 21, 3) := by decide +kernel
theorem dX14_item_63 : decode cX14_item 63 = .ok (.bipush 16, 2) := by decide +kernel
theorem dX14_item_65 : decode cX14_item 65 = .ok (.iload_n 1, 1) := by decide +kernel
theorem dX14_item_66 : decode cX14_item 66 = .ok (.imul, 1) := by decide +kernel
theorem dX14_item_67 : decode cX14_item 67 = .ok (.iload_n 2, 1) := by decide +kernel
theorem dX14_item_68 : decode cX14_item 68 = .ok (.iadd, 1) := by decide +kernel
theorem dX14_item_69 : decode cX14_item 69 = .ok (.iaload, 1) := by decide +kernel
theorem dX14_item_70 : decode cX14_item 70 = .ok (.istore 4, 2) := by decide +kernel
theorem dX14_item_72 : decode cX14_item 72 = .ok (.aload_n 0, 1) := by decide +kernel
theorem dX14_item_73 : decode cX14_item 73 = .ok (.getfield 21, 3) := by decide +kernel
theorem dX14_item_76 : decode cX14_item 76 = .ok (.bipush 16, 2) := by decide +kernel
theorem dX14_item_78 : decode cX14_item 78 = .ok (.iload_n 1, 1) := by decide +kernel
theorem dX14_item_79 : decode cX14_item 79 = .ok (.imul, 1) := by decide +kernel
theorem dX14_item_80 : decode cX14_item 80 = .ok (.iload_n 2, 1) := by decide +kernel
theorem dX14_item_81 : decode cX14_item 81 = .ok (.iadd, 1) := by decide +kernel
theorem dX14_item_82 : decode cX14_item 82 = .ok (.iload_n 3, 1) := by decide +kernel
theorem dX14_item_83 : decode cX14_item 83 = .ok (.iastore, 1) := by decide +kernel
theorem dX14_item_84 : decode cX14_item 84 = .ok (.iload 4, 2) := by decide +kernel
theorem dX14_item_86 : decode cX14_item 86 = .ok (.ireturn, 1) := by decide +kernel
theorem dX14_of_0 : decode cX14_of 0 = .ok (.iload_n 1, 1) := by decide +kernel
theorem dX14_of_1 : decode cX14_of 1 = .ok (.invokestatic 528, 3) := by decide +kernel
theorem dX14_of_4 : decode cX14_of 4 = .ok (.ifCond .eq 15, 3) := by decide +kernel
theorem dX14_of_7 : decode cX14_of 7 = .ok (.iload_n 2, 1) := by decide +kernel
theorem dX14_of_8 : decode cX14_of 8 = .ok (.i2l, 1) := by decide +kernel
theorem dX14_of_9 : decode cX14_of 9 = .ok (.lconst 0, 1) := by decide +kernel
theorem dX14_of_10 : decode cX14_of 10 = .ok (.ldc2_w 503, 3) := by decide +kernel
theorem dX14_of_13 : decode cX14_of 13 = .ok (.invokestatic 155, 3) := by decide +kernel
theorem dX14_of_16 : decode cX14_of 16 = .ok (.ifCond .ne 5, 3) := by decide +kernel
theorem dX14_of_19 : decode cX14_of 19 = .ok (.iconst (-1), 1) := by decide +kernel
theorem dX14_of_20 : decode cX14_of 20 = .ok (.ireturn, 1) := by decide +kernel
theorem dX14_of_21 : decode cX14_of 21 = .ok (.iload_n 2, 1) := by decide +kernel
theorem dX14_of_22 : decode cX14_of 22 = .ok (.ifCond .ne 10, 3) := by decide +kernel
theorem dX14_of_25 : decode cX14_of 25 = .ok (.aload_n 0, 1) := by decide +kernel
theorem dX14_of_26 : decode cX14_of 26 = .ok (.getfield 11, 3) := by decide +kernel
theorem dX14_of_29 : decode cX14_of 29 = .ok (.iload_n 1, 1) := by decide +kernel
theorem dX14_of_30 : decode cX14_of 30 = .ok (.iaload, 1) := by decide +kernel
theorem dX14_of_31 : decode cX14_of 31 = .ok (.ireturn, 1) := by decide +kernel
theorem dX14_of_32 : decode cX14_of 32 = .ok (.iload_n 2, 1) := by decide +kernel
theorem dX14_of_33 : decode cX14_of 33 = .ok (.iconst 3, 1) := by decide +kernel
theorem dX14_of_34 : decode cX14_of 34 = .ok (.if_icmp .ne 17, 3) := by decide +kernel
theorem dX14_of_37 : decode cX14_of 37 = .ok (.aload_n 0, 1) := by decide +kernel
theorem dX14_of_38 : decode cX14_of 38 = .ok (.iload_n 1, 1) := by decide +kernel
theorem dX14_of_39 : decode cX14_of 39 = .ok (.invokevirtual 365, 3) := by decide +kernel
theorem dX14_of_42 : decode cX14_of 42 = .ok (.ifCond .eq 7, 3) := by decide +kernel
theorem dX14_of_45 : decode cX14_of 45 = .ok (.iconst 1, 1) := by decide +kernel
theorem dX14_of_46 : decode cX14_of 46 = .ok (.goto 4, 3) := by decide +kernel
theorem dX14_of_49 : decode cX14_of 49 = .ok (.iconst 0, 1) := by decide +kernel
theorem dX14_of_50 : decode cX14_of 50 = .ok (.ireturn, 1) := by decide +kernel
theorem dX14_of_51 : decode cX14_of 51 = .ok (.iload_n 2, 1) := by decide +kernel
theorem dX14_of_52 : decode cX14_of 52 = .ok (.iconst 1, 1) := by decide +kernel
theorem dX14_of_53 : decode cX14_of 53 = .ok (.if_icmp .ne 13, 3) := by decide +kernel
theorem dX14_of_56 : decode cX14_of 56 = .ok (.aload_n 0, 1) := by decide +kernel
theorem dX14_of_57 : decode cX14_of 57 = .ok (.iload_n 1, 1) := by decide +kernel
theorem dX14_of_58 : decode cX14_of 58 = .ok (.invokevirtual 491, 3) := by decide +kernel
theorem dX14_of_61 : decode cX14_of 61 = .ok (.aload_n 0, 1) := by decide +kernel
theorem dX14_of_62 : decode cX14_of 62 = .ok (.getfield 140, 3) := by decide +kernel
theorem dX14_of_65 : decode cX14_of 65 = .ok (.ireturn, 1) := by decide +kernel
theorem dX14_of_66 : decode cX14_of 66 = .ok (.aload_n 0, 1) := by decide +kernel
theorem dX14_of_67 : decode cX14_of 67 = .ok (.getfield 11, 3) := by decide +kernel
theorem dX14_of_70 : decode cX14_of 70 = .ok (.iload_n 1, 1) := by decide +kernel
theorem dX14_of_71 : decode cX14_of 71 = .ok (.iaload, 1) := by decide +kernel
theorem dX14_of_72 : decode cX14_of 72 = .ok (.ifCond .ne 7, 3) := by decide +kernel
theorem dX14_of_75 : decode cX14_of 75 = .ok (.iconst 0, 1) := by decide +kernel
theorem dX14_of_76 : decode cX14_of 76 = .ok (.goto 50, 3) := by decide +kernel
theorem dX14_of_79 : decode cX14_of 79 = .ok (.aload_n 0, 1) := by decide +kernel
theorem dX14_of_80 : decode cX14_of 80 = .ok (.getfield 11, 3) := by decide +kernel
theorem dX14_of_83 : decode cX14_of 83 = .ok (.iload_n 1, 1) := by decide +kernel
theorem dX14_of_84 : decode cX14_of 84 = .ok (.iaload, 1) := by decide +kernel
theorem dX14_of_85 : decode cX14_of 85 = .ok (.iconst 1, 1) := by decide +kernel
theorem dX14_of_86 : decode cX14_of 86 = .ok (.if_icmp .ne 12, 3) := by decide +kernel
theorem dX14_of_89 : decode cX14_of 89 = .ok (.aload_n 0, 1) := by decide +kernel
theorem dX14_of_90 : decode cX14_of 90 = .ok (.getfield 15, 3) := by decide +kernel
theorem dX14_of_93 : decode cX14_of 93 = .ok (.iload_n 1, 1) := by decide +kernel
theorem dX14_of_94 : decode cX14_of 94 = .ok (.iaload, 1) := by decide +kernel
theorem dX14_of_95 : decode cX14_of 95 = .ok (.goto 31, 3) := by decide +kernel
theorem dX14_of_98 : decode cX14_of 98 = .ok (.aload_n 0, 1) := by decide +kernel
theorem dX14_of_99 : decode cX14_of 99 = .ok (.getfield 11, 3) := by decide +kernel
theorem dX14_of_102 : decode cX14_of 102 = .ok (.iload_n 1, 1) := by decide +kernel
theorem dX14_of_103 : decode cX14_of 103 = .ok (.iaload, 1) := by decide +kernel
theorem dX14_of_104 : decode cX14_of 104 = .ok (.iconst 2, 1) := by decide +kernel
theorem dX14_of_105 : decode cX14_of 105 = .ok (.if_icmp .ne 15, 3) := by decide +kernel
theorem dX14_of_108 : decode cX14_of 108 = .ok (.aload_n 0, 1) := by decide +kernel
theorem dX14_of_109 : decode cX14_of 109 = .ok (.getfield 24, 3) := by decide +kernel
theorem dX14_of_112 : decode cX14_of 112 = .ok (.iload_n 1, 1) := by decide +kernel
theorem dX14_of_113 : decode cX14_of 113 = .ok (.faload, 1) := by decide +kernel
theorem dX14_of_114 : decode cX14_of 114 = .ok (.invokestatic 202, 3) := by decide +kernel
theorem dX14_of_117 : decode cX14_of 117 = .ok (.goto 9, 3) := by decide +kernel
theorem dX14_of_120 : decode cX14_of 120 = .ok (.aload_n 0, 1) := by decide +kernel
theorem dX14_of_121 : decode cX14_of 121 = .ok (.getfield 18, 3) := by decide +kernel
theorem dX14_of_124 : decode cX14_of 124 = .ok (.iload_n 1, 1) := by decide +kernel
theorem dX14_of_125 : decode cX14_of 125 = .ok (.iaload, 1) := by decide +kernel
theorem dX14_of_126 : decode cX14_of 126 = .ok (.ireturn, 1) := by decide +kernel
theorem dX14_shown_0 : decode cX14_shown 0 = .ok (.iload_n 1, 1) := by decide +kernel
theorem dX14_shown_1 : decode cX14_shown 1 = .ok (.invokestatic 528, 3) := by decide +kernel
theorem dX14_shown_4 : decode cX14_shown 4 = .ok (.ifCond .ne 5, 3) := by decide +kernel
theorem dX14_shown_7 : decode cX14_shown 7 = .ok (.iconst (-1), 1) := by decide +kernel
theorem dX14_shown_8 : decode cX14_shown 8 = .ok (.ireturn, 1) := by decide +kernel
theorem dX14_shown_9 : decode cX14_shown 9 = .ok (.aload_n 0, 1) := by decide +kernel
theorem dX14_shown_10 : decode cX14_shown 10 = .ok (.iload_n 1, 1) := by decide +kernel
theorem dX14_shown_11 : decode cX14_shown 11 = .ok (.invokevirtual 491, 3) := by decide +kernel
theorem dX14_shown_14 : decode cX14_shown 14 = .ok (.iload_n 2, 1) := by decide +kernel
theorem dX14_shown_15 : decode cX14_shown 15 = .ok (.i2l, 1) := by decide +kernel
theorem dX14_shown_16 : decode cX14_shown 16 = .ok (.lconst 0, 1) := by decide +kernel
theorem dX14_shown_17 : decode cX14_shown 17 = .ok (.aload_n 0, 1) := by decide +kernel
theorem dX14_shown_18 : decode cX14_shown 18 = .ok (.getfield 140, 3) := by decide +kernel
theorem dX14_shown_21 : decode cX14_shown 21 = .ok (.iconst 1, 1) := by decide +kernel
theorem dX14_shown_22 : decode cX14_shown 22 = .ok (.isub, 1) := by decide +kernel
theorem dX14_shown_23 : decode cX14_shown 23 = .ok (.i2l, 1) := by decide +kernel
theorem dX14_shown_24 : decode cX14_shown 24 = .ok (.invokestatic 155, 3) := by decide +kernel
theorem dX14_shown_27 : decode cX14_shown 27 = .ok (.ifCond .eq 12, 3) := by decide +kernel
theorem dX14_shown_30 : decode cX14_shown 30 = .ok (.aload_n 0, 1) := by decide +kernel
theorem dX14_shown_31 : decode cX14_shown 31 = .ok (.getfield 28, 3) := by decide +kernel
theorem dX14_shown_34 : decode cX14_shown 34 = .ok (.iload_n 2, 1) := by decide +kernel
theorem dX14_shown_35 : decode cX14_shown 35 = .ok (.iaload, 1) := by decide +kernel
theorem dX14_shown_36 : decode cX14_shown 36 = .ok (.goto 4, 3) := by decide +kernel
theorem dX14_shown_39 : decode cX14_shown 39 = .ok (.iconst (-1), 1) := by decide +kernel
theorem dX14_shown_40 : decode cX14_shown 40 = .ok (.ireturn, 1) := by decide +kernel
theorem dX14_areFiltersRead_0 : decode cX14_areFiltersRead 0 = .ok (.aload_n 0, 1) := by decide +kernel
theorem dX14_areFiltersRead_1 : decode cX14_areFiltersRead 1 = .ok (.invokevirtual 288, 3) := by decide +kernel
theorem dX14_areFiltersRead_4 : decode cX14_areFiltersRead 4 = .ok (.ifCond .ne 5, 3) := by decide +kernel
theorem dX14_areFiltersRead_7 : decode cX14_areFiltersRead 7 = .ok (.iconst 0, 1) := by decide +kernel
theorem dX14_areFiltersRead_8 : decode cX14_areFiltersRead 8 = .ok (.ireturn, 1) := by decide +kernel
theorem dX14_areFiltersRead_9 : decode cX14_areFiltersRead 9 = .ok (.aload_n 0, 1) := by decide +kernel
theorem dX14_areFiltersRead_10 : decode cX14_areFiltersRead 10 = .ok (.invokevirtual 247, 3) := by decide +kernel
theorem dX14_areFiltersRead_13 : decode cX14_areFiltersRead 13 = .ok (.bipush 124, 2) := by decide +kernel
theorem dX14_areFiltersRead_15 : decode cX14_areFiltersRead 15 = .ok (.if_icmp .ne 22, 3) := by decide +kernel
theorem dX14_areFiltersRead_18 : decode cX14_areFiltersRead 18 = .ok (.aload_n 0, 1) := by decide +kernel
theorem dX14_areFiltersRead_19 : decode cX14_areFiltersRead 19 = .ok (.dup, 1) := by decide +kernel
theorem dX14_areFiltersRead_20 : decode cX14_areFiltersRead 20 = .ok (.getfield 238, 3) := by decide +kernel
theorem dX14_areFiltersRead_23 : decode cX14_areFiltersRead 23 = .ok (.iconst 1, 1) := by decide +kernel
theorem dX14_areFiltersRead_24 : decode cX14_areFiltersRead 24 = .ok (.iadd, 1) := by decide +kernel
theorem dX14_areFiltersRead_25 : decode cX14_areFiltersRead 25 = .ok (.putfield 238, 3) := by decide +kernel
theorem dX14_areFiltersRead_28 : decode cX14_areFiltersRead 28 = .ok (.aload_n 0, 1) := by decide +kernel
theorem dX14_areFiltersRead_29 : decode cX14_areFiltersRead 29 = .ok (.invokevirtual 288, 3) := by decide +kernel
theorem dX14_areFiltersRead_32 : decode cX14_areFiltersRead 32 = .ok (.ifCond .ne (-23), 3) := by decide +kernel
theorem dX14_areFiltersRead_35 : decode cX14_areFiltersRead 35 = .ok (.iconst 0, 1) := by decide +kernel
theorem dX14_areFiltersRead_36 : decode cX14_areFiltersRead 36 = .ok (.ireturn, 1) := by decide +kernel
theorem dX14_areFiltersRead_37 : decode cX14_areFiltersRead 37 = .ok (.aload_n 0, 1) := by decide +kernel
theorem dX14_areFiltersRead_38 : decode cX14_areFiltersRead 38 = .ok (.getfield 238, 3) := by decide +kernel
theorem dX14_areFiltersRead_41 : decode cX14_areFiltersRead 41 = .ok (.aload_n 0, 1) := by decide +kernel
theorem dX14_areFiltersRead_42 : decode cX14_areFiltersRead 42 = .ok (.getfield 235, 3) := by decide +kernel
theorem dX14_areFiltersRead_45 : decode cX14_areFiltersRead 45 = .ok (.if_icmp .eq 14, 3) := by decide +kernel
theorem dX14_areFiltersRead_48 : decode cX14_areFiltersRead 48 = .ok (.aload_n 0, 1) := by decide +kernel
theorem dX14_areFiltersRead_49 : decode cX14_areFiltersRead 49 = .ok (.aload_n 0, 1) := by decide +kernel
theorem dX14_areFiltersRead_50 : decode cX14_areFiltersRead 50 = .ok (.getfield 238, 3) := by decide +kernel
theorem dX14_areFiltersRead_53 : decode cX14_areFiltersRead 53 = .ok (.invokevirtual 251, 3) := by decide +kernel
theorem dX14_areFiltersRead_56 : decode cX14_areFiltersRead 56 = .ok (.ifCond .eq 7, 3) := by decide +kernel
theorem dX14_areFiltersRead_59 : decode cX14_areFiltersRead 59 = .ok (.iconst 1, 1) := by decide +kernel
theorem dX14_areFiltersRead_60 : decode cX14_areFiltersRead 60 = .ok (.goto 4, 3) := by decide +kernel
theorem dX14_areFiltersRead_63 : decode cX14_areFiltersRead 63 = .ok (.iconst 0, 1) := by decide +kernel
theorem dX14_areFiltersRead_64 : decode cX14_areFiltersRead 64 = .ok (.ireturn, 1) := by decide +kernel
theorem dX14_filtersOne_0 : decode cX14_filtersOne 0 = .ok (.iconst 0, 1) := by decide +kernel
theorem dX14_filtersOne_1 : decode cX14_filtersOne 1 = .ok (.istore_n 1, 1) := by decide +kernel
theorem dX14_filtersOne_2 : decode cX14_filtersOne 2 = .ok (.aload_n 0, 1) := by decide +kernel
theorem dX14_filtersOne_3 : decode cX14_filtersOne 3 = .ok (.iconst 0, 1) := by decide +kernel
theorem dX14_filtersOne_4 : decode cX14_filtersOne 4 = .ok (.putfield 238, 3) := by decide +kernel
theorem dX14_filtersOne_7 : decode cX14_filtersOne 7 = .ok (.iload_n 1, 1) := by decide +kernel
theorem dX14_filtersOne_8 : decode cX14_filtersOne 8 = .ok (.ifCond .ne 119, 3) := by decide +kernel
theorem dX14_filtersOne_11 : decode cX14_filtersOne 11 = .ok (.aload_n 0, 1) := by decide +kernel
theorem dX14_filtersOne_12 : decode cX14_filtersOne 12 = .ok (.getfield 238, 3) := by decide +kernel
theorem dX14_filtersOne_15 : decode cX14_filtersOne 15 = .ok (.aload_n 0, 1) := by decide +kernel
theorem dX14_filtersOne_16 : decode cX14_filtersOne 16 = .ok (.getfield 235, 3) := by decide +kernel
theorem dX14_filtersOne_19 : decode cX14_filtersOne 19 = .ok (.if_icmp .ge 108, 3) := by decide +kernel
theorem dX14_filtersOne_22 : decode cX14_filtersOne 22 = .ok (.aload_n 0, 1) := by decide +kernel
theorem dX14_filtersOne_23 : decode cX14_filtersOne 23 = .ok (.dup, 1) := by decide +kernel
theorem dX14_filtersOne_24 : decode cX14_filtersOne 24 = .ok (.getfield 238, 3) := by decide +kernel
theorem dX14_filtersOne_27 : decode cX14_filtersOne 27 = .ok (.aload_n 0, 1) := by decide +kernel
theorem dX14_filtersOne_28 : decode cX14_filtersOne 28 = .ok (.invokevirtual 247, 3) := by decide +kernel
theorem dX14_filtersOne_31 : decode cX14_filtersOne 31 = .ok (.bipush 124, 2) := by decide +kernel
theorem dX14_filtersOne_33 : decode cX14_filtersOne 33 = .ok (.if_icmp .ne 7, 3) := by decide +kernel
theorem dX14_filtersOne_36 : decode cX14_filtersOne 36 = .ok (.iconst 1, 1) := by decide +kernel
theorem dX14_filtersOne_37 : decode cX14_filtersOne 37 = .ok (.goto 4, 3) := by decide +kernel
theorem dX14_filtersOne_40 : decode cX14_filtersOne 40 = .ok (.iconst 0, 1) := by decide +kernel
theorem dX14_filtersOne_41 : decode cX14_filtersOne 41 = .ok (.iadd, 1) := by decide +kernel
theorem dX14_filtersOne_42 : decode cX14_filtersOne 42 = .ok (.putfield 238, 3) := by decide +kernel
theorem dX14_filtersOne_45 : decode cX14_filtersOne 45 = .ok (.aload_n 0, 1) := by decide +kernel
theorem dX14_filtersOne_46 : decode cX14_filtersOne 46 = .ok (.invokevirtual 273, 3) := by decide +kernel
theorem dX14_filtersOne_49 : decode cX14_filtersOne 49 = .ok (.istore_n 2, 1) := by decide +kernel
theorem dX14_filtersOne_50 : decode cX14_filtersOne 50 = .ok (.iconst 0, 1) := by decide +kernel
theorem dX14_filtersOne_51 : decode cX14_filtersOne 51 = .ok (.istore_n 3, 1) := by decide +kernel
theorem dX14_filtersOne_52 : decode cX14_filtersOne 52 = .ok (.aload_n 0, 1) := by decide +kernel
theorem dX14_filtersOne_53 : decode cX14_filtersOne 53 = .ok (.dup, 1) := by decide +kernel
theorem dX14_filtersOne_54 : decode cX14_filtersOne 54 = .ok (.getfield 238, 3) := by decide +kernel
theorem dX14_filtersOne_57 : decode cX14_filtersOne 57 = .ok (.iload_n 2, 1) := by decide +kernel
theorem dX14_filtersOne_58 : decode cX14_filtersOne 58 = .ok (.bipush 13, 2) := by decide +kernel
theorem dX14_filtersOne_60 : decode cX14_filtersOne 60 = .ok (.if_icmp .lt 7, 3) := by decide +kernel
theorem dX14_filtersOne_63 : decode cX14_filtersOne 63 = .ok (.iconst 1, 1) := by decide +kernel
theorem dX14_filtersOne_64 : decode cX14_filtersOne 64 = .ok (.goto 4, 3) := by decide +kernel
theorem dX14_filtersOne_67 : decode cX14_filtersOne 67 = .ok (.iconst 0, 1) := by decide +kernel
theorem dX14_filtersOne_68 : decode cX14_filtersOne 68 = .ok (.iadd, 1) := by decide +kernel
theorem dX14_filtersOne_69 : decode cX14_filtersOne 69 = .ok (.putfield 238, 3) := by decide +kernel
theorem dX14_filtersOne_72 : decode cX14_filtersOne 72 = .ok (.aload_n 0, 1) := by decide +kernel
theorem dX14_filtersOne_73 : decode cX14_filtersOne 73 = .ok (.invokevirtual 247, 3) := by decide +kernel
theorem dX14_filtersOne_76 : decode cX14_filtersOne 76 = .ok (.i2l, 1) := by decide +kernel
theorem dX14_filtersOne_77 : decode cX14_filtersOne 77 = .ok (.ldc2_w 159, 3) := by decide +kernel
theorem dX14_filtersOne_80 : decode cX14_filtersOne 80 = .ok (.ldc2_w 161, 3) := by decide +kernel
theorem dX14_filtersOne_83 : decode cX14_filtersOne 83 = .ok (.invokestatic 155, 3) := by decide +kernel
theorem dX14_filtersOne_86 : decode cX14_filtersOne 86 = .ok (.ifCond .eq 29, 3) := by decide +kernel
theorem dX14_filtersOne_89 : decode cX14_filtersOne 89 = .ok (.bipush 10, 2) := by decide +kernel
theorem dX14_filtersOne_91 : decode cX14_filtersOne 91 = .ok (.iload_n 3, 1) := by decide +kernel
theorem dX14_filtersOne_92 : decode cX14_filtersOne 92 = .ok (.imul, 1) := by decide +kernel
theorem dX14_filtersOne_93 : decode cX14_filtersOne 93 = .ok (.aload_n 0, 1) := by decide +kernel
theorem dX14_filtersOne_94 : decode cX14_filtersOne 94 = .ok (.invokevirtual 247, 3) := by decide +kernel
theorem dX14_filtersOne_97 : decode cX14_filtersOne 97 = .ok (.iadd, 1) := by decide +kernel
theorem dX14_filtersOne_98 : decode cX14_filtersOne 98 = .ok (.bipush 48, 2) := by decide +kernel
theorem dX14_filtersOne_100 : decode cX14_filtersOne 100 = .ok (.isub, 1) := by decide +kernel
theorem dX14_filtersOne_101 : decode cX14_filtersOne 101 = .ok (.istore_n 3, 1) := by decide +kernel
theorem dX14_filtersOne_102 : decode cX14_filtersOne 102 = .ok (.aload_n 0, 1) := by decide +kernel
theorem dX14_filtersOne_103 : decode cX14_filtersOne 103 = .ok (.dup, 1) := by decide +kernel
theorem dX14_filtersOne_104 : decode cX14_filtersOne 104 = .ok (.getfield 238, 3) := by decide +kernel
theorem dX14_filtersOne_107 : decode cX14_filtersOne 107 = .ok (.iconst 1, 1) := by decide +kernel
theorem dX14_filtersOne_108 : decode cX14_filtersOne 108 = .ok (.iadd, 1) := by decide +kernel
theorem dX14_filtersOne_109 : decode cX14_filtersOne 109 = .ok (.putfield 238, 3) := by decide +kernel
theorem dX14_filtersOne_112 : decode cX14_filtersOne 112 = .ok (.goto (-40), 3) := by decide +kernel
theorem dX14_filtersOne_115 : decode cX14_filtersOne 115 = .ok (.aload_n 0, 1) := by decide +kernel
theorem dX14_filtersOne_116 : decode cX14_filtersOne 116 = .ok (.bipush 8, 2) := by decide +kernel
theorem dX14_filtersOne_118 : decode cX14_filtersOne 118 = .ok (.iload_n 2, 1) := by decide +kernel
theorem dX14_filtersOne_119 : decode cX14_filtersOne 119 = .ok (.iload_n 3, 1) := by decide +kernel
theorem dX14_filtersOne_120 : decode cX14_filtersOne 120 = .ok (.invokevirtual 359, 3) := by decide +kernel
theorem dX14_filtersOne_123 : decode cX14_filtersOne 123 = .ok (.istore_n 1, 1) := by decide +kernel
theorem dX14_filtersOne_124 : decode cX14_filtersOne 124 = .ok (.goto (-117), 3) := by decide +kernel
theorem dX14_filtersOne_127 : decode cX14_filtersOne 127 = .ok (.iload_n 1, 1) := by decide +kernel
theorem dX14_filtersOne_128 : decode cX14_filtersOne 128 = .ok (.ireturn, 1) := by decide +kernel
theorem dX14_filter_0 : decode cX14_filter 0 = .ok (.iload_n 1, 1) := by decide +kernel
theorem dX14_filter_1 : decode cX14_filter 1 = .ok (.invokestatic 528, 3) := by decide +kernel
theorem dX14_filter_4 : decode cX14_filter 4 = .ok (.ifCond .ne 5, 3) := by decide +kernel
theorem dX14_filter_7 : decode cX14_filter 7 = .ok (.iconst (-1), 1) := by decide +kernel
theorem dX14_filter_8 : decode cX14_filter 8 = .ok (.ireturn, 1) := by decide +kernel
theorem dX14_filter_9 : decode cX14_filter 9 = .ok (.aload_n 0, 1) := by decide +kernel
theorem dX14_filter_10 : decode cX14_filter 10 = .ok (.aload_n 0, 1) := by decide +kernel
theorem dX14_filter_11 : decode cX14_filter 11 = .ok (.getfield 31, 3) := by decide +kernel
theorem dX14_filter_14 : decode cX14_filter 14 = .ok (.iconst 0, 1) := by decide +kernel
theorem dX14_filter_15 : decode cX14_filter 15 = .ok (.aload_n 0, 1) := by decide +kernel
theorem dX14_filter_16 : decode cX14_filter 16 = .ok (.getfield 229, 3) := by decide +kernel
theorem dX14_filter_19 : decode cX14_filter 19 = .ok (.invokevirtual 317, 3) := by decide +kernel
theorem dX14_filter_22 : decode cX14_filter 22 = .ok (.aload_n 0, 1) := by decide +kernel
theorem dX14_filter_23 : decode cX14_filter 23 = .ok (.iconst 0, 1) := by decide +kernel
theorem dX14_filter_24 : decode cX14_filter 24 = .ok (.putfield 229, 3) := by decide +kernel
theorem dX14_filter_27 : decode cX14_filter 27 = .ok (.aload_n 0, 1) := by decide +kernel
theorem dX14_filter_28 : decode cX14_filter 28 = .ok (.invokevirtual 531, 3) := by decide +kernel
theorem dX14_filter_31 : decode cX14_filter 31 = .ok (.ifCond .ne 11, 3) := by decide +kernel
theorem dX14_filter_34 : decode cX14_filter 34 = .ok (.bipush (-100), 2) := by decide +kernel
theorem dX14_filter_36 : decode cX14_filter 36 = .ok (.aload_n 0, 1) := by decide +kernel
theorem dX14_filter_37 : decode cX14_filter 37 = .ok (.getfield 241, 3) := by decide +kernel
theorem dX14_filter_40 : decode cX14_filter 40 = .ok (.isub, 1) := by decide +kernel
theorem dX14_filter_41 : decode cX14_filter 41 = .ok (.ireturn, 1) := by decide +kernel
theorem dX14_filter_42 : decode cX14_filter 42 = .ok (.aload_n 0, 1) := by decide +kernel
theorem dX14_filter_43 : decode cX14_filter 43 = .ok (.iload_n 1, 1) := by decide +kernel
theorem dX14_filter_44 : decode cX14_filter 44 = .ok (.bipush 8, 2) := by decide +kernel
theorem dX14_filter_46 : decode cX14_filter 46 = .ok (.invokevirtual 347, 3) := by decide +kernel
theorem dX14_filter_49 : decode cX14_filter 49 = .ok (.aload_n 0, 1) := by decide +kernel
theorem dX14_filter_50 : decode cX14_filter 50 = .ok (.invokevirtual 534, 3) := by decide +kernel
theorem dX14_filter_53 : decode cX14_filter 53 = .ok (.istore_n 2, 1) := by decide +kernel
theorem dX14_filter_54 : decode cX14_filter 54 = .ok (.iload_n 2, 1) := by decide +kernel
theorem dX14_filter_55 : decode cX14_filter 55 = .ok (.ifCond .eq 18, 3) := by decide +kernel
theorem dX14_filter_58 : decode cX14_filter 58 = .ok (.aload_n 0, 1) := by decide +kernel
theorem dX14_filter_59 : decode cX14_filter 59 = .ok (.iconst 0, 1) := by decide +kernel
theorem dX14_filter_60 : decode cX14_filter 60 = .ok (.putfield 403, 3) := by decide +kernel
theorem dX14_filter_63 : decode cX14_filter 63 = .ok (.aload_n 0, 1) := by decide +kernel
theorem dX14_filter_64 : decode cX14_filter 64 = .ok (.iconst (-1), 1) := by decide +kernel
theorem dX14_filter_65 : decode cX14_filter 65 = .ok (.iconst 0, 1) := by decide +kernel
theorem dX14_filter_66 : decode cX14_filter 66 = .ok (.iload_n 2, 1) := by decide +kernel
theorem dX14_filter_67 : decode cX14_filter 67 = .ok (.invokevirtual 406, 3) := by decide +kernel
theorem dX14_filter_70 : decode cX14_filter 70 = .ok (.bipush (-20), 2) := by decide +kernel
theorem dX14_filter_72 : decode cX14_filter 72 = .ok (.ireturn, 1) := by decide +kernel
theorem dX14_filter_73 : decode cX14_filter 73 = .ok (.aload_n 0, 1) := by decide +kernel
theorem dX14_filter_74 : decode cX14_filter 74 = .ok (.bipush 8, 2) := by decide +kernel
theorem dX14_filter_76 : decode cX14_filter 76 = .ok (.iload_n 1, 1) := by decide +kernel
theorem dX14_filter_77 : decode cX14_filter 77 = .ok (.invokevirtual 347, 3) := by decide +kernel
theorem dX14_filter_80 : decode cX14_filter 80 = .ok (.aload_n 0, 1) := by decide +kernel
theorem dX14_filter_81 : decode cX14_filter 81 = .ok (.getfield 11, 3) := by decide +kernel
theorem dX14_filter_84 : decode cX14_filter 84 = .ok (.iload_n 1, 1) := by decide +kernel
theorem dX14_filter_85 : decode cX14_filter 85 = .ok (.iaload, 1) := by decide +kernel
theorem dX14_filter_86 : decode cX14_filter 86 = .ok (.ireturn, 1) := by decide +kernel
theorem dX14_isRow_0 : decode cX14_isRow 0 = .ok (.iload_n 0, 1) := by decide +kernel
theorem dX14_isRow_1 : decode cX14_isRow 1 = .ok (.i2l, 1) := by decide +kernel
theorem dX14_isRow_2 : decode cX14_isRow 2 = .ok (.lconst 0, 1) := by decide +kernel
theorem dX14_isRow_3 : decode cX14_isRow 3 = .ok (.ldc2_w 315, 3) := by decide +kernel
theorem dX14_isRow_6 : decode cX14_isRow 6 = .ok (.invokestatic 155, 3) := by decide +kernel
theorem dX14_isRow_9 : decode cX14_isRow 9 = .ok (.ireturn, 1) := by decide +kernel
theorem dX14_wrong_0 : decode cX14_wrong 0 = .ok (.iload_n 1, 1) := by decide +kernel
theorem dX14_wrong_1 : decode cX14_wrong 1 = .ok (.invokestatic 537, 3) := by decide +kernel
theorem dX14_wrong_4 : decode cX14_wrong 4 = .ok (.ifCond .ne 7, 3) := by decide +kernel
theorem dX14_wrong_7 : decode cX14_wrong 7 = .ok (.iconst (-1), 1) := by decide +kernel
theorem dX14_wrong_8 : decode cX14_wrong 8 = .ok (.goto 18, 3) := by decide +kernel
theorem dX14_wrong_11 : decode cX14_wrong 11 = .ok (.aload_n 0, 1) := by decide +kernel
theorem dX14_wrong_12 : decode cX14_wrong 12 = .ok (.getfield 98, 3) := by decide +kernel
theorem dX14_wrong_15 : decode cX14_wrong 15 = .ok (.iload_n 1, 1) := by decide +kernel
theorem dX14_wrong_16 : decode cX14_wrong 16 = .ok (.iaload, 1) := by decide +kernel
theorem dX14_wrong_17 : decode cX14_wrong 17 = .ok (.ifCond .ge 8, 3) := by decide +kernel
theorem dX14_wrong_20 : decode cX14_wrong 20 = .ok (.bipush (-11), 2) := by decide +kernel
theorem dX14_wrong_22 : decode cX14_wrong 22 = .ok (.goto 4, 3) := by decide +kernel
theorem dX14_wrong_25 : decode cX14_wrong 25 = .ok (.iconst 0, 1) := by decide +kernel
theorem dX14_wrong_26 : decode cX14_wrong 26 = .ok (.ireturn, 1) := by decide +kernel
theorem dX14_row_0 : decode cX14_row 0 = .ok (.iload_n 1, 1) := by decide +kernel
theorem dX14_row_1 : decode cX14_row 1 = .ok (.invokestatic 537, 3) := by decide +kernel
theorem dX14_row_4 : decode cX14_row 4 = .ok (.ifCond .eq 15, 3) := by decide +kernel
theorem dX14_row_7 : decode cX14_row 7 = .ok (.iload_n 2, 1) := by decide +kernel
theorem dX14_row_8 : decode cX14_row 8 = .ok (.i2l, 1) := by decide +kernel
theorem dX14_row_9 : decode cX14_row 9 = .ok (.lconst 0, 1) := by decide +kernel
theorem dX14_row_10 : decode cX14_row 10 = .ok (.ldc2_w 515, 3) := by decide +kernel
theorem dX14_row_13 : decode cX14_row 13 = .ok (.invokestatic 155, 3) := by decide +kernel
theorem dX14_row_16 : decode cX14_row 16 = .ok (.ifCond .ne 5, 3) := by decide +kernel
theorem dX14_row_19 : decode cX14_row 19 = .ok (.iconst (-1), 1) := by decide +kernel
theorem dX14_row_20 : decode cX14_row 20 = .ok (.ireturn, 1) := by decide +kernel
theorem dX14_row_21 : decode cX14_row 21 = .ok (.iload_n 3, 1) := by decide +kernel
theorem dX14_row_22 : decode cX14_row 22 = .ok (.bipush 60, 2) := by decide +kernel
theorem dX14_row_24 : decode cX14_row 24 = .ok (.if_icmp .le 6, 3) := by decide +kernel
theorem dX14_row_27 : decode cX14_row 27 = .ok (.bipush (-2), 2) := by decide +kernel
theorem dX14_row_29 : decode cX14_row 29 = .ok (.ireturn, 1) := by decide +kernel
theorem dX14_row_30 : decode cX14_row 30 = .ok (.iload_n 3, 1) := by decide +kernel
theorem dX14_row_31 : decode cX14_row 31 = .ok (.ifCond .ge 6, 3) := by decide +kernel
theorem dX14_row_34 : decode cX14_row 34 = .ok (.bipush (-14), 2) := by decide +kernel
theorem dX14_row_36 : decode cX14_row 36 = .ok (.ireturn, 1) := by decide +kernel
theorem dX14_row_37 : decode cX14_row 37 = .ok (.aload_n 0, 1) := by decide +kernel
theorem dX14_row_38 : decode cX14_row 38 = .ok (.getfield 98, 3) := by decide +kernel
theorem dX14_row_41 : decode cX14_row 41 = .ok (.iload_n 1, 1) := by decide +kernel
theorem dX14_row_42 : decode cX14_row 42 = .ok (.iload_n 2, 1) := by decide +kernel
theorem dX14_row_43 : decode cX14_row 43 = .ok (.iastore, 1) := by decide +kernel
theorem dX14_row_44 : decode cX14_row 44 = .ok (.aload_n 0, 1) := by decide +kernel
theorem dX14_row_45 : decode cX14_row 45 = .ok (.getfield 101, 3) := by decide +kernel
theorem dX14_row_48 : decode cX14_row 48 = .ok (.iload_n 1, 1) := by decide +kernel
theorem dX14_row_49 : decode cX14_row 49 = .ok (.iload_n 3, 1) := by decide +kernel
theorem dX14_row_50 : decode cX14_row 50 = .ok (.iastore, 1) := by decide +kernel
theorem dX14_row_51 : decode cX14_row 51 = .ok (.iconst 0, 1) := by decide +kernel
theorem dX14_row_52 : decode cX14_row 52 = .ok (.istore 4, 2) := by decide +kernel
theorem dX14_row_54 : decode cX14_row 54 = .ok (.iload 4, 2) := by decide +kernel
theorem dX14_row_56 : decode cX14_row 56 = .ok (.bipush 60, 2) := by decide +kernel
theorem dX14_row_58 : decode cX14_row 58 = .ok (.if_icmp .ge 35, 3) := by decide +kernel
theorem dX14_row_61 : decode cX14_row 61 = .ok (.aload_n 0, 1) := by decide +kernel
theorem dX14_row_62 : decode cX14_row 62 = .ok (.getfield 104, 3) := by decide +kernel
theorem dX14_row_65 : decode cX14_row 65 = .ok (.bipush 60, 2) := by decide +kernel
theorem dX14_row_67 : decode cX14_row 67 = .ok (.iload_n 1, 1) := by decide +kernel
theorem dX14_row_68 : decode cX14_row 68 = .ok (.imul, 1) := by decide +kernel
theorem dX14_row_69 : decode cX14_row 69 = .ok (.iload 4, 2) := by decide +kernel
theorem dX14_row_71 : decode cX14_row 71 = .ok (.iadd, 1) := by decide +kernel
theorem dX14_row_72 : decode cX14_row 72 = .ok (.iconst 0, 1) := by decide +kernel
theorem dX14_row_73 : decode cX14_row 73 = .ok (.iastore, 1) := by decide +kernel
theorem dX14_row_74 : decode cX14_row 74 = .ok (.aload_n 0, 1) := by decide +kernel
theorem dX14_row_75 : decode cX14_row 75 = .ok (.getfield 107, 3) := by decide +kernel
theorem dX14_row_78 : decode cX14_row 78 = .ok (.bipush 60, 2) := by decide +kernel
theorem dX14_row_80 : decode cX14_row 80 = .ok (.iload_n 1, 1) := by decide +kernel
theorem dX14_row_81 : decode cX14_row 81 = .ok (.imul, 1) := by decide +kernel
theorem dX14_row_82 : decode cX14_row 82 = .ok (.iload 4, 2) := by decide +kernel
theorem dX14_row_84 : decode cX14_row 84 = .ok (.iadd, 1) := by decide +kernel
theorem dX14_row_85 : decode cX14_row 85 = .ok (.fconst 0, 1) := by decide +kernel
theorem dX14_row_86 : decode cX14_row 86 = .ok (.fastore, 1) := by decide +kernel
theorem dX14_row_87 : decode cX14_row 87 = .ok (.iinc 4 1, 3) := by decide +kernel
theorem dX14_row_90 : decode cX14_row 90 = .ok (.goto (-36), 3) := by decide +kernel
theorem dX14_row_93 : decode cX14_row 93 = .ok (.iconst 1, 1) := by decide +kernel
theorem dX14_row_94 : decode cX14_row 94 = .ok (.ireturn, 1) := by decide +kernel
theorem dX14_holds_0 : decode cX14_holds 0 = .ok (.aload_n 0, 1) := by decide +kernel
theorem dX14_holds_1 : decode cX14_holds 1 = .ok (.getfield 104, 3) := by decide +kernel
theorem dX14_holds_4 : decode cX14_holds 4 = .ok (.bipush 60, 2) := by decide +kernel
theorem dX14_holds_6 : decode cX14_holds 6 = .ok (.iload_n 1, 1) := by decide +kernel
theorem dX14_holds_7 : decode cX14_holds 7 = .ok (.imul, 1) := by decide +kernel
theorem dX14_holds_8 : decode cX14_holds 8 = .ok (.iload_n 2, 1) := by decide +kernel
theorem dX14_holds_9 : decode cX14_holds 9 = .ok (.iadd, 1) := by decide +kernel
theorem dX14_holds_10 : decode cX14_holds 10 = .ok (.aload_n 0, 1) := by decide +kernel
theorem dX14_holds_11 : decode cX14_holds 11 = .ok (.getfield 98, 3) := by decide +kernel
theorem dX14_holds_14 : decode cX14_holds 14 = .ok (.iload_n 1, 1) := by decide +kernel
theorem dX14_holds_15 : decode cX14_holds 15 = .ok (.iaload, 1) := by decide +kernel
theorem dX14_holds_16 : decode cX14_holds 16 = .ok (.ifCond .ne 9, 3) := by decide +kernel
theorem dX14_holds_19 : decode cX14_holds 19 = .ok (.lload_n 3, 1) := by decide +kernel
theorem dX14_holds_20 : decode cX14_holds 20 = .ok (.l2i, 1) := by decide +kernel
theorem dX14_holds_21 : decode cX14_holds 21 = .ok (.i2b, 1) := by decide +kernel
theorem dX14_holds_22 : decode cX14_holds 22 = .ok (.goto 5, 3) := by decide +kernel
theorem dX14_holds_25 : decode cX14_holds 25 = .ok (.lload_n 3, 1) := by decide +kernel
theorem dX14_holds_26 : decode cX14_holds 26 = .ok (.l2i, 1) := by decide +kernel
theorem dX14_holds_27 : decode cX14_holds 27 = .ok (.iastore, 1) := by decide +kernel
theorem dX14_holds_28 : decode cX14_holds 28 = .ok (.aload_n 0, 1) := by decide +kernel
theorem dX14_holds_29 : decode cX14_holds 29 = .ok (.getfield 107, 3) := by decide +kernel
theorem dX14_holds_32 : decode cX14_holds 32 = .ok (.bipush 60, 2) := by decide +kernel
theorem dX14_holds_34 : decode cX14_holds 34 = .ok (.iload_n 1, 1) := by decide +kernel
theorem dX14_holds_35 : decode cX14_holds 35 = .ok (.imul, 1) := by decide +kernel
theorem dX14_holds_36 : decode cX14_holds 36 = .ok (.iload_n 2, 1) := by decide +kernel
theorem dX14_holds_37 : decode cX14_holds 37 = .ok (.iadd, 1) := by decide +kernel
theorem dX14_holds_38 : decode cX14_holds 38 = .ok (.lload_n 3, 1) := by decide +kernel
theorem dX14_holds_39 : decode cX14_holds 39 = .ok (.l2f, 1) := by decide +kernel
theorem dX14_holds_40 : decode cX14_holds 40 = .ok (.fastore, 1) := by decide +kernel
theorem dX14_holds_41 : decode cX14_holds 41 = .ok (.return_, 1) := by decide +kernel
theorem dX14_set_0 : decode cX14_set 0 = .ok (.aload_n 0, 1) := by decide +kernel
theorem dX14_set_1 : decode cX14_set 1 = .ok (.iload_n 1, 1) := by decide +kernel
theorem dX14_set_2 : decode cX14_set 2 = .ok (.invokevirtual 540, 3) := by decide +kernel
theorem dX14_set_5 : decode cX14_set 5 = .ok (.istore 5, 2) := by decide +kernel
theorem dX14_set_7 : decode cX14_set 7 = .ok (.iload 5, 2) := by decide +kernel
theorem dX14_set_9 : decode cX14_set 9 = .ok (.ifCond .eq 6, 3) := by decide +kernel
theorem dX14_set_12 : decode cX14_set 12 = .ok (.iload 5, 2) := by decide +kernel
theorem dX14_set_14 : decode cX14_set 14 = .ok (.ireturn, 1) := by decide +kernel
theorem dX14_set_15 : decode cX14_set 15 = .ok (.iload_n 2, 1) := by decide +kernel
theorem dX14_set_16 : decode cX14_set 16 = .ok (.i2l, 1) := by decide +kernel
theorem dX14_set_17 : decode cX14_set 17 = .ok (.lconst 0, 1) := by decide +kernel
theorem dX14_set_18 : decode cX14_set 18 = .ok (.aload_n 0, 1) := by decide +kernel
theorem dX14_set_19 : decode cX14_set 19 = .ok (.getfield 101, 3) := by decide +kernel
theorem dX14_set_22 : decode cX14_set 22 = .ok (.iload_n 1, 1) := by decide +kernel
theorem dX14_set_23 : decode cX14_set 23 = .ok (.iaload, 1) := by decide +kernel
theorem dX14_set_24 : decode cX14_set 24 = .ok (.iconst 1, 1) := by decide +kernel
theorem dX14_set_25 : decode cX14_set 25 = .ok (.isub, 1) := by decide +kernel
theorem dX14_set_26 : decode cX14_set 26 = .ok (.i2l, 1) := by decide +kernel
theorem dX14_set_27 : decode cX14_set 27 = .ok (.invokestatic 155, 3) := by decide +kernel
theorem dX14_set_30 : decode cX14_set 30 = .ok (.ifCond .ne 6, 3) := by decide +kernel
theorem dX14_set_33 : decode cX14_set 33 = .ok (.bipush (-13), 2) := by decide +kernel
theorem dX14_set_35 : decode cX14_set 35 = .ok (.ireturn, 1) := by decide +kernel
theorem dX14_set_36 : decode cX14_set 36 = .ok (.aload_n 0, 1) := by decide +kernel
theorem dX14_set_37 : decode cX14_set 37 = .ok (.iload_n 1, 1) := by decide +kernel
theorem dX14_set_38 : decode cX14_set 38 = .ok (.iload_n 2, 1) := by decide +kernel
theorem dX14_set_39 : decode cX14_set 39 = .ok (.lload_n 3, 1) := by decide +kernel
theorem dX14_set_40 : decode cX14_set 40 = .ok (.invokevirtual 543, 3) := by decide +kernel
theorem dX14_set_43 : decode cX14_set 43 = .ok (.iconst 1, 1) := by decide +kernel
theorem dX14_set_44 : decode cX14_set 44 = .ok (.ireturn, 1) := by decide +kernel
theorem dX14_get_0 : decode cX14_get 0 = .ok (.aload_n 0, 1) := by decide +kernel
theorem dX14_get_1 : decode cX14_get 1 = .ok (.iload_n 1, 1) := by decide +kernel
theorem dX14_get_2 : decode cX14_get 2 = .ok (.invokevirtual 540, 3) := by decide +kernel
theorem dX14_get_5 : decode cX14_get 5 = .ok (.ifCond .ne 21, 3) := by decide +kernel
theorem dX14_get_8 : decode cX14_get 8 = .ok (.iload_n 2, 1) := by decide +kernel
theorem dX14_get_9 : decode cX14_get 9 = .ok (.i2l, 1) := by decide +kernel
theorem dX14_get_10 : decode cX14_get 10 = .ok (.lconst 0, 1) := by decide +kernel
theorem dX14_get_11 : decode cX14_get 11 = .ok (.aload_n 0, 1) := by decide +kernel
theorem dX14_get_12 : decode cX14_get 12 = .ok (.getfield 101, 3) := by decide +kernel
theorem dX14_get_15 : decode cX14_get 15 = .ok (.iload_n 1, 1) := by decide +kernel
theorem dX14_get_16 : decode cX14_get 16 = .ok (.iaload, 1) := by decide +kernel
theorem dX14_get_17 : decode cX14_get 17 = .ok (.iconst 1, 1) := by decide +kernel
theorem dX14_get_18 : decode cX14_get 18 = .ok (.isub, 1) := by decide +kernel
theorem dX14_get_19 : decode cX14_get 19 = .ok (.i2l, 1) := by decide +kernel
theorem dX14_get_20 : decode cX14_get 20 = .ok (.invokestatic 155, 3) := by decide +kernel
theorem dX14_get_23 : decode cX14_get 23 = .ok (.ifCond .ne 7, 3) := by decide +kernel
theorem dX14_get_26 : decode cX14_get 26 = .ok (.ldc2_w 546, 3) := by decide +kernel
theorem dX14_get_29 : decode cX14_get 29 = .ok (.lreturn, 1) := by decide +kernel
theorem dX14_get_30 : decode cX14_get 30 = .ok (.aload_n 0, 1) := by decide +kernel
theorem dX14_get_31 : decode cX14_get 31 = .ok (.getfield 98, 3) := by decide +kernel
theorem dX14_get_34 : decode cX14_get 34 = .ok (.iload_n 1, 1) := by decide +kernel
theorem dX14_get_35 : decode cX14_get 35 = .ok (.iaload, 1) := by decide +kernel
theorem dX14_get_36 : decode cX14_get 36 = .ok (.iconst 2, 1) := by decide +kernel
theorem dX14_get_37 : decode cX14_get 37 = .ok (.if_icmp .ne 21, 3) := by decide +kernel
theorem dX14_get_40 : decode cX14_get 40 = .ok (.aload_n 0, 1) := by decide +kernel
theorem dX14_get_41 : decode cX14_get 41 = .ok (.getfield 107, 3) := by decide +kernel
theorem dX14_get_44 : decode cX14_get 44 = .ok (.bipush 60, 2) := by decide +kernel
theorem dX14_get_46 : decode cX14_get 46 = .ok (.iload_n 1, 1) := by decide +kernel
theorem dX14_get_47 : decode cX14_get 47 = .ok (.imul, 1) := by decide +kernel
theorem dX14_get_48 : decode cX14_get 48 = .ok (.iload_n 2, 1) := by decide +kernel
theorem dX14_get_49 : decode cX14_get 49 = .ok (.iadd, 1) := by decide +kernel
theorem dX14_get_50 : decode cX14_get 50 = .ok (.faload, 1) := by decide +kernel
theorem dX14_get_51 : decode cX14_get 51 = .ok (.invokestatic 202, 3) := by decide +kernel
theorem dX14_get_54 : decode cX14_get 54 = .ok (.i2l, 1) := by decide +kernel
theorem dX14_get_55 : decode cX14_get 55 = .ok (.goto 15, 3) := by decide +kernel
theorem dX14_get_58 : decode cX14_get 58 = .ok (.aload_n 0, 1) := by decide +kernel
theorem dX14_get_59 : decode cX14_get 59 = .ok (.getfield 104, 3) := by decide +kernel
theorem dX14_get_62 : decode cX14_get 62 = .ok (.bipush 60, 2) := by decide +kernel
theorem dX14_get_64 : decode cX14_get 64 = .ok (.iload_n 1, 1) := by decide +kernel
theorem dX14_get_65 : decode cX14_get 65 = .ok (.imul, 1) := by decide +kernel
theorem dX14_get_66 : decode cX14_get 66 = .ok (.iload_n 2, 1) := by decide +kernel
theorem dX14_get_67 : decode cX14_get 67 = .ok (.iadd, 1) := by decide +kernel
theorem dX14_get_68 : decode cX14_get 68 = .ok (.iaload, 1) := by decide +kernel
theorem dX14_get_69 : decode cX14_get 69 = .ok (.i2l, 1) := by decide +kernel
theorem dX14_get_70 : decode cX14_get 70 = .ok (.lreturn, 1) := by decide +kernel
theorem dX14_copiesItem_0 : decode cX14_copiesItem 0 = .ok (.aload_n 0, 1) := by decide +kernel
theorem dX14_copiesItem_1 : decode cX14_copiesItem 1 = .ok (.getfield 104, 3) := by decide +kernel
theorem dX14_copiesItem_4 : decode cX14_copiesItem 4 = .ok (.bipush 60, 2) := by decide +kernel
theorem dX14_copiesItem_6 : decode cX14_copiesItem 6 = .ok (.iload_n 3, 1) := by decide +kernel
theorem dX14_copiesItem_7 : decode cX14_copiesItem 7 = .ok (.imul, 1) := by decide +kernel
theorem dX14_copiesItem_8 : decode cX14_copiesItem 8 = .ok (.iload 4, 2) := by decide +kernel
theorem dX14_copiesItem_10 : decode cX14_copiesItem 10 = .ok (.iadd, 1) := by decide +kernel
theorem dX14_copiesItem_11 : decode cX14_copiesItem 11 = .ok (.aload_n 0, 1) := by decide +kernel
theorem dX14_copiesItem_12 : decode cX14_copiesItem 12 = .ok (.getfield 104, 3) := by decide +kernel
theorem dX14_copiesItem_15 : decode cX14_copiesItem 15 = .ok (.bipush 60, 2) := by decide +kernel
theorem dX14_copiesItem_17 : decode cX14_copiesItem 17 = .ok (.iload_n 1, 1) := by decide +kernel
theorem dX14_copiesItem_18 : decode cX14_copiesItem 18 = .ok (.imul, 1) := by decide +kernel
theorem dX14_copiesItem_19 : decode cX14_copiesItem 19 = .ok (.iload_n 2, 1) := by decide +kernel
theorem dX14_copiesItem_20 : decode cX14_copiesItem 20 = .ok (.iadd, 1) := by decide +kernel
theorem dX14_copiesItem_21 : decode cX14_copiesItem 21 = .ok (.iaload, 1) := by decide +kernel
theorem dX14_copiesItem_22 : decode cX14_copiesItem 22 = .ok (.iastore, 1) := by decide +kernel
theorem dX14_copiesItem_23 : decode cX14_copiesItem 23 = .ok (.aload_n 0, 1) := by decide +kernel
theorem dX14_copiesItem_24 : decode cX14_copiesItem 24 = .ok (.getfield 107, 3) := by decide +kernel
theorem dX14_copiesItem_27 : decode cX14_copiesItem 27 = .ok (.bipush 60, 2) := by decide +kernel
theorem dX14_copiesItem_29 : decode cX14_copiesItem 29 = .ok (.iload_n 3, 1) := by decide +kernel
theorem dX14_copiesItem_30 : decode cX14_copiesItem 30 = .ok (.imul, 1) := by decide +kernel
theorem dX14_copiesItem_31 : decode cX14_copiesItem 31 = .ok (.iload 4, 2) := by decide +kernel
theorem dX14_copiesItem_33 : decode cX14_copiesItem 33 = .ok (.iadd, 1) := by decide +kernel
theorem dX14_copiesItem_34 : decode cX14_copiesItem 34 = .ok (.aload_n 0, 1) := by decide +kernel
theorem dX14_copiesItem_35 : decode cX14_copiesItem 35 = .ok (.getfield 107, 3) := by decide +kernel
theorem dX14_copiesItem_38 : decode cX14_copiesItem 38 = .ok (.bipush 60, 2) := by decide +kernel
theorem dX14_copiesItem_40 : decode cX14_copiesItem 40 = .ok (.iload_n 1, 1) := by decide +kernel
theorem dX14_copiesItem_41 : decode cX14_copiesItem 41 = .ok (.imul, 1) := by decide +kernel
theorem dX14_copiesItem_42 : decode cX14_copiesItem 42 = .ok (.iload_n 2, 1) := by decide +kernel
theorem dX14_copiesItem_43 : decode cX14_copiesItem 43 = .ok (.iadd, 1) := by decide +kernel
theorem dX14_copiesItem_44 : decode cX14_copiesItem 44 = .ok (.faload, 1) := by decide +kernel
theorem dX14_copiesItem_45 : decode cX14_copiesItem 45 = .ok (.fastore, 1) := by decide +kernel
theorem dX14_copiesItem_46 : decode cX14_copiesItem 46 = .ok (.return_, 1) := by decide +kernel
theorem dX14_move_0 : decode cX14_move 0 = .ok (.iload_n 1, 1) := by decide +kernel
theorem dX14_move_1 : decode cX14_move 1 = .ok (.invokestatic 537, 3) := by decide +kernel
theorem dX14_move_4 : decode cX14_move 4 = .ok (.ifCond .eq 10, 3) := by decide +kernel
theorem dX14_move_7 : decode cX14_move 7 = .ok (.iload_n 3, 1) := by decide +kernel
theorem dX14_move_8 : decode cX14_move 8 = .ok (.invokestatic 537, 3) := by decide +kernel
theorem dX14_move_11 : decode cX14_move 11 = .ok (.ifCond .ne 5, 3) := by decide +kernel
theorem dX14_move_14 : decode cX14_move 14 = .ok (.iconst (-1), 1) := by decide +kernel
theorem dX14_move_15 : decode cX14_move 15 = .ok (.ireturn, 1) := by decide +kernel
theorem dX14_move_16 : decode cX14_move 16 = .ok (.aload_n 0, 1) := by decide +kernel
theorem dX14_move_17 : decode cX14_move 17 = .ok (.getfield 98, 3) := by decide +kernel
theorem dX14_move_20 : decode cX14_move 20 = .ok (.iload_n 1, 1) := by decide +kernel
theorem dX14_move_21 : decode cX14_move 21 = .ok (.iaload, 1) := by decide +kernel
theorem dX14_move_22 : decode cX14_move 22 = .ok (.ifCond .lt 12, 3) := by decide +kernel
theorem dX14_move_25 : decode cX14_move 25 = .ok (.aload_n 0, 1) := by decide +kernel
theorem dX14_move_26 : decode cX14_move 26 = .ok (.getfield 98, 3) := by decide +kernel
theorem dX14_move_29 : decode cX14_move 29 = .ok (.iload_n 3, 1) := by decide +kernel
theorem dX14_move_30 : decode cX14_move 30 = .ok (.iaload, 1) := by decide +kernel
theorem dX14_move_31 : decode cX14_move 31 = .ok (.ifCond .ge 6, 3) := by decide +kernel
theorem dX14_move_34 : decode cX14_move 34 = .ok (.bipush (-11), 2) := by decide +kernel
theorem dX14_move_36 : decode cX14_move 36 = .ok (.ireturn, 1) := by decide +kernel
theorem dX14_move_37 : decode cX14_move 37 = .ok (.aload_n 0, 1) := by decide +kernel
theorem dX14_move_38 : decode cX14_move 38 = .ok (.getfield 98, 3) := by decide +kernel
theorem dX14_move_41 : decode cX14_move 41 = .ok (.iload_n 1, 1) := by decide +kernel
theorem dX14_move_42 : decode cX14_move 42 = .ok (.iaload, 1) := by decide +kernel
theorem dX14_move_43 : decode cX14_move 43 = .ok (.aload_n 0, 1) := by decide +kernel
theorem dX14_move_44 : decode cX14_move 44 = .ok (.getfield 98, 3) := by decide +kernel
theorem dX14_move_47 : decode cX14_move 47 = .ok (.iload_n 3, 1) := by decide +kernel
theorem dX14_move_48 : decode cX14_move 48 = .ok (.iaload, 1) := by decide +kernel
theorem dX14_move_49 : decode cX14_move 49 = .ok (.if_icmp .eq 6, 3) := by decide +kernel
theorem dX14_move_52 : decode cX14_move 52 = .ok (.bipush (-12), 2) := by decide +kernel
theorem dX14_move_54 : decode cX14_move 54 = .ok (.ireturn, 1) := by decide +kernel
theorem dX14_move_55 : decode cX14_move 55 = .ok (.iload 5, 2) := by decide +kernel
theorem dX14_move_57 : decode cX14_move 57 = .ok (.ifCond .lt 39, 3) := by decide +kernel
theorem dX14_move_60 : decode cX14_move 60 = .ok (.iload_n 2, 1) := by decide +kernel
theorem dX14_move_61 : decode cX14_move 61 = .ok (.ifCond .lt 35, 3) := by decide +kernel
theorem dX14_move_64 : decode cX14_move 64 = .ok (.iload 4, 2) := by decide +kernel
theorem dX14_move_66 : decode cX14_move 66 = .ok (.ifCond .lt 30, 3) := by decide +kernel
theorem dX14_move_69 : decode cX14_move 69 = .ok (.iload 5, 2) := by decide +kernel
theorem dX14_move_71 : decode cX14_move 71 = .ok (.aload_n 0, 1) := by decide +kernel
theorem dX14_move_72 : decode cX14_move 72 = .ok (.getfield 101, 3) := by decide +kernel
theorem dX14_move_75 : decode cX14_move 75 = .ok (.iload_n 1, 1) := by decide +kernel
theorem dX14_move_76 : decode cX14_move 76 = .ok (.iaload, 1) := by decide +kernel
theorem dX14_move_77 : decode cX14_move 77 = .ok (.iload_n 2, 1) := by decide +kernel
theorem dX14_move_78 : decode cX14_move 78 = .ok (.isub, 1) := by decide +kernel
theorem dX14_move_79 : decode cX14_move 79 = .ok (.if_icmp .gt 17, 3) := by decide +kernel
theorem dX14_move_82 : decode cX14_move 82 = .ok (.iload 5, 2) := by decide +kernel
theorem dX14_move_84 : decode cX14_move 84 = .ok (.aload_n 0, 1) := by decide +kernel
theorem dX14_move_85 : decode cX14_move 85 = .ok (.getfield 101, 3) := by decide +kernel
theorem dX14_move_88 : decode cX14_move 88 = .ok (.iload_n 3, 1) := by decide +kernel
theorem dX14_move_89 : decode cX14_move 89 = .ok (.iaload, 1) := by decide +kernel
theorem dX14_move_90 : decode cX14_move 90 = .ok (.iload 4, 2) := by decide +kernel
theorem dX14_move_92 : decode cX14_move 92 = .ok (.isub, 1) := by decide +kernel
theorem dX14_move_93 : decode cX14_move 93 = .ok (.if_icmp .le 6, 3) := by decide +kernel
theorem dX14_move_96 : decode cX14_move 96 = .ok (.bipush (-13), 2) := by decide +kernel
theorem dX14_move_98 : decode cX14_move 98 = .ok (.ireturn, 1) := by decide +kernel
theorem dX14_move_99 : decode cX14_move 99 = .ok (.iconst 0, 1) := by decide +kernel
theorem dX14_move_100 : decode cX14_move 100 = .ok (.istore 6, 2) := by decide +kernel
theorem dX14_move_102 : decode cX14_move 102 = .ok (.iload 6, 2) := by decide +kernel
theorem dX14_move_104 : decode cX14_move 104 = .ok (.iload 5, 2) := by decide +kernel
theorem dX14_move_106 : decode cX14_move 106 = .ok (.if_icmp .ge 44, 3) := by decide +kernel
theorem dX14_move_109 : decode cX14_move 109 = .ok (.iload_n 2, 1) := by decide +kernel
theorem dX14_move_110 : decode cX14_move 110 = .ok (.iload 4, 2) := by decide +kernel
theorem dX14_move_112 : decode cX14_move 112 = .ok (.if_icmp .le 8, 3) := by decide +kernel
theorem dX14_move_115 : decode cX14_move 115 = .ok (.iload 6, 2) := by decide +kernel
theorem dX14_move_117 : decode cX14_move 117 = .ok (.goto 10, 3) := by decide +kernel
theorem dX14_move_120 : decode cX14_move 120 = .ok (.iload 5, 2) := by decide +kernel
theorem dX14_move_122 : decode cX14_move 122 = .ok (.iconst 1, 1) := by decide +kernel
theorem dX14_move_123 : decode cX14_move 123 = .ok (.isub, 1) := by decide +kernel
theorem dX14_move_124 : decode cX14_move 124 = .ok (.iload 6, 2) := by decide +kernel
theorem dX14_move_126 : decode cX14_move 126 = .ok (.isub, 1) := by decide +kernel
theorem dX14_move_127 : decode cX14_move 127 = .ok (.istore 7, 2) := by decide +kernel
theorem dX14_move_129 : decode cX14_move 129 = .ok (.aload_n 0, 1) := by decide +kernel
theorem dX14_move_130 : decode cX14_move 130 = .ok (.iload_n 1, 1) := by decide +kernel
theorem dX14_move_131 : decode cX14_move 131 = .ok (.iload_n 2, 1) := by decide +kernel
theorem dX14_move_132 : decode cX14_move 132 = .ok (.iload 7, 2) := by decide +kernel
theorem dX14_move_134 : decode cX14_move 134 = .ok (.iadd, 1) := by decide +kernel
theorem dX14_move_135 : decode cX14_move 135 = .ok (.iload_n 3, 1) := by decide +kernel
theorem dX14_move_136 : decode cX14_move 136 = .ok (.iload 4, 2) := by decide +kernel
theorem dX14_move_138 : decode cX14_move 138 = .ok (.iload 7, 2) := by decide +kernel
theorem dX14_move_140 : decode cX14_move 140 = .ok (.iadd, 1) := by decide +kernel
theorem dX14_move_141 : decode cX14_move 141 = .ok (.invokevirtual 548, 3) := by decide +kernel
theorem dX14_move_144 : decode cX14_move 144 = .ok (.iinc 6 1, 3) := by decide +kernel
theorem dX14_move_147 : decode cX14_move 147 = .ok (.goto (-45), 3) := by decide +kernel
theorem dX14_move_150 : decode cX14_move 150 = .ok (.iload 5, 2) := by decide +kernel
theorem dX14_move_152 : decode cX14_move 152 = .ok (.ireturn, 1) := by decide +kernel
theorem dX14_twin_0 : decode cX14_twin 0 = .ok (.iload_n 1, 1) := by decide +kernel
theorem dX14_twin_1 : decode cX14_twin 1 = .ok (.invokestatic 537, 3) := by decide +kernel
theorem dX14_twin_4 : decode cX14_twin 4 = .ok (.ifCond .eq 10, 3) := by decide +kernel
theorem dX14_twin_7 : decode cX14_twin 7 = .ok (.iload_n 2, 1) := by decide +kernel
theorem dX14_twin_8 : decode cX14_twin 8 = .ok (.invokestatic 537, 3) := by decide +kernel
theorem dX14_twin_11 : decode cX14_twin 11 = .ok (.ifCond .ne 5, 3) := by decide +kernel
theorem dX14_twin_14 : decode cX14_twin 14 = .ok (.iconst (-1), 1) := by decide +kernel
theorem dX14_twin_15 : decode cX14_twin 15 = .ok (.ireturn, 1) := by decide +kernel
theorem dX14_twin_16 : decode cX14_twin 16 = .ok (.aload_n 0, 1) := by decide +kernel
theorem dX14_twin_17 : decode cX14_twin 17 = .ok (.getfield 98, 3) := by decide +kernel
theorem dX14_twin_20 : decode cX14_twin 20 = .ok (.iload_n 1, 1) := by decide +kernel
theorem dX14_twin_21 : decode cX14_twin 21 = .ok (.iaload, 1) := by decide +kernel
theorem dX14_twin_22 : decode cX14_twin 22 = .ok (.ifCond .ge 6, 3) := by decide +kernel
theorem dX14_twin_25 : decode cX14_twin 25 = .ok (.bipush (-11), 2) := by decide +kernel
theorem dX14_twin_27 : decode cX14_twin 27 = .ok (.ireturn, 1) := by decide +kernel
theorem dX14_twin_28 : decode cX14_twin 28 = .ok (.aload_n 0, 1) := by decide +kernel
