theorem dX12_lastOf_26 : decode cX12_lastOf 26 = .ok (.invokevirtual 122, 3) := by decide +kernel
theorem dX12_lastOf_29 : decode cX12_lastOf 29 = .ok (.astore 5, 2) := by decide +kernel
theorem dX12_lastOf_31 : decode cX12_lastOf 31 = .ok (.aload 5, 2) := by decide +kernel
theorem dX12_lastOf_33 : decode cX12_lastOf 33 = .ok (.ifnonnull 11, 3) := by decide +kernel
theorem dX12_lastOf_36 : decode cX12_lastOf 36 = .ok (.aload_n 0, 1) := by decide +kernel
theorem dX12_lastOf_37 : decode cX12_lastOf 37 = .ok (.iconst 0, 1) := by decide +kernel
theorem dX12_lastOf_38 : decode cX12_lastOf 38 = .ok (.iconst 1, 1) := by decide +kernel
theorem dX12_lastOf_39 : decode cX12_lastOf 39 = .ok (.invokevirtual 95, 3) := by decide +kernel
theorem dX12_lastOf_42 : decode cX12_lastOf 42 = .ok (.aconst_null, 1) := by decide +kernel
theorem dX12_lastOf_43 : decode cX12_lastOf 43 = .ok (.areturn, 1) := by decide +kernel
theorem dX12_lastOf_44 : decode cX12_lastOf 44 = .ok (.aload 5, 2) := by decide +kernel
theorem dX12_lastOf_46 : decode cX12_lastOf 46 = .ok (.getfield 128, 3) := by decide +kernel
theorem dX12_lastOf_49 : decode cX12_lastOf 49 = .ok (.ifCond .ge 6, 3) := by decide +kernel
theorem dX12_lastOf_52 : decode cX12_lastOf 52 = .ok (.aload 5, 2) := by decide +kernel
theorem dX12_lastOf_54 : decode cX12_lastOf 54 = .ok (.areturn, 1) := by decide +kernel
theorem dX12_lastOf_55 : decode cX12_lastOf 55 = .ok (.aload 5, 2) := by decide +kernel
theorem dX12_lastOf_57 : decode cX12_lastOf 57 = .ok (.getfield 128, 3) := by decide +kernel
theorem dX12_lastOf_60 : decode cX12_lastOf 60 = .ok (.istore_n 3, 1) := by decide +kernel
theorem dX12_lastOf_61 : decode cX12_lastOf 61 = .ok (.iinc 4 1, 3) := by decide +kernel
theorem dX12_lastOf_64 : decode cX12_lastOf 64 = .ok (.goto (-55), 3) := by decide +kernel
theorem dX12_lastOf_67 : decode cX12_lastOf 67 = .ok (.aload_n 0, 1) := by decide +kernel
theorem dX12_lastOf_68 : decode cX12_lastOf 68 = .ok (.iconst 1, 1) := by decide +kernel
theorem dX12_lastOf_69 : decode cX12_lastOf 69 = .ok (.bipush 7, 2) := by decide +kernel
theorem dX12_lastOf_71 : decode cX12_lastOf 71 = .ok (.invokevirtual 95, 3) := by decide +kernel
theorem dX12_lastOf_74 : decode cX12_lastOf 74 = .ok (.aconst_null, 1) := by decide +kernel
theorem dX12_lastOf_75 : decode cX12_lastOf 75 = .ok (.areturn, 1) := by decide +kernel
theorem dX12_walkAll_0 : decode cX12_walkAll 0 = .ok (.iload_n 2, 1) := by decide +kernel
theorem dX12_walkAll_1 : decode cX12_walkAll 1 = .ok (.bipush 48, 2) := by decide +kernel
theorem dX12_walkAll_3 : decode cX12_walkAll 3 = .ok (.if_icmp .lt 11, 3) := by decide +kernel
theorem dX12_walkAll_6 : decode cX12_walkAll 6 = .ok (.aload_n 0, 1) := by decide +kernel
theorem dX12_walkAll_7 : decode cX12_walkAll 7 = .ok (.iconst 0, 1) := by decide +kernel
theorem dX12_walkAll_8 : decode cX12_walkAll 8 = .ok (.bipush 7, 2) := by decide +kernel
theorem dX12_walkAll_10 : decode cX12_walkAll 10 = .ok (.invokevirtual 95, 3) := by decide +kernel
theorem dX12_walkAll_13 : decode cX12_walkAll 13 = .ok (.return_, 1) := by decide +kernel
theorem dX12_walkAll_14 : decode cX12_walkAll 14 = .ok (.aload_n 0, 1) := by decide +kernel
theorem dX12_walkAll_15 : decode cX12_walkAll 15 = .ok (.getfield 131, 3) := by decide +kernel
theorem dX12_walkAll_18 : decode cX12_walkAll 18 = .ok (.istore_n 3, 1) := by decide +kernel
theorem dX12_walkAll_19 : decode cX12_walkAll 19 = .ok (.aload_n 1, 1) := by decide +kernel
theorem dX12_walkAll_20 : decode cX12_walkAll 20 = .ok (.astore 4, 2) := by decide +kernel
theorem dX12_walkAll_22 : decode cX12_walkAll 22 = .ok (.aload 4, 2) := by decide +kernel
theorem dX12_walkAll_24 : decode cX12_walkAll 24 = .ok (.ifnull 27, 3) := by decide +kernel
theorem dX12_walkAll_27 : decode cX12_walkAll 27 = .ok (.aload_n 0, 1) := by decide +kernel
theorem dX12_walkAll_28 : decode cX12_walkAll 28 = .ok (.getfield 81, 3) := by decide +kernel
theorem dX12_walkAll_31 : decode cX12_walkAll 31 = .ok (.ifCond .ne 20, 3) := by decide +kernel
theorem dX12_walkAll_34 : decode cX12_walkAll 34 = .ok (.aload_n 0, 1) := by decide +kernel
theorem dX12_walkAll_35 : decode cX12_walkAll 35 = .ok (.aload 4, 2) := by decide +kernel
theorem dX12_walkAll_37 : decode cX12_walkAll 37 = .ok (.iload_n 2, 1) := by decide +kernel
theorem dX12_walkAll_38 : decode cX12_walkAll 38 = .ok (.invokevirtual 134, 3) := by decide +kernel
theorem dX12_walkAll_41 : decode cX12_walkAll 41 = .ok (.aload 4, 2) := by decide +kernel
theorem dX12_walkAll_43 : decode cX12_walkAll 43 = .ok (.getfield 137, 3) := by decide +kernel
theorem dX12_walkAll_46 : decode cX12_walkAll 46 = .ok (.astore 4, 2) := by decide +kernel
theorem dX12_walkAll_48 : decode cX12_walkAll 48 = .ok (.goto (-26), 3) := by decide +kernel
theorem dX12_walkAll_51 : decode cX12_walkAll 51 = .ok (.aload_n 0, 1) := by decide +kernel
theorem dX12_walkAll_52 : decode cX12_walkAll 52 = .ok (.iload_n 3, 1) := by decide +kernel
theorem dX12_walkAll_53 : decode cX12_walkAll 53 = .ok (.invokevirtual 142, 3) := by decide +kernel
theorem dX12_walkAll_56 : decode cX12_walkAll 56 = .ok (.return_, 1) := by decide +kernel
theorem dX12_walkOne_0 : decode cX12_walkOne 0 = .ok (.aload_n 1, 1) := by decide +kernel
theorem dX12_walkOne_1 : decode cX12_walkOne 1 = .ok (.getfield 145, 3) := by decide +kernel
theorem dX12_walkOne_4 : decode cX12_walkOne 4 = .ok (.ifCond .ne 31, 3) := by decide +kernel
theorem dX12_walkOne_7 : decode cX12_walkOne 7 = .ok (.aload_n 0, 1) := by decide +kernel
theorem dX12_walkOne_8 : decode cX12_walkOne 8 = .ok (.aload_n 1, 1) := by decide +kernel
theorem dX12_walkOne_9 : decode cX12_walkOne 9 = .ok (.getfield 148, 3) := by decide +kernel
theorem dX12_walkOne_12 : decode cX12_walkOne 12 = .ok (.aload_n 1, 1) := by decide +kernel
theorem dX12_walkOne_13 : decode cX12_walkOne 13 = .ok (.getfield 151, 3) := by decide +kernel
theorem dX12_walkOne_16 : decode cX12_walkOne 16 = .ok (.invokevirtual 154, 3) := by decide +kernel
theorem dX12_walkOne_19 : decode cX12_walkOne 19 = .ok (.aload_n 0, 1) := by decide +kernel
theorem dX12_walkOne_20 : decode cX12_walkOne 20 = .ok (.aload_n 0, 1) := by decide +kernel
theorem dX12_walkOne_21 : decode cX12_walkOne 21 = .ok (.getfield 68, 3) := by decide +kernel
theorem dX12_walkOne_24 : decode cX12_walkOne 24 = .ok (.aload_n 1, 1) := by decide +kernel
theorem dX12_walkOne_25 : decode cX12_walkOne 25 = .ok (.getfield 148, 3) := by decide +kernel
theorem dX12_walkOne_28 : decode cX12_walkOne 28 = .ok (.invokestatic 157, 3) := by decide +kernel
theorem dX12_walkOne_31 : decode cX12_walkOne 31 = .ok (.putfield 68, 3) := by decide +kernel
theorem dX12_walkOne_34 : decode cX12_walkOne 34 = .ok (.return_, 1) := by decide +kernel
theorem dX12_walkOne_35 : decode cX12_walkOne 35 = .ok (.aload_n 0, 1) := by decide +kernel
theorem dX12_walkOne_36 : decode cX12_walkOne 36 = .ok (.getfield 71, 3) := by decide +kernel
theorem dX12_walkOne_39 : decode cX12_walkOne 39 = .ok (.sipush 300, 3) := by decide +kernel
theorem dX12_walkOne_42 : decode cX12_walkOne 42 = .ok (.if_icmp .lt 14, 3) := by decide +kernel
theorem dX12_walkOne_45 : decode cX12_walkOne 45 = .ok (.aload_n 0, 1) := by decide +kernel
theorem dX12_walkOne_46 : decode cX12_walkOne 46 = .ok (.aload_n 1, 1) := by decide +kernel
theorem dX12_walkOne_47 : decode cX12_walkOne 47 = .ok (.getfield 151, 3) := by decide +kernel
theorem dX12_walkOne_50 : decode cX12_walkOne 50 = .ok (.bipush 6, 2) := by decide +kernel
theorem dX12_walkOne_52 : decode cX12_walkOne 52 = .ok (.invokevirtual 95, 3) := by decide +kernel
theorem dX12_walkOne_55 : decode cX12_walkOne 55 = .ok (.return_, 1) := by decide +kernel
theorem dX12_walkOne_56 : decode cX12_walkOne 56 = .ok (.aload_n 0, 1) := by decide +kernel
theorem dX12_walkOne_57 : decode cX12_walkOne 57 = .ok (.aload_n 0, 1) := by decide +kernel
theorem dX12_walkOne_58 : decode cX12_walkOne 58 = .ok (.getfield 71, 3) := by decide +kernel
theorem dX12_walkOne_61 : decode cX12_walkOne 61 = .ok (.iconst 1, 1) := by decide +kernel
theorem dX12_walkOne_62 : decode cX12_walkOne 62 = .ok (.iadd, 1) := by decide +kernel
theorem dX12_walkOne_63 : decode cX12_walkOne 63 = .ok (.putfield 71, 3) := by decide +kernel
theorem dX12_walkOne_66 : decode cX12_walkOne 66 = .ok (.aload_n 1, 1) := by decide +kernel
theorem dX12_walkOne_67 : decode cX12_walkOne 67 = .ok (.getfield 145, 3) := by decide +kernel
theorem dX12_walkOne_70 : decode cX12_walkOne 70 = .ok (.tableswitch 114 1 7 #[42, 68, 91, 114, 114, 114, 55], 42) := by decide +kernel
theorem dX12_walkOne_112 : decode cX12_walkOne 112 = .ok (.aload_n 0, 1) := by decide +kernel
theorem dX12_walkOne_113 : decode cX12_walkOne 113 = .ok (.getfield 77, 3) := by decide +kernel
theorem dX12_walkOne_116 : decode cX12_walkOne 116 = .ok (.ifCond .ne 8, 3) := by decide +kernel
theorem dX12_walkOne_119 : decode cX12_walkOne 119 = .ok (.aload_n 0, 1) := by decide +kernel
theorem dX12_walkOne_120 : decode cX12_walkOne 120 = .ok (.aload_n 1, 1) := by decide +kernel
theorem dX12_walkOne_121 : decode cX12_walkOne 121 = .ok (.invokevirtual 161, 3) := by decide +kernel
theorem dX12_walkOne_124 : decode cX12_walkOne 124 = .ok (.return_, 1) := by decide +kernel
theorem dX12_walkOne_125 : decode cX12_walkOne 125 = .ok (.aload_n 0, 1) := by decide +kernel
theorem dX12_walkOne_126 : decode cX12_walkOne 126 = .ok (.getfield 77, 3) := by decide +kernel
theorem dX12_walkOne_129 : decode cX12_walkOne 129 = .ok (.ifCond .ne 8, 3) := by decide +kernel
theorem dX12_walkOne_132 : decode cX12_walkOne 132 = .ok (.aload_n 0, 1) := by decide +kernel
theorem dX12_walkOne_133 : decode cX12_walkOne 133 = .ok (.aload_n 1, 1) := by decide +kernel
theorem dX12_walkOne_134 : decode cX12_walkOne 134 = .ok (.invokevirtual 165, 3) := by decide +kernel
theorem dX12_walkOne_137 : decode cX12_walkOne 137 = .ok (.return_, 1) := by decide +kernel
theorem dX12_walkOne_138 : decode cX12_walkOne 138 = .ok (.aload_n 0, 1) := by decide +kernel
theorem dX12_walkOne_139 : decode cX12_walkOne 139 = .ok (.getfield 77, 3) := by decide +kernel
theorem dX12_walkOne_142 : decode cX12_walkOne 142 = .ok (.ifCond .eq 12, 3) := by decide +kernel
theorem dX12_walkOne_145 : decode cX12_walkOne 145 = .ok (.aload_n 0, 1) := by decide +kernel
theorem dX12_walkOne_146 : decode cX12_walkOne 146 = .ok (.aload_n 1, 1) := by decide +kernel
theorem dX12_walkOne_147 : decode cX12_walkOne 147 = .ok (.iload_n 2, 1) := by decide +kernel
theorem dX12_walkOne_148 : decode cX12_walkOne 148 = .ok (.invokevirtual 168, 3) := by decide +kernel
theorem dX12_walkOne_151 : decode cX12_walkOne 151 = .ok (.goto 9, 3) := by decide +kernel
theorem dX12_walkOne_154 : decode cX12_walkOne 154 = .ok (.aload_n 0, 1) := by decide +kernel
theorem dX12_walkOne_155 : decode cX12_walkOne 155 = .ok (.aload_n 1, 1) := by decide +kernel
theorem dX12_walkOne_156 : decode cX12_walkOne 156 = .ok (.iload_n 2, 1) := by decide +kernel
theorem dX12_walkOne_157 : decode cX12_walkOne 157 = .ok (.invokevirtual 171, 3) := by decide +kernel
theorem dX12_walkOne_160 : decode cX12_walkOne 160 = .ok (.return_, 1) := by decide +kernel
theorem dX12_walkOne_161 : decode cX12_walkOne 161 = .ok (.aload_n 0, 1) := by decide +kernel
theorem dX12_walkOne_162 : decode cX12_walkOne 162 = .ok (.getfield 77, 3) := by decide +kernel
theorem dX12_walkOne_165 : decode cX12_walkOne 165 = .ok (.ifCond .eq 12, 3) := by decide +kernel
theorem dX12_walkOne_168 : decode cX12_walkOne 168 = .ok (.aload_n 0, 1) := by decide +kernel
theorem dX12_walkOne_169 : decode cX12_walkOne 169 = .ok (.aload_n 1, 1) := by decide +kernel
theorem dX12_walkOne_170 : decode cX12_walkOne 170 = .ok (.iload_n 2, 1) := by decide +kernel
theorem dX12_walkOne_171 : decode cX12_walkOne 171 = .ok (.invokevirtual 174, 3) := by decide +kernel
theorem dX12_walkOne_174 : decode cX12_walkOne 174 = .ok (.goto 9, 3) := by decide +kernel
theorem dX12_walkOne_177 : decode cX12_walkOne 177 = .ok (.aload_n 0, 1) := by decide +kernel
theorem dX12_walkOne_178 : decode cX12_walkOne 178 = .ok (.aload_n 1, 1) := by decide +kernel
theorem dX12_walkOne_179 : decode cX12_walkOne 179 = .ok (.iload_n 2, 1) := by decide +kernel
theorem dX12_walkOne_180 : decode cX12_walkOne 180 = .ok (.invokevirtual 177, 3) := by decide +kernel
theorem dX12_walkOne_183 : decode cX12_walkOne 183 = .ok (.return_, 1) := by decide +kernel
theorem dX12_walkOne_184 : decode cX12_walkOne 184 = .ok (.aload_n 0, 1) := by decide +kernel
theorem dX12_walkOne_185 : decode cX12_walkOne 185 = .ok (.aload_n 1, 1) := by decide +kernel
theorem dX12_walkOne_186 : decode cX12_walkOne 186 = .ok (.iload_n 2, 1) := by decide +kernel
theorem dX12_walkOne_187 : decode cX12_walkOne 187 = .ok (.invokevirtual 180, 3) := by decide +kernel
theorem dX12_walkOne_190 : decode cX12_walkOne 190 = .ok (.return_, 1) := by decide +kernel
theorem dX12_lookIntoBranch_0 : decode cX12_lookIntoBranch 0 = .ok (.aload_n 0, 1) := by decide +kernel
theorem dX12_lookIntoBranch_1 : decode cX12_lookIntoBranch 1 = .ok (.getfield 68, 3) := by decide +kernel
theorem dX12_lookIntoBranch_4 : decode cX12_lookIntoBranch 4 = .ok (.istore_n 3, 1) := by decide +kernel
theorem dX12_lookIntoBranch_5 : decode cX12_lookIntoBranch 5 = .ok (.aload_n 0, 1) := by decide +kernel
theorem dX12_lookIntoBranch_6 : decode cX12_lookIntoBranch 6 = .ok (.aload_n 1, 1) := by decide +kernel
theorem dX12_lookIntoBranch_7 : decode cX12_lookIntoBranch 7 = .ok (.getfield 183, 3) := by decide +kernel
theorem dX12_lookIntoBranch_10 : decode cX12_lookIntoBranch 10 = .ok (.iload_n 2, 1) := by decide +kernel
theorem dX12_lookIntoBranch_11 : decode cX12_lookIntoBranch 11 = .ok (.iconst 1, 1) := by decide +kernel
theorem dX12_lookIntoBranch_12 : decode cX12_lookIntoBranch 12 = .ok (.iadd, 1) := by decide +kernel
theorem dX12_lookIntoBranch_13 : decode cX12_lookIntoBranch 13 = .ok (.invokevirtual 109, 3) := by decide +kernel
theorem dX12_lookIntoBranch_16 : decode cX12_lookIntoBranch 16 = .ok (.aload_n 0, 1) := by decide +kernel
theorem dX12_lookIntoBranch_17 : decode cX12_lookIntoBranch 17 = .ok (.getfield 68, 3) := by decide +kernel
theorem dX12_lookIntoBranch_20 : decode cX12_lookIntoBranch 20 = .ok (.istore 4, 2) := by decide +kernel
theorem dX12_lookIntoBranch_22 : decode cX12_lookIntoBranch 22 = .ok (.aload_n 0, 1) := by decide +kernel
theorem dX12_lookIntoBranch_23 : decode cX12_lookIntoBranch 23 = .ok (.iload_n 3, 1) := by decide +kernel
theorem dX12_lookIntoBranch_24 : decode cX12_lookIntoBranch 24 = .ok (.putfield 68, 3) := by decide +kernel
theorem dX12_lookIntoBranch_27 : decode cX12_lookIntoBranch 27 = .ok (.aload_n 0, 1) := by decide +kernel
theorem dX12_lookIntoBranch_28 : decode cX12_lookIntoBranch 28 = .ok (.aload_n 1, 1) := by decide +kernel
theorem dX12_lookIntoBranch_29 : decode cX12_lookIntoBranch 29 = .ok (.getfield 186, 3) := by decide +kernel
theorem dX12_lookIntoBranch_32 : decode cX12_lookIntoBranch 32 = .ok (.iload_n 2, 1) := by decide +kernel
theorem dX12_lookIntoBranch_33 : decode cX12_lookIntoBranch 33 = .ok (.iconst 1, 1) := by decide +kernel
theorem dX12_lookIntoBranch_34 : decode cX12_lookIntoBranch 34 = .ok (.iadd, 1) := by decide +kernel
theorem dX12_lookIntoBranch_35 : decode cX12_lookIntoBranch 35 = .ok (.invokevirtual 109, 3) := by decide +kernel
theorem dX12_lookIntoBranch_38 : decode cX12_lookIntoBranch 38 = .ok (.aload_n 0, 1) := by decide +kernel
theorem dX12_lookIntoBranch_39 : decode cX12_lookIntoBranch 39 = .ok (.getfield 68, 3) := by decide +kernel
theorem dX12_lookIntoBranch_42 : decode cX12_lookIntoBranch 42 = .ok (.iload 4, 2) := by decide +kernel
theorem dX12_lookIntoBranch_44 : decode cX12_lookIntoBranch 44 = .ok (.if_icmp .eq 12, 3) := by decide +kernel
theorem dX12_lookIntoBranch_47 : decode cX12_lookIntoBranch 47 = .ok (.aload_n 0, 1) := by decide +kernel
theorem dX12_lookIntoBranch_48 : decode cX12_lookIntoBranch 48 = .ok (.aload_n 1, 1) := by decide +kernel
theorem dX12_lookIntoBranch_49 : decode cX12_lookIntoBranch 49 = .ok (.getfield 151, 3) := by decide +kernel
theorem dX12_lookIntoBranch_52 : decode cX12_lookIntoBranch 52 = .ok (.iconst 3, 1) := by decide +kernel
theorem dX12_lookIntoBranch_53 : decode cX12_lookIntoBranch 53 = .ok (.invokevirtual 95, 3) := by decide +kernel
theorem dX12_lookIntoBranch_56 : decode cX12_lookIntoBranch 56 = .ok (.return_, 1) := by decide +kernel
theorem dX12_lookIntoLoop_0 : decode cX12_lookIntoLoop 0 = .ok (.aload_n 0, 1) := by decide +kernel
theorem dX12_lookIntoLoop_1 : decode cX12_lookIntoLoop 1 = .ok (.getfield 68, 3) := by decide +kernel
theorem dX12_lookIntoLoop_4 : decode cX12_lookIntoLoop 4 = .ok (.istore_n 3, 1) := by decide +kernel
theorem dX12_lookIntoLoop_5 : decode cX12_lookIntoLoop 5 = .ok (.aload_n 0, 1) := by decide +kernel
theorem dX12_lookIntoLoop_6 : decode cX12_lookIntoLoop 6 = .ok (.aload_n 1, 1) := by decide +kernel
theorem dX12_lookIntoLoop_7 : decode cX12_lookIntoLoop 7 = .ok (.getfield 183, 3) := by decide +kernel
theorem dX12_lookIntoLoop_10 : decode cX12_lookIntoLoop 10 = .ok (.iload_n 2, 1) := by decide +kernel
theorem dX12_lookIntoLoop_11 : decode cX12_lookIntoLoop 11 = .ok (.iconst 1, 1) := by decide +kernel
theorem dX12_lookIntoLoop_12 : decode cX12_lookIntoLoop 12 = .ok (.iadd, 1) := by decide +kernel
theorem dX12_lookIntoLoop_13 : decode cX12_lookIntoLoop 13 = .ok (.invokevirtual 109, 3) := by decide +kernel
theorem dX12_lookIntoLoop_16 : decode cX12_lookIntoLoop 16 = .ok (.aload_n 0, 1) := by decide +kernel
theorem dX12_lookIntoLoop_17 : decode cX12_lookIntoLoop 17 = .ok (.getfield 68, 3) := by decide +kernel
theorem dX12_lookIntoLoop_20 : decode cX12_lookIntoLoop 20 = .ok (.iload_n 3, 1) := by decide +kernel
theorem dX12_lookIntoLoop_21 : decode cX12_lookIntoLoop 21 = .ok (.if_icmp .eq 12, 3) := by decide +kernel
theorem dX12_lookIntoLoop_24 : decode cX12_lookIntoLoop 24 = .ok (.aload_n 0, 1) := by decide +kernel
theorem dX12_lookIntoLoop_25 : decode cX12_lookIntoLoop 25 = .ok (.aload_n 1, 1) := by decide +kernel
theorem dX12_lookIntoLoop_26 : decode cX12_lookIntoLoop 26 = .ok (.getfield 151, 3) := by decide +kernel
theorem dX12_lookIntoLoop_29 : decode cX12_lookIntoLoop 29 = .ok (.iconst 3, 1) := by decide +kernel
theorem dX12_lookIntoLoop_30 : decode cX12_lookIntoLoop 30 = .ok (.invokevirtual 95, 3) := by decide +kernel
theorem dX12_lookIntoLoop_33 : decode cX12_lookIntoLoop 33 = .ok (.aload_n 0, 1) := by decide +kernel
theorem dX12_lookIntoLoop_34 : decode cX12_lookIntoLoop 34 = .ok (.aload_n 1, 1) := by decide +kernel
theorem dX12_lookIntoLoop_35 : decode cX12_lookIntoLoop 35 = .ok (.getfield 186, 3) := by decide +kernel
theorem dX12_lookIntoLoop_38 : decode cX12_lookIntoLoop 38 = .ok (.iload_n 2, 1) := by decide +kernel
theorem dX12_lookIntoLoop_39 : decode cX12_lookIntoLoop 39 = .ok (.iconst 1, 1) := by decide +kernel
theorem dX12_lookIntoLoop_40 : decode cX12_lookIntoLoop 40 = .ok (.iadd, 1) := by decide +kernel
theorem dX12_lookIntoLoop_41 : decode cX12_lookIntoLoop 41 = .ok (.invokevirtual 109, 3) := by decide +kernel
theorem dX12_lookIntoLoop_44 : decode cX12_lookIntoLoop 44 = .ok (.aload_n 0, 1) := by decide +kernel
theorem dX12_lookIntoLoop_45 : decode cX12_lookIntoLoop 45 = .ok (.getfield 68, 3) := by decide +kernel
theorem dX12_lookIntoLoop_48 : decode cX12_lookIntoLoop 48 = .ok (.iload_n 3, 1) := by decide +kernel
theorem dX12_lookIntoLoop_49 : decode cX12_lookIntoLoop 49 = .ok (.if_icmp .eq 12, 3) := by decide +kernel
theorem dX12_lookIntoLoop_52 : decode cX12_lookIntoLoop 52 = .ok (.aload_n 0, 1) := by decide +kernel
theorem dX12_lookIntoLoop_53 : decode cX12_lookIntoLoop 53 = .ok (.aload_n 1, 1) := by decide +kernel
theorem dX12_lookIntoLoop_54 : decode cX12_lookIntoLoop 54 = .ok (.getfield 151, 3) := by decide +kernel
theorem dX12_lookIntoLoop_57 : decode cX12_lookIntoLoop 57 = .ok (.iconst 3, 1) := by decide +kernel
theorem dX12_lookIntoLoop_58 : decode cX12_lookIntoLoop 58 = .ok (.invokevirtual 95, 3) := by decide +kernel
theorem dX12_lookIntoLoop_61 : decode cX12_lookIntoLoop 61 = .ok (.return_, 1) := by decide +kernel
theorem dX12_walkBranch_0 : decode cX12_walkBranch 0 = .ok (.aload_n 0, 1) := by decide +kernel
theorem dX12_walkBranch_1 : decode cX12_walkBranch 1 = .ok (.aload_n 1, 1) := by decide +kernel
theorem dX12_walkBranch_2 : decode cX12_walkBranch 2 = .ok (.invokevirtual 189, 3) := by decide +kernel
theorem dX12_walkBranch_5 : decode cX12_walkBranch 5 = .ok (.istore_n 3, 1) := by decide +kernel
theorem dX12_walkBranch_6 : decode cX12_walkBranch 6 = .ok (.aload_n 0, 1) := by decide +kernel
theorem dX12_walkBranch_7 : decode cX12_walkBranch 7 = .ok (.getfield 81, 3) := by decide +kernel
theorem dX12_walkBranch_10 : decode cX12_walkBranch 10 = .ok (.ifCond .ne 25, 3) := by decide +kernel
theorem dX12_walkBranch_13 : decode cX12_walkBranch 13 = .ok (.aload_n 0, 1) := by decide +kernel
theorem dX12_walkBranch_14 : decode cX12_walkBranch 14 = .ok (.iload_n 3, 1) := by decide +kernel
theorem dX12_walkBranch_15 : decode cX12_walkBranch 15 = .ok (.ifCond .eq 10, 3) := by decide +kernel
theorem dX12_walkBranch_18 : decode cX12_walkBranch 18 = .ok (.aload_n 1, 1) := by decide +kernel
theorem dX12_walkBranch_19 : decode cX12_walkBranch 19 = .ok (.getfield 183, 3) := by decide +kernel
theorem dX12_walkBranch_22 : decode cX12_walkBranch 22 = .ok (.goto 7, 3) := by decide +kernel
theorem dX12_walkBranch_25 : decode cX12_walkBranch 25 = .ok (.aload_n 1, 1) := by decide +kernel
theorem dX12_walkBranch_26 : decode cX12_walkBranch 26 = .ok (.getfield 186, 3) := by decide +kernel
theorem dX12_walkBranch_29 : decode cX12_walkBranch 29 = .ok (.iload_n 2, 1) := by decide +kernel
theorem dX12_walkBranch_30 : decode cX12_walkBranch 30 = .ok (.iconst 1, 1) := by decide +kernel
theorem dX12_walkBranch_31 : decode cX12_walkBranch 31 = .ok (.iadd, 1) := by decide +kernel
theorem dX12_walkBranch_32 : decode cX12_walkBranch 32 = .ok (.invokevirtual 109, 3) := by decide +kernel
theorem dX12_walkBranch_35 : decode cX12_walkBranch 35 = .ok (.return_, 1) := by decide +kernel
theorem dX12_walkLoop_0 : decode cX12_walkLoop 0 = .ok (.aload_n 0, 1) := by decide +kernel
theorem dX12_walkLoop_1 : decode cX12_walkLoop 1 = .ok (.iload_n 2, 1) := by decide +kernel
theorem dX12_walkLoop_2 : decode cX12_walkLoop 2 = .ok (.invokevirtual 193, 3) := by decide +kernel
theorem dX12_walkLoop_5 : decode cX12_walkLoop 5 = .ok (.astore_n 3, 1) := by decide +kernel
theorem dX12_walkLoop_6 : decode cX12_walkLoop 6 = .ok (.aload_n 3, 1) := by decide +kernel
theorem dX12_walkLoop_7 : decode cX12_walkLoop 7 = .ok (.ifnonnull 14, 3) := by decide +kernel
theorem dX12_walkLoop_10 : decode cX12_walkLoop 10 = .ok (.aload_n 0, 1) := by decide +kernel
theorem dX12_walkLoop_11 : decode cX12_walkLoop 11 = .ok (.aload_n 1, 1) := by decide +kernel
theorem dX12_walkLoop_12 : decode cX12_walkLoop 12 = .ok (.getfield 151, 3) := by decide +kernel
theorem dX12_walkLoop_15 : decode cX12_walkLoop 15 = .ok (.bipush 7, 2) := by decide +kernel
theorem dX12_walkLoop_17 : decode cX12_walkLoop 17 = .ok (.invokevirtual 95, 3) := by decide +kernel
theorem dX12_walkLoop_20 : decode cX12_walkLoop 20 = .ok (.return_, 1) := by decide +kernel
theorem dX12_walkLoop_21 : decode cX12_walkLoop 21 = .ok (.aload_n 0, 1) := by decide +kernel
theorem dX12_walkLoop_22 : decode cX12_walkLoop 22 = .ok (.aload_n 1, 1) := by decide +kernel
theorem dX12_walkLoop_23 : decode cX12_walkLoop 23 = .ok (.getfield 197, 3) := by decide +kernel
theorem dX12_walkLoop_26 : decode cX12_walkLoop 26 = .ok (.aload_n 3, 1) := by decide +kernel
theorem dX12_walkLoop_27 : decode cX12_walkLoop 27 = .ok (.aload_n 1, 1) := by decide +kernel
theorem dX12_walkLoop_28 : decode cX12_walkLoop 28 = .ok (.getfield 151, 3) := by decide +kernel
theorem dX12_walkLoop_31 : decode cX12_walkLoop 31 = .ok (.invokevirtual 200, 3) := by decide +kernel
theorem dX12_walkLoop_34 : decode cX12_walkLoop 34 = .ok (.aload_n 0, 1) := by decide +kernel
theorem dX12_walkLoop_35 : decode cX12_walkLoop 35 = .ok (.getfield 81, 3) := by decide +kernel
theorem dX12_walkLoop_38 : decode cX12_walkLoop 38 = .ok (.ifCond .eq 4, 3) := by decide +kernel
theorem dX12_walkLoop_41 : decode cX12_walkLoop 41 = .ok (.return_, 1) := by decide +kernel
theorem dX12_walkLoop_42 : decode cX12_walkLoop 42 = .ok (.aload_n 3, 1) := by decide +kernel
theorem dX12_walkLoop_43 : decode cX12_walkLoop 43 = .ok (.getfield 204, 3) := by decide +kernel
theorem dX12_walkLoop_46 : decode cX12_walkLoop 46 = .ok (.iconst 4, 1) := by decide +kernel
theorem dX12_walkLoop_47 : decode cX12_walkLoop 47 = .ok (.if_icmp .eq 13, 3) := by decide +kernel
theorem dX12_walkLoop_50 : decode cX12_walkLoop 50 = .ok (.aload_n 0, 1) := by decide +kernel
theorem dX12_walkLoop_51 : decode cX12_walkLoop 51 = .ok (.aload_n 1, 1) := by decide +kernel
theorem dX12_walkLoop_52 : decode cX12_walkLoop 52 = .ok (.getfield 151, 3) := by decide +kernel
theorem dX12_walkLoop_55 : decode cX12_walkLoop 55 = .ok (.iconst 2, 1) := by decide +kernel
theorem dX12_walkLoop_56 : decode cX12_walkLoop 56 = .ok (.invokevirtual 95, 3) := by decide +kernel
theorem dX12_walkLoop_59 : decode cX12_walkLoop 59 = .ok (.return_, 1) := by decide +kernel
theorem dX12_walkLoop_60 : decode cX12_walkLoop 60 = .ok (.aload_n 3, 1) := by decide +kernel
theorem dX12_walkLoop_61 : decode cX12_walkLoop 61 = .ok (.getfield 207, 3) := by decide +kernel
theorem dX12_walkLoop_64 : decode cX12_walkLoop 64 = .ok (.ifCond .ne 14, 3) := by decide +kernel
theorem dX12_walkLoop_67 : decode cX12_walkLoop 67 = .ok (.aload_n 0, 1) := by decide +kernel
theorem dX12_walkLoop_68 : decode cX12_walkLoop 68 = .ok (.aload_n 1, 1) := by decide +kernel
theorem dX12_walkLoop_69 : decode cX12_walkLoop 69 = .ok (.getfield 186, 3) := by decide +kernel
theorem dX12_walkLoop_72 : decode cX12_walkLoop 72 = .ok (.iload_n 2, 1) := by decide +kernel
theorem dX12_walkLoop_73 : decode cX12_walkLoop 73 = .ok (.iconst 1, 1) := by decide +kernel
theorem dX12_walkLoop_74 : decode cX12_walkLoop 74 = .ok (.iadd, 1) := by decide +kernel
theorem dX12_walkLoop_75 : decode cX12_walkLoop 75 = .ok (.invokevirtual 109, 3) := by decide +kernel
theorem dX12_walkLoop_78 : decode cX12_walkLoop 78 = .ok (.aload_n 0, 1) := by decide +kernel
theorem dX12_walkLoop_79 : decode cX12_walkLoop 79 = .ok (.getfield 74, 3) := by decide +kernel
theorem dX12_walkLoop_82 : decode cX12_walkLoop 82 = .ok (.istore 4, 2) := by decide +kernel
theorem dX12_walkLoop_84 : decode cX12_walkLoop 84 = .ok (.iconst 0, 1) := by decide +kernel
theorem dX12_walkLoop_85 : decode cX12_walkLoop 85 = .ok (.istore 5, 2) := by decide +kernel
theorem dX12_walkLoop_87 : decode cX12_walkLoop 87 = .ok (.iload 5, 2) := by decide +kernel
theorem dX12_walkLoop_89 : decode cX12_walkLoop 89 = .ok (.aload_n 3, 1) := by decide +kernel
theorem dX12_walkLoop_90 : decode cX12_walkLoop 90 = .ok (.getfield 207, 3) := by decide +kernel
theorem dX12_walkLoop_93 : decode cX12_walkLoop 93 = .ok (.if_icmp .ge 70, 3) := by decide +kernel
theorem dX12_walkLoop_96 : decode cX12_walkLoop 96 = .ok (.aload_n 0, 1) := by decide +kernel
theorem dX12_walkLoop_97 : decode cX12_walkLoop 97 = .ok (.getfield 81, 3) := by decide +kernel
theorem dX12_walkLoop_100 : decode cX12_walkLoop 100 = .ok (.ifCond .ne 63, 3) := by decide +kernel
theorem dX12_walkLoop_103 : decode cX12_walkLoop 103 = .ok (.aload_n 0, 1) := by decide +kernel
theorem dX12_walkLoop_104 : decode cX12_walkLoop 104 = .ok (.getfield 131, 3) := by decide +kernel
theorem dX12_walkLoop_107 : decode cX12_walkLoop 107 = .ok (.istore 6, 2) := by decide +kernel
theorem dX12_walkLoop_109 : decode cX12_walkLoop 109 = .ok (.aload_n 0, 1) := by decide +kernel
theorem dX12_walkLoop_110 : decode cX12_walkLoop 110 = .ok (.getfield 24, 3) := by decide +kernel
theorem dX12_walkLoop_113 : decode cX12_walkLoop 113 = .ok (.aload_n 3, 1) := by decide +kernel
theorem dX12_walkLoop_114 : decode cX12_walkLoop 114 = .ok (.iload 5, 2) := by decide +kernel
theorem dX12_walkLoop_116 : decode cX12_walkLoop 116 = .ok (.invokevirtual 210, 3) := by decide +kernel
theorem dX12_walkLoop_119 : decode cX12_walkLoop 119 = .ok (.invokevirtual 214, 3) := by decide +kernel
theorem dX12_walkLoop_122 : decode cX12_walkLoop 122 = .ok (.aload_n 0, 1) := by decide +kernel
theorem dX12_walkLoop_123 : decode cX12_walkLoop 123 = .ok (.aload_n 1, 1) := by decide +kernel
theorem dX12_walkLoop_124 : decode cX12_walkLoop 124 = .ok (.getfield 148, 3) := by decide +kernel
theorem dX12_walkLoop_127 : decode cX12_walkLoop 127 = .ok (.aload_n 0, 1) := by decide +kernel
theorem dX12_walkLoop_128 : decode cX12_walkLoop 128 = .ok (.getfield 24, 3) := by decide +kernel
theorem dX12_walkLoop_131 : decode cX12_walkLoop 131 = .ok (.invokevirtual 217, 3) := by decide +kernel
theorem dX12_walkLoop_134 : decode cX12_walkLoop 134 = .ok (.aload_n 0, 1) := by decide +kernel
theorem dX12_walkLoop_135 : decode cX12_walkLoop 135 = .ok (.iload 5, 2) := by decide +kernel
theorem dX12_walkLoop_137 : decode cX12_walkLoop 137 = .ok (.putfield 74, 3) := by decide +kernel
theorem dX12_walkLoop_140 : decode cX12_walkLoop 140 = .ok (.aload_n 0, 1) := by decide +kernel
theorem dX12_walkLoop_141 : decode cX12_walkLoop 141 = .ok (.aload_n 1, 1) := by decide +kernel
theorem dX12_walkLoop_142 : decode cX12_walkLoop 142 = .ok (.getfield 183, 3) := by decide +kernel
theorem dX12_walkLoop_145 : decode cX12_walkLoop 145 = .ok (.iload_n 2, 1) := by decide +kernel
theorem dX12_walkLoop_146 : decode cX12_walkLoop 146 = .ok (.iconst 1, 1) := by decide +kernel
theorem dX12_walkLoop_147 : decode cX12_walkLoop 147 = .ok (.iadd, 1) := by decide +kernel
theorem dX12_walkLoop_148 : decode cX12_walkLoop 148 = .ok (.invokevirtual 109, 3) := by decide +kernel
theorem dX12_walkLoop_151 : decode cX12_walkLoop 151 = .ok (.aload_n 0, 1) := by decide +kernel
theorem dX12_walkLoop_152 : decode cX12_walkLoop 152 = .ok (.iload 6, 2) := by decide +kernel
theorem dX12_walkLoop_154 : decode cX12_walkLoop 154 = .ok (.invokevirtual 142, 3) := by decide +kernel
theorem dX12_walkLoop_157 : decode cX12_walkLoop 157 = .ok (.iinc 5 1, 3) := by decide +kernel
theorem dX12_walkLoop_160 : decode cX12_walkLoop 160 = .ok (.goto (-73), 3) := by decide +kernel
theorem dX12_walkLoop_163 : decode cX12_walkLoop 163 = .ok (.aload_n 0, 1) := by decide +kernel
theorem dX12_walkLoop_164 : decode cX12_walkLoop 164 = .ok (.iload 4, 2) := by decide +kernel
theorem dX12_walkLoop_166 : decode cX12_walkLoop 166 = .ok (.putfield 74, 3) := by decide +kernel
theorem dX12_walkLoop_169 : decode cX12_walkLoop 169 = .ok (.return_, 1) := by decide +kernel
theorem dX12_listAt_0 : decode cX12_listAt 0 = .ok (.iload_n 1, 1) := by decide +kernel
theorem dX12_listAt_1 : decode cX12_listAt 1 = .ok (.bipush 48, 2) := by decide +kernel
theorem dX12_listAt_3 : decode cX12_listAt 3 = .ok (.invokestatic 91, 3) := by decide +kernel
theorem dX12_listAt_6 : decode cX12_listAt 6 = .ok (.ifCond .ne 5, 3) := by decide +kernel
theorem dX12_listAt_9 : decode cX12_listAt 9 = .ok (.aconst_null, 1) := by decide +kernel
theorem dX12_listAt_10 : decode cX12_listAt 10 = .ok (.areturn, 1) := by decide +kernel
theorem dX12_listAt_11 : decode cX12_listAt 11 = .ok (.aload_n 0, 1) := by decide +kernel
theorem dX12_listAt_12 : decode cX12_listAt 12 = .ok (.getfield 19, 3) := by decide +kernel
theorem dX12_listAt_15 : decode cX12_listAt 15 = .ok (.iload_n 1, 1) := by decide +kernel
theorem dX12_listAt_16 : decode cX12_listAt 16 = .ok (.aaload, 1) := by decide +kernel
theorem dX12_listAt_17 : decode cX12_listAt 17 = .ok (.ifnonnull 16, 3) := by decide +kernel
theorem dX12_listAt_20 : decode cX12_listAt 20 = .ok (.aload_n 0, 1) := by decide +kernel
theorem dX12_listAt_21 : decode cX12_listAt 21 = .ok (.getfield 19, 3) := by decide +kernel
theorem dX12_listAt_24 : decode cX12_listAt 24 = .ok (.iload_n 1, 1) := by decide +kernel
theorem dX12_listAt_25 : decode cX12_listAt 25 = .ok (.new 17, 3) := by decide +kernel
theorem dX12_listAt_28 : decode cX12_listAt 28 = .ok (.dup, 1) := by decide +kernel
theorem dX12_listAt_29 : decode cX12_listAt 29 = .ok (.invokespecial 23, 3) := by decide +kernel
theorem dX12_listAt_32 : decode cX12_listAt 32 = .ok (.aastore, 1) := by decide +kernel
theorem dX12_listAt_33 : decode cX12_listAt 33 = .ok (.aload_n 0, 1) := by decide +kernel
theorem dX12_listAt_34 : decode cX12_listAt 34 = .ok (.getfield 19, 3) := by decide +kernel
theorem dX12_listAt_37 : decode cX12_listAt 37 = .ok (.iload_n 1, 1) := by decide +kernel
theorem dX12_listAt_38 : decode cX12_listAt 38 = .ok (.aaload, 1) := by decide +kernel
theorem dX12_listAt_39 : decode cX12_listAt 39 = .ok (.areturn, 1) := by decide +kernel
theorem dX12_walkElsewhere_0 : decode cX12_walkElsewhere 0 = .ok (.aload_n 0, 1) := by decide +kernel
theorem dX12_walkElsewhere_1 : decode cX12_walkElsewhere 1 = .ok (.getfield 65, 3) := by decide +kernel
theorem dX12_walkElsewhere_4 : decode cX12_walkElsewhere 4 = .ok (.bipush 8, 2) := by decide +kernel
theorem dX12_walkElsewhere_6 : decode cX12_walkElsewhere 6 = .ok (.if_icmp .ge 20, 3) := by decide +kernel
theorem dX12_walkElsewhere_9 : decode cX12_walkElsewhere 9 = .ok (.aload_n 0, 1) := by decide +kernel
theorem dX12_walkElsewhere_10 : decode cX12_walkElsewhere 10 = .ok (.getfield 61, 3) := by decide +kernel
theorem dX12_walkElsewhere_13 : decode cX12_walkElsewhere 13 = .ok (.iconst 1, 1) := by decide +kernel
theorem dX12_walkElsewhere_14 : decode cX12_walkElsewhere 14 = .ok (.isub, 1) := by decide +kernel
theorem dX12_walkElsewhere_15 : decode cX12_walkElsewhere 15 = .ok (.aload_n 0, 1) := by decide +kernel
theorem dX12_walkElsewhere_16 : decode cX12_walkElsewhere 16 = .ok (.getfield 13, 3) := by decide +kernel
theorem dX12_walkElsewhere_19 : decode cX12_walkElsewhere 19 = .ok (.arraylength, 1) := by decide +kernel
theorem dX12_walkElsewhere_20 : decode cX12_walkElsewhere 20 = .ok (.invokestatic 91, 3) := by decide +kernel
theorem dX12_walkElsewhere_23 : decode cX12_walkElsewhere 23 = .ok (.ifCond .ne 14, 3) := by decide +kernel
theorem dX12_walkElsewhere_26 : decode cX12_walkElsewhere 26 = .ok (.aload_n 0, 1) := by decide +kernel
theorem dX12_walkElsewhere_27 : decode cX12_walkElsewhere 27 = .ok (.aload_n 1, 1) := by decide +kernel
theorem dX12_walkElsewhere_28 : decode cX12_walkElsewhere 28 = .ok (.getfield 151, 3) := by decide +kernel
theorem dX12_walkElsewhere_31 : decode cX12_walkElsewhere 31 = .ok (.bipush 7, 2) := by decide +kernel
theorem dX12_walkElsewhere_33 : decode cX12_walkElsewhere 33 = .ok (.invokevirtual 95, 3) := by decide +kernel
theorem dX12_walkElsewhere_36 : decode cX12_walkElsewhere 36 = .ok (.return_, 1) := by decide +kernel
theorem dX12_walkElsewhere_37 : decode cX12_walkElsewhere 37 = .ok (.aload_n 0, 1) := by decide +kernel
theorem dX12_walkElsewhere_38 : decode cX12_walkElsewhere 38 = .ok (.getfield 13, 3) := by decide +kernel
theorem dX12_walkElsewhere_41 : decode cX12_walkElsewhere 41 = .ok (.aload_n 0, 1) := by decide +kernel
theorem dX12_walkElsewhere_42 : decode cX12_walkElsewhere 42 = .ok (.getfield 61, 3) := by decide +kernel
theorem dX12_walkElsewhere_45 : decode cX12_walkElsewhere 45 = .ok (.iconst 1, 1) := by decide +kernel
theorem dX12_walkElsewhere_46 : decode cX12_walkElsewhere 46 = .ok (.isub, 1) := by decide +kernel
theorem dX12_walkElsewhere_47 : decode cX12_walkElsewhere 47 = .ok (.aaload, 1) := by decide +kernel
theorem dX12_walkElsewhere_48 : decode cX12_walkElsewhere 48 = .ok (.astore_n 3, 1) := by decide +kernel
theorem dX12_walkElsewhere_49 : decode cX12_walkElsewhere 49 = .ok (.aload_n 0, 1) := by decide +kernel
theorem dX12_walkElsewhere_50 : decode cX12_walkElsewhere 50 = .ok (.aload_n 0, 1) := by decide +kernel
theorem dX12_walkElsewhere_51 : decode cX12_walkElsewhere 51 = .ok (.getfield 65, 3) := by decide +kernel
theorem dX12_walkElsewhere_54 : decode cX12_walkElsewhere 54 = .ok (.iconst 1, 1) := by decide +kernel
theorem dX12_walkElsewhere_55 : decode cX12_walkElsewhere 55 = .ok (.iadd, 1) := by decide +kernel
theorem dX12_walkElsewhere_56 : decode cX12_walkElsewhere 56 = .ok (.putfield 65, 3) := by decide +kernel
theorem dX12_walkElsewhere_59 : decode cX12_walkElsewhere 59 = .ok (.aload_n 1, 1) := by decide +kernel
theorem dX12_walkElsewhere_60 : decode cX12_walkElsewhere 60 = .ok (.getfield 145, 3) := by decide +kernel
theorem dX12_walkElsewhere_63 : decode cX12_walkElsewhere 63 = .ok (.bipush 6, 2) := by decide +kernel
theorem dX12_walkElsewhere_65 : decode cX12_walkElsewhere 65 = .ok (.if_icmp .ne 25, 3) := by decide +kernel
theorem dX12_walkElsewhere_68 : decode cX12_walkElsewhere 68 = .ok (.aload_n 3, 1) := by decide +kernel
theorem dX12_walkElsewhere_69 : decode cX12_walkElsewhere 69 = .ok (.aload_n 1, 1) := by decide +kernel
theorem dX12_walkElsewhere_70 : decode cX12_walkElsewhere 70 = .ok (.getfield 151, 3) := by decide +kernel
theorem dX12_walkElsewhere_73 : decode cX12_walkElsewhere 73 = .ok (.putfield 84, 3) := by decide +kernel
theorem dX12_walkElsewhere_76 : decode cX12_walkElsewhere 76 = .ok (.aload_n 0, 1) := by decide +kernel
theorem dX12_walkElsewhere_77 : decode cX12_walkElsewhere 77 = .ok (.aload_n 1, 1) := by decide +kernel
theorem dX12_walkElsewhere_78 : decode cX12_walkElsewhere 78 = .ok (.getfield 148, 3) := by decide +kernel
theorem dX12_walkElsewhere_81 : decode cX12_walkElsewhere 81 = .ok (.iload_n 2, 1) := by decide +kernel
theorem dX12_walkElsewhere_82 : decode cX12_walkElsewhere 82 = .ok (.iconst 1, 1) := by decide +kernel
theorem dX12_walkElsewhere_83 : decode cX12_walkElsewhere 83 = .ok (.iadd, 1) := by decide +kernel
theorem dX12_walkElsewhere_84 : decode cX12_walkElsewhere 84 = .ok (.invokevirtual 221, 3) := by decide +kernel
theorem dX12_walkElsewhere_87 : decode cX12_walkElsewhere 87 = .ok (.goto 35, 3) := by decide +kernel
theorem dX12_walkElsewhere_90 : decode cX12_walkElsewhere 90 = .ok (.aload_n 1, 1) := by decide +kernel
theorem dX12_walkElsewhere_91 : decode cX12_walkElsewhere 91 = .ok (.getfield 145, 3) := by decide +kernel
theorem dX12_walkElsewhere_94 : decode cX12_walkElsewhere 94 = .ok (.iconst 4, 1) := by decide +kernel
theorem dX12_walkElsewhere_95 : decode cX12_walkElsewhere 95 = .ok (.if_icmp .ne 14, 3) := by decide +kernel
theorem dX12_walkElsewhere_98 : decode cX12_walkElsewhere 98 = .ok (.aload_n 0, 1) := by decide +kernel
theorem dX12_walkElsewhere_99 : decode cX12_walkElsewhere 99 = .ok (.aload_n 3, 1) := by decide +kernel
theorem dX12_walkElsewhere_100 : decode cX12_walkElsewhere 100 = .ok (.aload_n 1, 1) := by decide +kernel
theorem dX12_walkElsewhere_101 : decode cX12_walkElsewhere 101 = .ok (.iconst 0, 1) := by decide +kernel
theorem dX12_walkElsewhere_102 : decode cX12_walkElsewhere 102 = .ok (.iload_n 2, 1) := by decide +kernel
theorem dX12_walkElsewhere_103 : decode cX12_walkElsewhere 103 = .ok (.invokevirtual 224, 3) := by decide +kernel
theorem dX12_walkElsewhere_106 : decode cX12_walkElsewhere 106 = .ok (.goto 16, 3) := by decide +kernel
theorem dX12_walkElsewhere_109 : decode cX12_walkElsewhere 109 = .ok (.aload_n 0, 1) := by decide +kernel
theorem dX12_walkElsewhere_110 : decode cX12_walkElsewhere 110 = .ok (.aload_n 3, 1) := by decide +kernel
theorem dX12_walkElsewhere_111 : decode cX12_walkElsewhere 111 = .ok (.aload_n 1, 1) := by decide +kernel
theorem dX12_walkElsewhere_112 : decode cX12_walkElsewhere 112 = .ok (.aload_n 3, 1) := by decide +kernel
theorem dX12_walkElsewhere_113 : decode cX12_walkElsewhere 113 = .ok (.getfield 113, 3) := by decide +kernel
theorem dX12_walkElsewhere_116 : decode cX12_walkElsewhere 116 = .ok (.iconst 1, 1) := by decide +kernel
theorem dX12_walkElsewhere_117 : decode cX12_walkElsewhere 117 = .ok (.iadd, 1) := by decide +kernel
theorem dX12_walkElsewhere_118 : decode cX12_walkElsewhere 118 = .ok (.iload_n 2, 1) := by decide +kernel
theorem dX12_walkElsewhere_119 : decode cX12_walkElsewhere 119 = .ok (.invokevirtual 224, 3) := by decide +kernel
theorem dX12_walkElsewhere_122 : decode cX12_walkElsewhere 122 = .ok (.aload_n 0, 1) := by decide +kernel
theorem dX12_walkElsewhere_123 : decode cX12_walkElsewhere 123 = .ok (.aload_n 0, 1) := by decide +kernel
theorem dX12_walkElsewhere_124 : decode cX12_walkElsewhere 124 = .ok (.getfield 65, 3) := by decide +kernel
theorem dX12_walkElsewhere_127 : decode cX12_walkElsewhere 127 = .ok (.iconst 1, 1) := by decide +kernel
theorem dX12_walkElsewhere_128 : decode cX12_walkElsewhere 128 = .ok (.isub, 1) := by decide +kernel
theorem dX12_walkElsewhere_129 : decode cX12_walkElsewhere 129 = .ok (.putfield 65, 3) := by decide +kernel
theorem dX12_walkElsewhere_132 : decode cX12_walkElsewhere 132 = .ok (.return_, 1) := by decide +kernel
theorem dX12_walkBlock_0 : decode cX12_walkBlock 0 = .ok (.aload_n 1, 1) := by decide +kernel
theorem dX12_walkBlock_1 : decode cX12_walkBlock 1 = .ok (.getfield 113, 3) := by decide +kernel
theorem dX12_walkBlock_4 : decode cX12_walkBlock 4 = .ok (.istore 5, 2) := by decide +kernel
theorem dX12_walkBlock_6 : decode cX12_walkBlock 6 = .ok (.aload_n 1, 1) := by decide +kernel
theorem dX12_walkBlock_7 : decode cX12_walkBlock 7 = .ok (.getfield 228, 3) := by decide +kernel
theorem dX12_walkBlock_10 : decode cX12_walkBlock 10 = .ok (.istore 6, 2) := by decide +kernel
theorem dX12_walkBlock_12 : decode cX12_walkBlock 12 = .ok (.aload_n 0, 1) := by decide +kernel
theorem dX12_walkBlock_13 : decode cX12_walkBlock 13 = .ok (.getfield 68, 3) := by decide +kernel
theorem dX12_walkBlock_16 : decode cX12_walkBlock 16 = .ok (.istore 7, 2) := by decide +kernel
theorem dX12_walkBlock_18 : decode cX12_walkBlock 18 = .ok (.aload_n 2, 1) := by decide +kernel
theorem dX12_walkBlock_19 : decode cX12_walkBlock 19 = .ok (.getfield 145, 3) := by decide +kernel
theorem dX12_walkBlock_22 : decode cX12_walkBlock 22 = .ok (.iconst 4, 1) := by decide +kernel
theorem dX12_walkBlock_23 : decode cX12_walkBlock 23 = .ok (.if_icmp .ne 10, 3) := by decide +kernel
theorem dX12_walkBlock_26 : decode cX12_walkBlock 26 = .ok (.aload_n 2, 1) := by decide +kernel
theorem dX12_walkBlock_27 : decode cX12_walkBlock 27 = .ok (.getfield 148, 3) := by decide +kernel
theorem dX12_walkBlock_30 : decode cX12_walkBlock 30 = .ok (.goto 5, 3) := by decide +kernel
theorem dX12_walkBlock_33 : decode cX12_walkBlock 33 = .ok (.iload 6, 2) := by decide +kernel
theorem dX12_walkBlock_35 : decode cX12_walkBlock 35 = .ok (.istore 8, 2) := by decide +kernel
theorem dX12_walkBlock_37 : decode cX12_walkBlock 37 = .ok (.aconst_null, 1) := by decide +kernel
theorem dX12_walkBlock_38 : decode cX12_walkBlock 38 = .ok (.astore 9, 2) := by decide +kernel
theorem dX12_walkBlock_40 : decode cX12_walkBlock 40 = .ok (.iload_n 3, 1) := by decide +kernel
theorem dX12_walkBlock_41 : decode cX12_walkBlock 41 = .ok (.istore 10, 2) := by decide +kernel
theorem dX12_walkBlock_43 : decode cX12_walkBlock 43 = .ok (.iload 10, 2) := by decide +kernel
theorem dX12_walkBlock_45 : decode cX12_walkBlock 45 = .ok (.aload_n 1, 1) := by decide +kernel
theorem dX12_walkBlock_46 : decode cX12_walkBlock 46 = .ok (.getfield 231, 3) := by decide +kernel
theorem dX12_walkBlock_49 : decode cX12_walkBlock 49 = .ok (.if_icmp .ge 58, 3) := by decide +kernel
theorem dX12_walkBlock_52 : decode cX12_walkBlock 52 = .ok (.aload 9, 2) := by decide +kernel
theorem dX12_walkBlock_54 : decode cX12_walkBlock 54 = .ok (.ifnonnull 53, 3) := by decide +kernel
theorem dX12_walkBlock_57 : decode cX12_walkBlock 57 = .ok (.aload_n 0, 1) := by decide +kernel
theorem dX12_walkBlock_58 : decode cX12_walkBlock 58 = .ok (.getfield 50, 3) := by decide +kernel
theorem dX12_walkBlock_61 : decode cX12_walkBlock 61 = .ok (.aload_n 1, 1) := by decide +kernel
theorem dX12_walkBlock_62 : decode cX12_walkBlock 62 = .ok (.iload 10, 2) := by decide +kernel
theorem dX12_walkBlock_64 : decode cX12_walkBlock 64 = .ok (.invokevirtual 232, 3) := by decide +kernel
theorem dX12_walkBlock_67 : decode cX12_walkBlock 67 = .ok (.invokevirtual 122, 3) := by decide +kernel
theorem dX12_walkBlock_70 : decode cX12_walkBlock 70 = .ok (.astore 11, 2) := by decide +kernel
theorem dX12_walkBlock_72 : decode cX12_walkBlock 72 = .ok (.aload 11, 2) := by decide +kernel
theorem dX12_walkBlock_74 : decode cX12_walkBlock 74 = .ok (.ifnonnull 7, 3) := by decide +kernel
theorem dX12_walkBlock_77 : decode cX12_walkBlock 77 = .ok (.aconst_null, 1) := by decide +kernel
theorem dX12_walkBlock_78 : decode cX12_walkBlock 78 = .ok (.goto 10, 3) := by decide +kernel
theorem dX12_walkBlock_81 : decode cX12_walkBlock 81 = .ok (.aload 11, 2) := by decide +kernel
theorem dX12_walkBlock_83 : decode cX12_walkBlock 83 = .ok (.iload 8, 2) := by decide +kernel
theorem dX12_walkBlock_85 : decode cX12_walkBlock 85 = .ok (.invokevirtual 233, 3) := by decide +kernel
theorem dX12_walkBlock_88 : decode cX12_walkBlock 88 = .ok (.astore 9, 2) := by decide +kernel
theorem dX12_walkBlock_90 : decode cX12_walkBlock 90 = .ok (.aload 9, 2) := by decide +kernel
theorem dX12_walkBlock_92 : decode cX12_walkBlock 92 = .ok (.ifnull 9, 3) := by decide +kernel
theorem dX12_walkBlock_95 : decode cX12_walkBlock 95 = .ok (.aload_n 1, 1) := by decide +kernel
theorem dX12_walkBlock_96 : decode cX12_walkBlock 96 = .ok (.iload 10, 2) := by decide +kernel
theorem dX12_walkBlock_98 : decode cX12_walkBlock 98 = .ok (.putfield 113, 3) := by decide +kernel
theorem dX12_walkBlock_101 : decode cX12_walkBlock 101 = .ok (.iinc 10 1, 3) := by decide +kernel
theorem dX12_walkBlock_104 : decode cX12_walkBlock 104 = .ok (.goto (-61), 3) := by decide +kernel
theorem dX12_walkBlock_107 : decode cX12_walkBlock 107 = .ok (.aload 9, 2) := by decide +kernel
theorem dX12_walkBlock_109 : decode cX12_walkBlock 109 = .ok (.ifnonnull 14, 3) := by decide +kernel
theorem dX12_walkBlock_112 : decode cX12_walkBlock 112 = .ok (.aload_n 0, 1) := by decide +kernel
theorem dX12_walkBlock_113 : decode cX12_walkBlock 113 = .ok (.aload_n 2, 1) := by decide +kernel
theorem dX12_walkBlock_114 : decode cX12_walkBlock 114 = .ok (.getfield 151, 3) := by decide +kernel
theorem dX12_walkBlock_117 : decode cX12_walkBlock 117 = .ok (.bipush 8, 2) := by decide +kernel
theorem dX12_walkBlock_119 : decode cX12_walkBlock 119 = .ok (.invokevirtual 95, 3) := by decide +kernel
theorem dX12_walkBlock_122 : decode cX12_walkBlock 122 = .ok (.return_, 1) := by decide +kernel
theorem dX12_walkBlock_123 : decode cX12_walkBlock 123 = .ok (.aload_n 1, 1) := by decide +kernel
theorem dX12_walkBlock_124 : decode cX12_walkBlock 124 = .ok (.iload 8, 2) := by decide +kernel
theorem dX12_walkBlock_126 : decode cX12_walkBlock 126 = .ok (.putfield 228, 3) := by decide +kernel
theorem dX12_walkBlock_129 : decode cX12_walkBlock 129 = .ok (.aload_n 0, 1) := by decide +kernel
theorem dX12_walkBlock_130 : decode cX12_walkBlock 130 = .ok (.aload 9, 2) := by decide +kernel
theorem dX12_walkBlock_132 : decode cX12_walkBlock 132 = .ok (.getfield 183, 3) := by decide +kernel
theorem dX12_walkBlock_135 : decode cX12_walkBlock 135 = .ok (.iload 4, 2) := by decide +kernel
theorem dX12_walkBlock_137 : decode cX12_walkBlock 137 = .ok (.iconst 1, 1) := by decide +kernel
theorem dX12_walkBlock_138 : decode cX12_walkBlock 138 = .ok (.iadd, 1) := by decide +kernel
theorem dX12_walkBlock_139 : decode cX12_walkBlock 139 = .ok (.invokevirtual 109, 3) := by decide +kernel
theorem dX12_walkBlock_142 : decode cX12_walkBlock 142 = .ok (.aload_n 1, 1) := by decide +kernel
theorem dX12_walkBlock_143 : decode cX12_walkBlock 143 = .ok (.iload 5, 2) := by decide +kernel
theorem dX12_walkBlock_145 : decode cX12_walkBlock 145 = .ok (.putfield 113, 3) := by decide +kernel
theorem dX12_walkBlock_148 : decode cX12_walkBlock 148 = .ok (.aload_n 1, 1) := by decide +kernel
theorem dX12_walkBlock_149 : decode cX12_walkBlock 149 = .ok (.iload 6, 2) := by decide +kernel
theorem dX12_walkBlock_151 : decode cX12_walkBlock 151 = .ok (.putfield 228, 3) := by decide +kernel
theorem dX12_walkBlock_154 : decode cX12_walkBlock 154 = .ok (.aload_n 0, 1) := by decide +kernel
theorem dX12_walkBlock_155 : decode cX12_walkBlock 155 = .ok (.getfield 68, 3) := by decide +kernel
theorem dX12_walkBlock_158 : decode cX12_walkBlock 158 = .ok (.iload 7, 2) := by decide +kernel
theorem dX12_walkBlock_160 : decode cX12_walkBlock 160 = .ok (.if_icmp .eq 12, 3) := by decide +kernel
theorem dX12_walkBlock_163 : decode cX12_walkBlock 163 = .ok (.aload_n 0, 1) := by decide +kernel
theorem dX12_walkBlock_164 : decode cX12_walkBlock 164 = .ok (.aload_n 2, 1) := by decide +kernel
theorem dX12_walkBlock_165 : decode cX12_walkBlock 165 = .ok (.getfield 151, 3) := by decide +kernel
theorem dX12_walkBlock_168 : decode cX12_walkBlock 168 = .ok (.iconst 3, 1) := by decide +kernel
theorem dX12_walkBlock_169 : decode cX12_walkBlock 169 = .ok (.invokevirtual 95, 3) := by decide +kernel
theorem dX12_walkBlock_172 : decode cX12_walkBlock 172 = .ok (.return_, 1) := by decide +kernel
theorem dX12_tellName_0 : decode cX12_tellName 0 = .ok (.aload_n 0, 1) := by decide +kernel
theorem dX12_tellName_1 : decode cX12_tellName 1 = .ok (.aload_n 1, 1) := by decide +kernel
theorem dX12_tellName_2 : decode cX12_tellName 2 = .ok (.getfield 197, 3) := by decide +kernel
theorem dX12_tellName_5 : decode cX12_tellName 5 = .ok (.aload_n 0, 1) := by decide +kernel
theorem dX12_tellName_6 : decode cX12_tellName 6 = .ok (.getfield 24, 3) := by decide +kernel
theorem dX12_tellName_9 : decode cX12_tellName 9 = .ok (.aload_n 1, 1) := by decide +kernel
theorem dX12_tellName_10 : decode cX12_tellName 10 = .ok (.getfield 151, 3) := by decide +kernel
theorem dX12_tellName_13 : decode cX12_tellName 13 = .ok (.invokevirtual 200, 3) := by decide +kernel
theorem dX12_tellName_16 : decode cX12_tellName 16 = .ok (.aload_n 0, 1) := by decide +kernel
theorem dX12_tellName_17 : decode cX12_tellName 17 = .ok (.getfield 81, 3) := by decide +kernel
theorem dX12_tellName_20 : decode cX12_tellName 20 = .ok (.ifCond .ne 15, 3) := by decide +kernel
theorem dX12_tellName_23 : decode cX12_tellName 23 = .ok (.aload_n 0, 1) := by decide +kernel
theorem dX12_tellName_24 : decode cX12_tellName 24 = .ok (.aload_n 1, 1) := by decide +kernel
theorem dX12_tellName_25 : decode cX12_tellName 25 = .ok (.getfield 148, 3) := by decide +kernel
theorem dX12_tellName_28 : decode cX12_tellName 28 = .ok (.aload_n 0, 1) := by decide +kernel
theorem dX12_tellName_29 : decode cX12_tellName 29 = .ok (.getfield 24, 3) := by decide +kernel
theorem dX12_tellName_32 : decode cX12_tellName 32 = .ok (.invokevirtual 217, 3) := by decide +kernel
theorem dX12_tellName_35 : decode cX12_tellName 35 = .ok (.return_, 1) := by decide +kernel
theorem dX12_giveName_0 : decode cX12_giveName 0 = .ok (.aload_n 0, 1) := by decide +kernel
theorem dX12_giveName_1 : decode cX12_giveName 1 = .ok (.getfield 50, 3) := by decide +kernel
theorem dX12_giveName_4 : decode cX12_giveName 4 = .ok (.iload_n 1, 1) := by decide +kernel
theorem dX12_giveName_5 : decode cX12_giveName 5 = .ok (.invokevirtual 237, 3) := by decide +kernel
theorem dX12_giveName_8 : decode cX12_giveName 8 = .ok (.astore_n 3, 1) := by decide +kernel
theorem dX12_giveName_9 : decode cX12_giveName 9 = .ok (.aload_n 3, 1) := by decide +kernel
theorem dX12_giveName_10 : decode cX12_giveName 10 = .ok (.ifnull 16, 3) := by decide +kernel
theorem dX12_giveName_13 : decode cX12_giveName 13 = .ok (.aload_n 0, 1) := by decide +kernel
theorem dX12_giveName_14 : decode cX12_giveName 14 = .ok (.getfield 131, 3) := by decide +kernel
theorem dX12_giveName_17 : decode cX12_giveName 17 = .ok (.sipush 348, 3) := by decide +kernel
theorem dX12_giveName_20 : decode cX12_giveName 20 = .ok (.invokestatic 91, 3) := by decide +kernel
theorem dX12_giveName_23 : decode cX12_giveName 23 = .ok (.ifCond .ne 4, 3) := by decide +kernel
theorem dX12_giveName_26 : decode cX12_giveName 26 = .ok (.return_, 1) := by decide +kernel
theorem dX12_giveName_27 : decode cX12_giveName 27 = .ok (.aload_n 0, 1) := by decide +kernel
theorem dX12_giveName_28 : decode cX12_giveName 28 = .ok (.getfield 43, 3) := by decide +kernel
theorem dX12_giveName_31 : decode cX12_giveName 31 = .ok (.aload_n 0, 1) := by decide +kernel
theorem dX12_giveName_32 : decode cX12_giveName 32 = .ok (.getfield 131, 3) := by decide +kernel
theorem dX12_giveName_35 : decode cX12_giveName 35 = .ok (.aaload, 1) := by decide +kernel
theorem dX12_giveName_36 : decode cX12_giveName 36 = .ok (.ifnonnull 19, 3) := by decide +kernel
theorem dX12_giveName_39 : decode cX12_giveName 39 = .ok (.aload_n 0, 1) := by decide +kernel
theorem dX12_giveName_40 : decode cX12_giveName 40 = .ok (.getfield 43, 3) := by decide +kernel
theorem dX12_giveName_43 : decode cX12_giveName 43 = .ok (.aload_n 0, 1) := by decide +kernel
theorem dX12_giveName_44 : decode cX12_giveName 44 = .ok (.getfield 131, 3) := by decide +kernel
theorem dX12_giveName_47 : decode cX12_giveName 47 = .ok (.new 17, 3) := by decide +kernel
theorem dX12_giveName_50 : decode cX12_giveName 50 = .ok (.dup, 1) := by decide +kernel
theorem dX12_giveName_51 : decode cX12_giveName 51 = .ok (.invokespecial 23, 3) := by decide +kernel
theorem dX12_giveName_54 : decode cX12_giveName 54 = .ok (.aastore, 1) := by decide +kernel
theorem dX12_giveName_55 : decode cX12_giveName 55 = .ok (.aload_n 0, 1) := by decide +kernel
theorem dX12_giveName_56 : decode cX12_giveName 56 = .ok (.getfield 43, 3) := by decide +kernel
theorem dX12_giveName_59 : decode cX12_giveName 59 = .ok (.aload_n 0, 1) := by decide +kernel
theorem dX12_giveName_60 : decode cX12_giveName 60 = .ok (.getfield 131, 3) := by decide +kernel
theorem dX12_giveName_63 : decode cX12_giveName 63 = .ok (.aaload, 1) := by decide +kernel
theorem dX12_giveName_64 : decode cX12_giveName 64 = .ok (.aload_n 3, 1) := by decide +kernel
theorem dX12_giveName_65 : decode cX12_giveName 65 = .ok (.invokevirtual 240, 3) := by decide +kernel
theorem dX12_giveName_68 : decode cX12_giveName 68 = .ok (.aload_n 0, 1) := by decide +kernel
theorem dX12_giveName_69 : decode cX12_giveName 69 = .ok (.getfield 46, 3) := by decide +kernel
theorem dX12_giveName_72 : decode cX12_giveName 72 = .ok (.aload_n 0, 1) := by decide +kernel
theorem dX12_giveName_73 : decode cX12_giveName 73 = .ok (.getfield 131, 3) := by decide +kernel
theorem dX12_giveName_76 : decode cX12_giveName 76 = .ok (.iload_n 1, 1) := by decide +kernel
theorem dX12_giveName_77 : decode cX12_giveName 77 = .ok (.iastore, 1) := by decide +kernel
theorem dX12_giveName_78 : decode cX12_giveName 78 = .ok (.aload_n 0, 1) := by decide +kernel
theorem dX12_giveName_79 : decode cX12_giveName 79 = .ok (.aload_n 0, 1) := by decide +kernel
theorem dX12_giveName_80 : decode cX12_giveName 80 = .ok (.getfield 131, 3) := by decide +kernel
theorem dX12_giveName_83 : decode cX12_giveName 83 = .ok (.iconst 1, 1) := by decide +kernel
theorem dX12_giveName_84 : decode cX12_giveName 84 = .ok (.iadd, 1) := by decide +kernel
theorem dX12_giveName_85 : decode cX12_giveName 85 = .ok (.putfield 131, 3) := by decide +kernel
theorem dX12_giveName_88 : decode cX12_giveName 88 = .ok (.aload_n 3, 1) := by decide +kernel
theorem dX12_giveName_89 : decode cX12_giveName 89 = .ok (.aload_n 2, 1) := by decide +kernel
theorem dX12_giveName_90 : decode cX12_giveName 90 = .ok (.invokevirtual 240, 3) := by decide +kernel
theorem dX12_giveName_93 : decode cX12_giveName 93 = .ok (.return_, 1) := by decide +kernel
theorem dX12_giveBack_0 : decode cX12_giveBack 0 = .ok (.aload_n 0, 1) := by decide +kernel
theorem dX12_giveBack_1 : decode cX12_giveBack 1 = .ok (.getfield 131, 3) := by decide +kernel
theorem dX12_giveBack_4 : decode cX12_giveBack 4 = .ok (.iconst 1, 1) := by decide +kernel
theorem dX12_giveBack_5 : decode cX12_giveBack 5 = .ok (.isub, 1) := by decide +kernel
theorem dX12_giveBack_6 : decode cX12_giveBack 6 = .ok (.istore_n 2, 1) := by decide +kernel
theorem dX12_giveBack_7 : decode cX12_giveBack 7 = .ok (.iload_n 2, 1) := by decide +kernel
theorem dX12_giveBack_8 : decode cX12_giveBack 8 = .ok (.iload_n 1, 1) := by decide +kernel
theorem dX12_giveBack_9 : decode cX12_giveBack 9 = .ok (.if_icmp .lt 56, 3) := by decide +kernel
theorem dX12_giveBack_12 : decode cX12_giveBack 12 = .ok (.iload_n 2, 1) := by decide +kernel
theorem dX12_giveBack_13 : decode cX12_giveBack 13 = .ok (.sipush 348, 3) := by decide +kernel
theorem dX12_giveBack_16 : decode cX12_giveBack 16 = .ok (.invokestatic 91, 3) := by decide +kernel
theorem dX12_giveBack_19 : decode cX12_giveBack 19 = .ok (.ifCond .eq 46, 3) := by decide +kernel
theorem dX12_giveBack_22 : decode cX12_giveBack 22 = .ok (.aload_n 0, 1) := by decide +kernel
theorem dX12_giveBack_23 : decode cX12_giveBack 23 = .ok (.getfield 50, 3) := by decide +kernel
theorem dX12_giveBack_26 : decode cX12_giveBack 26 = .ok (.aload_n 0, 1) := by decide +kernel
theorem dX12_giveBack_27 : decode cX12_giveBack 27 = .ok (.getfield 46, 3) := by decide +kernel
theorem dX12_giveBack_30 : decode cX12_giveBack 30 = .ok (.iload_n 2, 1) := by decide +kernel
theorem dX12_giveBack_31 : decode cX12_giveBack 31 = .ok (.iaload, 1) := by decide +kernel
theorem dX12_giveBack_32 : decode cX12_giveBack 32 = .ok (.invokevirtual 237, 3) := by decide +kernel
theorem dX12_giveBack_35 : decode cX12_giveBack 35 = .ok (.astore_n 3, 1) := by decide +kernel
theorem dX12_giveBack_36 : decode cX12_giveBack 36 = .ok (.aload_n 3, 1) := by decide +kernel
theorem dX12_giveBack_37 : decode cX12_giveBack 37 = .ok (.ifnull 22, 3) := by decide +kernel
theorem dX12_giveBack_40 : decode cX12_giveBack 40 = .ok (.aload_n 0, 1) := by decide +kernel
theorem dX12_giveBack_41 : decode cX12_giveBack 41 = .ok (.getfield 43, 3) := by decide +kernel
theorem dX12_giveBack_44 : decode cX12_giveBack 44 = .ok (.iload_n 2, 1) := by decide +kernel
theorem dX12_giveBack_45 : decode cX12_giveBack 45 = .ok (.aaload, 1) := by decide +kernel
theorem dX12_giveBack_46 : decode cX12_giveBack 46 = .ok (.ifnull 13, 3) := by decide +kernel
theorem dX12_giveBack_49 : decode cX12_giveBack 49 = .ok (.aload_n 3, 1) := by decide +kernel
theorem dX12_giveBack_50 : decode cX12_giveBack 50 = .ok (.aload_n 0, 1) := by decide +kernel
theorem dX12_giveBack_51 : decode cX12_giveBack 51 = .ok (.getfield 43, 3) := by decide +kernel
theorem dX12_giveBack_54 : decode cX12_giveBack 54 = .ok (.iload_n 2, 1) := by decide +kernel
theorem dX12_giveBack_55 : decode cX12_giveBack 55 = .ok (.aaload, 1) := by decide +kernel
theorem dX12_giveBack_56 : decode cX12_giveBack 56 = .ok (.invokevirtual 240, 3) := by decide +kernel
theorem dX12_giveBack_59 : decode cX12_giveBack 59 = .ok (.iinc 2 (-1), 3) := by decide +kernel
theorem dX12_giveBack_62 : decode cX12_giveBack 62 = .ok (.goto (-55), 3) := by decide +kernel
theorem dX12_giveBack_65 : decode cX12_giveBack 65 = .ok (.aload_n 0, 1) := by decide +kernel
theorem dX12_giveBack_66 : decode cX12_giveBack 66 = .ok (.iload_n 1, 1) := by decide +kernel
theorem dX12_giveBack_67 : decode cX12_giveBack 67 = .ok (.putfield 131, 3) := by decide +kernel
theorem dX12_giveBack_70 : decode cX12_giveBack 70 = .ok (.return_, 1) := by decide +kernel
theorem dX12_workOut_0 : decode cX12_workOut 0 = .ok (.aload_n 1, 1) := by decide +kernel
theorem dX12_workOut_1 : decode cX12_workOut 1 = .ok (.ifnonnull 4, 3) := by decide +kernel
theorem dX12_workOut_4 : decode cX12_workOut 4 = .ok (.return_, 1) := by decide +kernel
theorem dX12_workOut_5 : decode cX12_workOut 5 = .ok (.aload_n 1, 1) := by decide +kernel
theorem dX12_workOut_6 : decode cX12_workOut 6 = .ok (.getfield 244, 3) := by decide +kernel
theorem dX12_workOut_9 : decode cX12_workOut 9 = .ok (.iconst 2, 1) := by decide +kernel
theorem dX12_workOut_10 : decode cX12_workOut 10 = .ok (.if_icmp .ne 18, 3) := by decide +kernel
theorem dX12_workOut_13 : decode cX12_workOut 13 = .ok (.aload_n 0, 1) := by decide +kernel
theorem dX12_workOut_14 : decode cX12_workOut 14 = .ok (.getfield 74, 3) := by decide +kernel
theorem dX12_workOut_17 : decode cX12_workOut 17 = .ok (.ifCond .ge 11, 3) := by decide +kernel
theorem dX12_workOut_20 : decode cX12_workOut 20 = .ok (.aload_n 0, 1) := by decide +kernel
theorem dX12_workOut_21 : decode cX12_workOut 21 = .ok (.iload_n 3, 1) := by decide +kernel
theorem dX12_workOut_22 : decode cX12_workOut 22 = .ok (.bipush 9, 2) := by decide +kernel
theorem dX12_workOut_24 : decode cX12_workOut 24 = .ok (.invokevirtual 95, 3) := by decide +kernel
theorem dX12_workOut_27 : decode cX12_workOut 27 = .ok (.return_, 1) := by decide +kernel
theorem dX12_workOut_28 : decode cX12_workOut 28 = .ok (.aload_n 1, 1) := by decide +kernel
theorem dX12_workOut_29 : decode cX12_workOut 29 = .ok (.getfield 244, 3) := by decide +kernel
theorem dX12_workOut_32 : decode cX12_workOut 32 = .ok (.iconst 1, 1) := by decide +kernel
theorem dX12_workOut_33 : decode cX12_workOut 33 = .ok (.if_icmp .ne 17, 3) := by decide +kernel
theorem dX12_workOut_36 : decode cX12_workOut 36 = .ok (.aload_n 0, 1) := by decide +kernel
theorem dX12_workOut_37 : decode cX12_workOut 37 = .ok (.getfield 50, 3) := by decide +kernel
theorem dX12_workOut_40 : decode cX12_workOut 40 = .ok (.aload_n 1, 1) := by decide +kernel
theorem dX12_workOut_41 : decode cX12_workOut 41 = .ok (.getfield 247, 3) := by decide +kernel
theorem dX12_workOut_44 : decode cX12_workOut 44 = .ok (.invokevirtual 237, 3) := by decide +kernel
theorem dX12_workOut_47 : decode cX12_workOut 47 = .ok (.goto 7, 3) := by decide +kernel
theorem dX12_workOut_50 : decode cX12_workOut 50 = .ok (.aload_n 1, 1) := by decide +kernel
theorem dX12_workOut_51 : decode cX12_workOut 51 = .ok (.getfield 249, 3) := by decide +kernel
theorem dX12_workOut_54 : decode cX12_workOut 54 = .ok (.astore 4, 2) := by decide +kernel
theorem dX12_workOut_56 : decode cX12_workOut 56 = .ok (.aload_n 1, 1) := by decide +kernel
theorem dX12_workOut_57 : decode cX12_workOut 57 = .ok (.getfield 244, 3) := by decide +kernel
theorem dX12_workOut_60 : decode cX12_workOut 60 = .ok (.iconst 2, 1) := by decide +kernel
theorem dX12_workOut_61 : decode cX12_workOut 61 = .ok (.if_icmp .ne 14, 3) := by decide +kernel
theorem dX12_workOut_64 : decode cX12_workOut 64 = .ok (.aload_n 2, 1) := by decide +kernel
theorem dX12_workOut_65 : decode cX12_workOut 65 = .ok (.aload_n 0, 1) := by decide +kernel
theorem dX12_workOut_66 : decode cX12_workOut 66 = .ok (.getfield 74, 3) := by decide +kernel
theorem dX12_workOut_69 : decode cX12_workOut 69 = .ok (.invokevirtual 214, 3) := by decide +kernel
theorem dX12_workOut_72 : decode cX12_workOut 72 = .ok (.goto 14, 3) := by decide +kernel
theorem dX12_workOut_75 : decode cX12_workOut 75 = .ok (.aload 4, 2) := by decide +kernel
theorem dX12_workOut_77 : decode cX12_workOut 77 = .ok (.ifnull 9, 3) := by decide +kernel
theorem dX12_workOut_80 : decode cX12_workOut 80 = .ok (.aload_n 2, 1) := by decide +kernel
theorem dX12_workOut_81 : decode cX12_workOut 81 = .ok (.aload 4, 2) := by decide +kernel
theorem dX12_workOut_83 : decode cX12_workOut 83 = .ok (.invokevirtual 240, 3) := by decide +kernel
theorem dX12_workOut_86 : decode cX12_workOut 86 = .ok (.aload_n 2, 1) := by decide +kernel
theorem dX12_workOut_87 : decode cX12_workOut 87 = .ok (.aload_n 1, 1) := by decide +kernel
theorem dX12_workOut_88 : decode cX12_workOut 88 = .ok (.getfield 252, 3) := by decide +kernel
theorem dX12_workOut_91 : decode cX12_workOut 91 = .ok (.invokevirtual 255, 3) := by decide +kernel
theorem dX12_workOut_94 : decode cX12_workOut 94 = .ok (.istore 5, 2) := by decide +kernel
theorem dX12_workOut_96 : decode cX12_workOut 96 = .ok (.iload 5, 2) := by decide +kernel
theorem dX12_workOut_98 : decode cX12_workOut 98 = .ok (.ifCond .eq 10, 3) := by decide +kernel
theorem dX12_workOut_101 : decode cX12_workOut 101 = .ok (.aload_n 0, 1) := by decide +kernel
theorem dX12_workOut_102 : decode cX12_workOut 102 = .ok (.iload_n 3, 1) := by decide +kernel
theorem dX12_workOut_103 : decode cX12_workOut 103 = .ok (.iload 5, 2) := by decide +kernel
theorem dX12_workOut_105 : decode cX12_workOut 105 = .ok (.invokevirtual 95, 3) := by decide +kernel
theorem dX12_workOut_108 : decode cX12_workOut 108 = .ok (.return_, 1) := by decide +kernel
theorem dX12_holds_0 : decode cX12_holds 0 = .ok (.aload_n 0, 1) := by decide +kernel
theorem dX12_holds_1 : decode cX12_holds 1 = .ok (.aload_n 1, 1) := by decide +kernel
theorem dX12_holds_2 : decode cX12_holds 2 = .ok (.getfield 197, 3) := by decide +kernel
theorem dX12_holds_5 : decode cX12_holds 5 = .ok (.aload_n 0, 1) := by decide +kernel
theorem dX12_holds_6 : decode cX12_holds 6 = .ok (.getfield 24, 3) := by decide +kernel
theorem dX12_holds_9 : decode cX12_holds 9 = .ok (.aload_n 1, 1) := by decide +kernel
theorem dX12_holds_10 : decode cX12_holds 10 = .ok (.getfield 151, 3) := by decide +kernel
theorem dX12_holds_13 : decode cX12_holds 13 = .ok (.invokevirtual 200, 3) := by decide +kernel
theorem dX12_holds_16 : decode cX12_holds 16 = .ok (.aload_n 1, 1) := by decide +kernel
theorem dX12_holds_17 : decode cX12_holds 17 = .ok (.getfield 259, 3) := by decide +kernel
theorem dX12_holds_20 : decode cX12_holds 20 = .ok (.ifCond .ne 11, 3) := by decide +kernel
theorem dX12_holds_23 : decode cX12_holds 23 = .ok (.aload_n 0, 1) := by decide +kernel
theorem dX12_holds_24 : decode cX12_holds 24 = .ok (.getfield 24, 3) := by decide +kernel
theorem dX12_holds_27 : decode cX12_holds 27 = .ok (.invokevirtual 262, 3) := by decide +kernel
theorem dX12_holds_30 : decode cX12_holds 30 = .ok (.ireturn, 1) := by decide +kernel
theorem dX12_holds_31 : decode cX12_holds 31 = .ok (.aload_n 1, 1) := by decide +kernel
theorem dX12_holds_32 : decode cX12_holds 32 = .ok (.getfield 259, 3) := by decide +kernel
theorem dX12_holds_35 : decode cX12_holds 35 = .ok (.iconst 1, 1) := by decide +kernel
theorem dX12_holds_36 : decode cX12_holds 36 = .ok (.if_icmp .ne 19, 3) := by decide +kernel
theorem dX12_holds_39 : decode cX12_holds 39 = .ok (.aload_n 0, 1) := by decide +kernel
theorem dX12_holds_40 : decode cX12_holds 40 = .ok (.getfield 24, 3) := by decide +kernel
theorem dX12_holds_43 : decode cX12_holds 43 = .ok (.invokevirtual 262, 3) := by decide +kernel
theorem dX12_holds_46 : decode cX12_holds 46 = .ok (.ifCond .ne 7, 3) := by decide +kernel
theorem dX12_holds_49 : decode cX12_holds 49 = .ok (.iconst 1, 1) := by decide +kernel
theorem dX12_holds_50 : decode cX12_holds 50 = .ok (.goto 4, 3) := by decide +kernel
theorem dX12_holds_53 : decode cX12_holds 53 = .ok (.iconst 0, 1) := by decide +kernel
theorem dX12_holds_54 : decode cX12_holds 54 = .ok (.ireturn, 1) := by decide +kernel
theorem dX12_holds_55 : decode cX12_holds 55 = .ok (.aload_n 0, 1) := by decide +kernel
theorem dX12_holds_56 : decode cX12_holds 56 = .ok (.getfield 81, 3) := by decide +kernel
theorem dX12_holds_59 : decode cX12_holds 59 = .ok (.ifCond .ne 19, 3) := by decide +kernel
theorem dX12_holds_62 : decode cX12_holds 62 = .ok (.aload_n 0, 1) := by decide +kernel
theorem dX12_holds_63 : decode cX12_holds 63 = .ok (.aload_n 1, 1) := by decide +kernel
theorem dX12_holds_64 : decode cX12_holds 64 = .ok (.getfield 266, 3) := by decide +kernel
theorem dX12_holds_67 : decode cX12_holds 67 = .ok (.aload_n 0, 1) := by decide +kernel
theorem dX12_holds_68 : decode cX12_holds 68 = .ok (.getfield 28, 3) := by decide +kernel
theorem dX12_holds_71 : decode cX12_holds 71 = .ok (.aload_n 1, 1) := by decide +kernel
theorem dX12_holds_72 : decode cX12_holds 72 = .ok (.getfield 151, 3) := by decide +kernel
theorem dX12_holds_75 : decode cX12_holds 75 = .ok (.invokevirtual 200, 3) := by decide +kernel
theorem dX12_holds_78 : decode cX12_holds 78 = .ok (.aload_n 0, 1) := by decide +kernel
theorem dX12_holds_79 : decode cX12_holds 79 = .ok (.getfield 81, 3) := by decide +kernel
theorem dX12_holds_82 : decode cX12_holds 82 = .ok (.ifCond .eq 5, 3) := by decide +kernel
theorem dX12_holds_85 : decode cX12_holds 85 = .ok (.iconst 0, 1) := by decide +kernel
theorem dX12_holds_86 : decode cX12_holds 86 = .ok (.ireturn, 1) := by decide +kernel
theorem dX12_holds_87 : decode cX12_holds 87 = .ok (.aload_n 0, 1) := by decide +kernel
theorem dX12_holds_88 : decode cX12_holds 88 = .ok (.getfield 24, 3) := by decide +kernel
theorem dX12_holds_91 : decode cX12_holds 91 = .ok (.aload_n 0, 1) := by decide +kernel
theorem dX12_holds_92 : decode cX12_holds 92 = .ok (.getfield 28, 3) := by decide +kernel
theorem dX12_holds_95 : decode cX12_holds 95 = .ok (.invokevirtual 268, 3) := by decide +kernel
theorem dX12_holds_98 : decode cX12_holds 98 = .ok (.istore_n 2, 1) := by decide +kernel
theorem dX12_holds_99 : decode cX12_holds 99 = .ok (.iload_n 2, 1) := by decide +kernel
theorem dX12_holds_100 : decode cX12_holds 100 = .ok (.iconst 2, 1) := by decide +kernel
theorem dX12_holds_101 : decode cX12_holds 101 = .ok (.if_icmp .ne 12, 3) := by decide +kernel
theorem dX12_holds_104 : decode cX12_holds 104 = .ok (.aload_n 0, 1) := by decide +kernel
theorem dX12_holds_105 : decode cX12_holds 105 = .ok (.aload_n 1, 1) := by decide +kernel
theorem dX12_holds_106 : decode cX12_holds 106 = .ok (.getfield 151, 3) := by decide +kernel
theorem dX12_holds_109 : decode cX12_holds 109 = .ok (.iconst 2, 1) := by decide +kernel
theorem dX12_holds_110 : decode cX12_holds 110 = .ok (.invokevirtual 95, 3) := by decide +kernel
theorem dX12_holds_113 : decode cX12_holds 113 = .ok (.aload_n 1, 1) := by decide +kernel
theorem dX12_holds_114 : decode cX12_holds 114 = .ok (.getfield 259, 3) := by decide +kernel
theorem dX12_holds_117 : decode cX12_holds 117 = .ok (.iconst 2, 1) := by decide +kernel
theorem dX12_holds_118 : decode cX12_holds 118 = .ok (.if_icmp .ne 15, 3) := by decide +kernel
theorem dX12_holds_121 : decode cX12_holds 121 = .ok (.iload_n 2, 1) := by decide +kernel
theorem dX12_holds_122 : decode cX12_holds 122 = .ok (.ifCond .ge 7, 3) := by decide +kernel
theorem dX12_holds_125 : decode cX12_holds 125 = .ok (.iconst 1, 1) := by decide +kernel
theorem dX12_holds_126 : decode cX12_holds 126 = .ok (.goto 16, 3) := by decide +kernel
theorem dX12_holds_129 : decode cX12_holds 129 = .ok (.iconst 0, 1) := by decide +kernel
theorem dX12_holds_130 : decode cX12_holds 130 = .ok (.goto 12, 3) := by decide +kernel
theorem dX12_holds_133 : decode cX12_holds 133 = .ok (.iload_n 2, 1) := by decide +kernel
theorem dX12_holds_134 : decode cX12_holds 134 = .ok (.ifCond .ne 7, 3) := by decide +kernel
theorem dX12_holds_137 : decode cX12_holds 137 = .ok (.iconst 1, 1) := by decide +kernel
theorem dX12_holds_138 : decode cX12_holds 138 = .ok (.goto 4, 3) := by decide +kernel
theorem dX12_holds_141 : decode cX12_holds 141 = .ok (.iconst 0, 1) := by decide +kernel
theorem dX12_holds_142 : decode cX12_holds 142 = .ok (.ireturn, 1) := by decide +kernel
theorem dX12_putValue_0 : decode cX12_putValue 0 = .ok (.aload_n 0, 1) := by decide +kernel
theorem dX12_putValue_1 : decode cX12_putValue 1 = .ok (.aload_n 1, 1) := by decide +kernel
theorem dX12_putValue_2 : decode cX12_putValue 2 = .ok (.getfield 197, 3) := by decide +kernel
theorem dX12_putValue_5 : decode cX12_putValue 5 = .ok (.aload_n 0, 1) := by decide +kernel
theorem dX12_putValue_6 : decode cX12_putValue 6 = .ok (.getfield 24, 3) := by decide +kernel
theorem dX12_putValue_9 : decode cX12_putValue 9 = .ok (.aload_n 1, 1) := by decide +kernel
theorem dX12_putValue_10 : decode cX12_putValue 10 = .ok (.getfield 151, 3) := by decide +kernel
theorem dX12_putValue_13 : decode cX12_putValue 13 = .ok (.invokevirtual 200, 3) := by decide +kernel
theorem dX12_putValue_16 : decode cX12_putValue 16 = .ok (.aload_n 0, 1) := by decide +kernel
theorem dX12_putValue_17 : decode cX12_putValue 17 = .ok (.getfield 36, 3) := by decide +kernel
theorem dX12_putValue_20 : decode cX12_putValue 20 = .ok (.invokevirtual 58, 3) := by decide +kernel
theorem dX12_putValue_23 : decode cX12_putValue 23 = .ok (.aload_n 0, 1) := by decide +kernel
theorem dX12_putValue_24 : decode cX12_putValue 24 = .ok (.getfield 24, 3) := by decide +kernel
theorem dX12_putValue_27 : decode cX12_putValue 27 = .ok (.aload_n 0, 1) := by decide +kernel
theorem dX12_putValue_28 : decode cX12_putValue 28 = .ok (.getfield 36, 3) := by decide +kernel
theorem dX12_putValue_31 : decode cX12_putValue 31 = .ok (.invokevirtual 272, 3) := by decide +kernel
theorem dX12_putValue_34 : decode cX12_putValue 34 = .ok (.iconst 0, 1) := by decide +kernel
theorem dX12_putValue_35 : decode cX12_putValue 35 = .ok (.istore_n 2, 1) := by decide +kernel
theorem dX12_putValue_36 : decode cX12_putValue 36 = .ok (.iload_n 2, 1) := by decide +kernel
theorem dX12_putValue_37 : decode cX12_putValue 37 = .ok (.aload_n 0, 1) := by decide +kernel
theorem dX12_putValue_38 : decode cX12_putValue 38 = .ok (.getfield 36, 3) := by decide +kernel
theorem dX12_putValue_41 : decode cX12_putValue 41 = .ok (.getfield 276, 3) := by decide +kernel
theorem dX12_putValue_44 : decode cX12_putValue 44 = .ok (.if_icmp .ge 32, 3) := by decide +kernel
theorem dX12_putValue_47 : decode cX12_putValue 47 = .ok (.aload_n 0, 1) := by decide +kernel
theorem dX12_putValue_48 : decode cX12_putValue 48 = .ok (.getfield 81, 3) := by decide +kernel
theorem dX12_putValue_51 : decode cX12_putValue 51 = .ok (.ifCond .ne 25, 3) := by decide +kernel
theorem dX12_putValue_54 : decode cX12_putValue 54 = .ok (.aload_n 0, 1) := by decide +kernel
theorem dX12_putValue_55 : decode cX12_putValue 55 = .ok (.aload_n 0, 1) := by decide +kernel
theorem dX12_putValue_56 : decode cX12_putValue 56 = .ok (.getfield 36, 3) := by decide +kernel
theorem dX12_putValue_59 : decode cX12_putValue 59 = .ok (.iload_n 2, 1) := by decide +kernel
theorem dX12_putValue_60 : decode cX12_putValue 60 = .ok (.invokevirtual 277, 3) := by decide +kernel
theorem dX12_putValue_63 : decode cX12_putValue 63 = .ok (.aload_n 1, 1) := by decide +kernel
theorem dX12_putValue_64 : decode cX12_putValue 64 = .ok (.getfield 151, 3) := by decide +kernel
theorem dX12_putValue_67 : decode cX12_putValue 67 = .ok (.invokevirtual 278, 3) := by decide +kernel
theorem dX12_putValue_70 : decode cX12_putValue 70 = .ok (.iinc 2 1, 3) := by decide +kernel
theorem dX12_putValue_73 : decode cX12_putValue 73 = .ok (.goto (-37), 3) := by decide +kernel
theorem dX12_putValue_76 : decode cX12_putValue 76 = .ok (.return_, 1) := by decide +kernel
theorem dX12_putEscaped_0 : decode cX12_putEscaped 0 = .ok (.aload_n 0, 1) := by decide +kernel
theorem dX12_putEscaped_1 : decode cX12_putEscaped 1 = .ok (.getfield 68, 3) := by decide +kernel
theorem dX12_putEscaped_4 : decode cX12_putEscaped 4 = .ok (.iload_n 1, 1) := by decide +kernel
theorem dX12_putEscaped_5 : decode cX12_putEscaped 5 = .ok (.invokestatic 281, 3) := by decide +kernel
theorem dX12_putEscaped_8 : decode cX12_putEscaped 8 = .ok (.istore_n 3, 1) := by decide +kernel
theorem dX12_putEscaped_9 : decode cX12_putEscaped 9 = .ok (.iload_n 3, 1) := by decide +kernel
theorem dX12_putEscaped_10 : decode cX12_putEscaped 10 = .ok (.ifCond .eq 24, 3) := by decide +kernel
theorem dX12_putEscaped_13 : decode cX12_putEscaped 13 = .ok (.aload_n 0, 1) := by decide +kernel
theorem dX12_putEscaped_14 : decode cX12_putEscaped 14 = .ok (.bipush 38, 2) := by decide +kernel
theorem dX12_putEscaped_16 : decode cX12_putEscaped 16 = .ok (.iload_n 2, 1) := by decide +kernel
theorem dX12_putEscaped_17 : decode cX12_putEscaped 17 = .ok (.invokevirtual 154, 3) := by decide +kernel
theorem dX12_putEscaped_20 : decode cX12_putEscaped 20 = .ok (.aload_n 0, 1) := by decide +kernel
theorem dX12_putEscaped_21 : decode cX12_putEscaped 21 = .ok (.iload_n 3, 1) := by decide +kernel
theorem dX12_putEscaped_22 : decode cX12_putEscaped 22 = .ok (.iload_n 2, 1) := by decide +kernel
theorem dX12_putEscaped_23 : decode cX12_putEscaped 23 = .ok (.invokevirtual 154, 3) := by decide +kernel
theorem dX12_putEscaped_26 : decode cX12_putEscaped 26 = .ok (.aload_n 0, 1) := by decide +kernel
theorem dX12_putEscaped_27 : decode cX12_putEscaped 27 = .ok (.bipush 59, 2) := by decide +kernel
theorem dX12_putEscaped_29 : decode cX12_putEscaped 29 = .ok (.iload_n 2, 1) := by decide +kernel
theorem dX12_putEscaped_30 : decode cX12_putEscaped 30 = .ok (.invokevirtual 154, 3) := by decide +kernel
theorem dX12_putEscaped_33 : decode cX12_putEscaped 33 = .ok (.return_, 1) := by decide +kernel
theorem dX12_putEscaped_34 : decode cX12_putEscaped 34 = .ok (.aload_n 0, 1) := by decide +kernel
theorem dX12_putEscaped_35 : decode cX12_putEscaped 35 = .ok (.getfield 68, 3) := by decide +kernel
theorem dX12_putEscaped_38 : decode cX12_putEscaped 38 = .ok (.iconst 3, 1) := by decide +kernel
theorem dX12_putEscaped_39 : decode cX12_putEscaped 39 = .ok (.if_icmp .ne 22, 3) := by decide +kernel
theorem dX12_putEscaped_42 : decode cX12_putEscaped 42 = .ok (.iload_n 1, 1) := by decide +kernel
theorem dX12_putEscaped_43 : decode cX12_putEscaped 43 = .ok (.bipush 96, 2) := by decide +kernel
theorem dX12_putEscaped_45 : decode cX12_putEscaped 45 = .ok (.if_icmp .eq 9, 3) := by decide +kernel
theorem dX12_putEscaped_48 : decode cX12_putEscaped 48 = .ok (.iload_n 1, 1) := by decide +kernel
theorem dX12_putEscaped_49 : decode cX12_putEscaped 49 = .ok (.bipush 92, 2) := by decide +kernel
theorem dX12_putEscaped_51 : decode cX12_putEscaped 51 = .ok (.if_icmp .ne 10, 3) := by decide +kernel
theorem dX12_putEscaped_54 : decode cX12_putEscaped 54 = .ok (.aload_n 0, 1) := by decide +kernel
theorem dX12_putEscaped_55 : decode cX12_putEscaped 55 = .ok (.bipush 92, 2) := by decide +kernel
theorem dX12_putEscaped_57 : decode cX12_putEscaped 57 = .ok (.iload_n 2, 1) := by decide +kernel
theorem dX12_putEscaped_58 : decode cX12_putEscaped 58 = .ok (.invokevirtual 154, 3) := by decide +kernel
theorem dX12_putEscaped_61 : decode cX12_putEscaped 61 = .ok (.aload_n 0, 1) := by decide +kernel
theorem dX12_putEscaped_62 : decode cX12_putEscaped 62 = .ok (.aload_n 0, 1) := by decide +kernel
theorem dX12_putEscaped_63 : decode cX12_putEscaped 63 = .ok (.getfield 68, 3) := by decide +kernel
theorem dX12_putEscaped_66 : decode cX12_putEscaped 66 = .ok (.iconst 1, 1) := by decide +kernel
theorem dX12_putEscaped_67 : decode cX12_putEscaped 67 = .ok (.if_icmp .ne 15, 3) := by decide +kernel
theorem dX12_putEscaped_70 : decode cX12_putEscaped 70 = .ok (.iload_n 1, 1) := by decide +kernel
theorem dX12_putEscaped_71 : decode cX12_putEscaped 71 = .ok (.invokestatic 284, 3) := by decide +kernel
theorem dX12_putEscaped_74 : decode cX12_putEscaped 74 = .ok (.ifCond .ne 8, 3) := by decide +kernel
theorem dX12_putEscaped_77 : decode cX12_putEscaped 77 = .ok (.bipush 95, 2) := by decide +kernel
theorem dX12_putEscaped_79 : decode cX12_putEscaped 79 = .ok (.goto 4, 3) := by decide +kernel
theorem dX12_putEscaped_82 : decode cX12_putEscaped 82 = .ok (.iload_n 1, 1) := by decide +kernel
theorem dX12_putEscaped_83 : decode cX12_putEscaped 83 = .ok (.iload_n 2, 1) := by decide +kernel
theorem dX12_putEscaped_84 : decode cX12_putEscaped 84 = .ok (.invokevirtual 154, 3) := by decide +kernel
theorem dX12_putEscaped_87 : decode cX12_putEscaped 87 = .ok (.return_, 1) := by decide +kernel
theorem dX12_putByte_0 : decode cX12_putByte 0 = .ok (.aload_n 0, 1) := by decide +kernel
theorem dX12_putByte_1 : decode cX12_putByte 1 = .ok (.getfield 77, 3) := by decide +kernel
theorem dX12_putByte_4 : decode cX12_putByte 4 = .ok (.ifCond .ne 10, 3) := by decide +kernel
theorem dX12_putByte_7 : decode cX12_putByte 7 = .ok (.aload_n 0, 1) := by decide +kernel
theorem dX12_putByte_8 : decode cX12_putByte 8 = .ok (.getfield 81, 3) := by decide +kernel
theorem dX12_putByte_11 : decode cX12_putByte 11 = .ok (.ifCond .eq 4, 3) := by decide +kernel
theorem dX12_putByte_14 : decode cX12_putByte 14 = .ok (.return_, 1) := by decide +kernel
theorem dX12_putByte_15 : decode cX12_putByte 15 = .ok (.aload_n 0, 1) := by decide +kernel
theorem dX12_putByte_16 : decode cX12_putByte 16 = .ok (.getfield 40, 3) := by decide +kernel
theorem dX12_putByte_19 : decode cX12_putByte 19 = .ok (.getfield 276, 3) := by decide +kernel
theorem dX12_putByte_22 : decode cX12_putByte 22 = .ok (.aload_n 0, 1) := by decide +kernel
theorem dX12_putByte_23 : decode cX12_putByte 23 = .ok (.getfield 50, 3) := by decide +kernel
theorem dX12_putByte_26 : decode cX12_putByte 26 = .ok (.getfield 288, 3) := by decide +kernel
theorem dX12_putByte_29 : decode cX12_putByte 29 = .ok (.if_icmp .lt 12, 3) := by decide +kernel
theorem dX12_putByte_32 : decode cX12_putByte 32 = .ok (.aload_n 0, 1) := by decide +kernel
theorem dX12_putByte_33 : decode cX12_putByte 33 = .ok (.iload_n 2, 1) := by decide +kernel
theorem dX12_putByte_34 : decode cX12_putByte 34 = .ok (.iconst 5, 1) := by decide +kernel
theorem dX12_putByte_35 : decode cX12_putByte 35 = .ok (.invokevirtual 95, 3) := by decide +kernel
theorem dX12_putByte_38 : decode cX12_putByte 38 = .ok (.goto 12, 3) := by decide +kernel
theorem dX12_putByte_41 : decode cX12_putByte 41 = .ok (.aload_n 0, 1) := by decide +kernel
theorem dX12_putByte_42 : decode cX12_putByte 42 = .ok (.getfield 40, 3) := by decide +kernel
theorem dX12_putByte_45 : decode cX12_putByte 45 = .ok (.iload_n 1, 1) := by decide +kernel
theorem dX12_putByte_46 : decode cX12_putByte 46 = .ok (.invokevirtual 291, 3) := by decide +kernel
theorem dX12_putByte_49 : decode cX12_putByte 49 = .ok (.pop, 1) := by decide +kernel
theorem dX12_putByte_50 : decode cX12_putByte 50 = .ok (.return_, 1) := by decide +kernel
theorem dX12_behind_0 : decode cX12_behind 0 = .ok (.iload_n 0, 1) := by decide +kernel
theorem dX12_behind_1 : decode cX12_behind 1 = .ok (.tableswitch 83 0 2 #[27, 49, 71], 27) := by decide +kernel
theorem dX12_behind_28 : decode cX12_behind 28 = .ok (.iload_n 1, 1) := by decide +kernel
theorem dX12_behind_29 : decode cX12_behind 29 = .ok (.bipush 60, 2) := by decide +kernel
theorem dX12_behind_31 : decode cX12_behind 31 = .ok (.if_icmp .ne 7, 3) := by decide +kernel
theorem dX12_behind_34 : decode cX12_behind 34 = .ok (.iconst 1, 1) := by decide +kernel
theorem dX12_behind_35 : decode cX12_behind 35 = .ok (.goto 14, 3) := by decide +kernel
theorem dX12_behind_38 : decode cX12_behind 38 = .ok (.iload_n 1, 1) := by decide +kernel
theorem dX12_behind_39 : decode cX12_behind 39 = .ok (.bipush 96, 2) := by decide +kernel
theorem dX12_behind_41 : decode cX12_behind 41 = .ok (.if_icmp .ne 7, 3) := by decide +kernel
theorem dX12_behind_44 : decode cX12_behind 44 = .ok (.iconst 3, 1) := by decide +kernel
theorem dX12_behind_45 : decode cX12_behind 45 = .ok (.goto 4, 3) := by decide +kernel
theorem dX12_behind_48 : decode cX12_behind 48 = .ok (.iconst 0, 1) := by decide +kernel
theorem dX12_behind_49 : decode cX12_behind 49 = .ok (.ireturn, 1) := by decide +kernel
theorem dX12_behind_50 : decode cX12_behind 50 = .ok (.iload_n 1, 1) := by decide +kernel
theorem dX12_behind_51 : decode cX12_behind 51 = .ok (.bipush 62, 2) := by decide +kernel
theorem dX12_behind_53 : decode cX12_behind 53 = .ok (.if_icmp .ne 7, 3) := by decide +kernel
theorem dX12_behind_56 : decode cX12_behind 56 = .ok (.iconst 0, 1) := by decide +kernel
theorem dX12_behind_57 : decode cX12_behind 57 = .ok (.goto 14, 3) := by decide +kernel
theorem dX12_behind_60 : decode cX12_behind 60 = .ok (.iload_n 1, 1) := by decide +kernel
theorem dX12_behind_61 : decode cX12_behind 61 = .ok (.bipush 34, 2) := by decide +kernel
theorem dX12_behind_63 : decode cX12_behind 63 = .ok (.if_icmp .ne 7, 3) := by decide +kernel
theorem dX12_behind_66 : decode cX12_behind 66 = .ok (.iconst 2, 1) := by decide +kernel
theorem dX12_behind_67 : decode cX12_behind 67 = .ok (.goto 4, 3) := by decide +kernel
theorem dX12_behind_70 : decode cX12_behind 70 = .ok (.iconst 1, 1) := by decide +kernel
theorem dX12_behind_71 : decode cX12_behind 71 = .ok (.ireturn, 1) := by decide +kernel
theorem dX12_behind_72 : decode cX12_behind 72 = .ok (.iload_n 1, 1) := by decide +kernel
theorem dX12_behind_73 : decode cX12_behind 73 = .ok (.bipush 34, 2) := by decide +kernel
theorem dX12_behind_75 : decode cX12_behind 75 = .ok (.if_icmp .ne 7, 3) := by decide +kernel
theorem dX12_behind_78 : decode cX12_behind 78 = .ok (.iconst 1, 1) := by decide +kernel
theorem dX12_behind_79 : decode cX12_behind 79 = .ok (.goto 4, 3) := by decide +kernel
theorem dX12_behind_82 : decode cX12_behind 82 = .ok (.iconst 2, 1) := by decide +kernel
theorem dX12_behind_83 : decode cX12_behind 83 = .ok (.ireturn, 1) := by decide +kernel
theorem dX12_behind_84 : decode cX12_behind 84 = .ok (.iload_n 1, 1) := by decide +kernel
theorem dX12_behind_85 : decode cX12_behind 85 = .ok (.bipush 96, 2) := by decide +kernel
theorem dX12_behind_87 : decode cX12_behind 87 = .ok (.if_icmp .ne 7, 3) := by decide +kernel
theorem dX12_behind_90 : decode cX12_behind 90 = .ok (.iconst 0, 1) := by decide +kernel
theorem dX12_behind_91 : decode cX12_behind 91 = .ok (.goto 4, 3) := by decide +kernel
theorem dX12_behind_94 : decode cX12_behind 94 = .ok (.iconst 3, 1) := by decide +kernel
theorem dX12_behind_95 : decode cX12_behind 95 = .ok (.ireturn, 1) := by decide +kernel
theorem dX12_wordFor_0 : decode cX12_wordFor 0 = .ok (.iload_n 0, 1) := by decide +kernel
theorem dX12_wordFor_1 : decode cX12_wordFor 1 = .ok (.ifCond .eq 10, 3) := by decide +kernel
theorem dX12_wordFor_4 : decode cX12_wordFor 4 = .ok (.iload_n 0, 1) := by decide +kernel
theorem dX12_wordFor_5 : decode cX12_wordFor 5 = .ok (.iconst 2, 1) := by decide +kernel
theorem dX12_wordFor_6 : decode cX12_wordFor 6 = .ok (.if_icmp .eq 5, 3) := by decide +kernel
theorem dX12_wordFor_9 : decode cX12_wordFor 9 = .ok (.iconst 0, 1) := by decide +kernel
theorem dX12_wordFor_10 : decode cX12_wordFor 10 = .ok (.ireturn, 1) := by decide +kernel
theorem dX12_wordFor_11 : decode cX12_wordFor 11 = .ok (.iload_n 1, 1) := by decide +kernel
theorem dX12_wordFor_12 : decode cX12_wordFor 12 = .ok (.bipush 60, 2) := by decide +kernel
theorem dX12_wordFor_14 : decode cX12_wordFor 14 = .ok (.if_icmp .ne 6, 3) := by decide +kernel
theorem dX12_wordFor_17 : decode cX12_wordFor 17 = .ok (.bipush 108, 2) := by decide +kernel
theorem dX12_wordFor_19 : decode cX12_wordFor 19 = .ok (.ireturn, 1) := by decide +kernel
theorem dX12_wordFor_20 : decode cX12_wordFor 20 = .ok (.iload_n 1, 1) := by decide +kernel
theorem dX12_wordFor_21 : decode cX12_wordFor 21 = .ok (.bipush 38, 2) := by decide +kernel
theorem dX12_wordFor_23 : decode cX12_wordFor 23 = .ok (.if_icmp .ne 6, 3) := by decide +kernel
theorem dX12_wordFor_26 : decode cX12_wordFor 26 = .ok (.bipush 97, 2) := by decide +kernel
theorem dX12_wordFor_28 : decode cX12_wordFor 28 = .ok (.ireturn, 1) := by decide +kernel
theorem dX12_wordFor_29 : decode cX12_wordFor 29 = .ok (.iload_n 1, 1) := by decide +kernel
theorem dX12_wordFor_30 : decode cX12_wordFor 30 = .ok (.bipush 34, 2) := by decide +kernel
theorem dX12_wordFor_32 : decode cX12_wordFor 32 = .ok (.if_icmp .ne 13, 3) := by decide +kernel
theorem dX12_wordFor_35 : decode cX12_wordFor 35 = .ok (.iload_n 0, 1) := by decide +kernel
theorem dX12_wordFor_36 : decode cX12_wordFor 36 = .ok (.iconst 2, 1) := by decide +kernel
theorem dX12_wordFor_37 : decode cX12_wordFor 37 = .ok (.if_icmp .ne 8, 3) := by decide +kernel
theorem dX12_wordFor_40 : decode cX12_wordFor 40 = .ok (.bipush 113, 2) := by decide +kernel
theorem dX12_wordFor_42 : decode cX12_wordFor 42 = .ok (.goto 4, 3) := by decide +kernel
theorem dX12_wordFor_45 : decode cX12_wordFor 45 = .ok (.iconst 0, 1) := by decide +kernel
theorem dX12_wordFor_46 : decode cX12_wordFor 46 = .ok (.ireturn, 1) := by decide +kernel
theorem dX12_isPlainInTag_0 : decode cX12_isPlainInTag 0 = .ok (.iload_n 0, 1) := by decide +kernel
theorem dX12_isPlainInTag_1 : decode cX12_isPlainInTag 1 = .ok (.invokestatic 293, 3) := by decide +kernel
theorem dX12_isPlainInTag_4 : decode cX12_isPlainInTag 4 = .ok (.ifCond .ne 17, 3) := by decide +kernel
theorem dX12_isPlainInTag_7 : decode cX12_isPlainInTag 7 = .ok (.iload_n 0, 1) := by decide +kernel
theorem dX12_isPlainInTag_8 : decode cX12_isPlainInTag 8 = .ok (.invokestatic 296, 3) := by decide +kernel
theorem dX12_isPlainInTag_11 : decode cX12_isPlainInTag 11 = .ok (.ifCond .ne 10, 3) := by decide +kernel
theorem dX12_isPlainInTag_14 : decode cX12_isPlainInTag 14 = .ok (.iload_n 0, 1) := by decide +kernel
theorem dX12_isPlainInTag_15 : decode cX12_isPlainInTag 15 = .ok (.invokestatic 299, 3) := by decide +kernel
theorem dX12_isPlainInTag_18 : decode cX12_isPlainInTag 18 = .ok (.ifCond .eq 7, 3) := by decide +kernel
theorem dX12_isPlainInTag_21 : decode cX12_isPlainInTag 21 = .ok (.iconst 1, 1) := by decide +kernel
theorem dX12_isPlainInTag_22 : decode cX12_isPlainInTag 22 = .ok (.goto 4, 3) := by decide +kernel
theorem dX12_isPlainInTag_25 : decode cX12_isPlainInTag 25 = .ok (.iconst 0, 1) := by decide +kernel
theorem dX12_isPlainInTag_26 : decode cX12_isPlainInTag 26 = .ok (.ireturn, 1) := by decide +kernel
theorem dX13_init_0 : decode cX13_init 0 = .ok (.aload_n 0, 1) := by decide +kernel
theorem dX13_init_1 : decode cX13_init 1 = .ok (.invokespecial 3, 3) := by decide +kernel
theorem dX13_init_4 : decode cX13_init 4 = .ok (.new 9, 3) := by decide +kernel
theorem dX13_init_7 : decode cX13_init 7 = .ok (.dup, 1) := by decide +kernel
theorem dX13_init_8 : decode cX13_init 8 = .ok (.invokespecial 11, 3) := by decide +kernel
theorem dX13_init_11 : decode cX13_init 11 = .ok (.astore_n 1, 1) := by decide +kernel
theorem dX13_init_12 : decode cX13_init 12 = .ok (.new 12, 3) := by decide +kernel
theorem dX13_init_15 : decode cX13_init 15 = .ok (.dup, 1) := by decide +kernel
theorem dX13_init_16 : decode cX13_init 16 = .ok (.sipush 162, 3) := by decide +kernel
theorem dX13_init_19 : decode cX13_init 19 = .ok (.invokespecial 16, 3) := by decide +kernel
theorem dX13_init_22 : decode cX13_init 22 = .ok (.astore_n 2, 1) := by decide +kernel
theorem dX13_init_23 : decode cX13_init 23 = .ok (.bipush 6, 2) := by decide +kernel
theorem dX13_init_25 : decode cX13_init 25 = .ok (.anewarray 19, 3) := by decide +kernel
theorem dX13_init_28 : decode cX13_init 28 = .ok (.astore_n 3, 1) := by decide +kernel
theorem dX13_init_29 : decode cX13_init 29 = .ok (.iconst 0, 1) := by decide +kernel
theorem dX13_init_30 : decode cX13_init 30 = .ok (.istore 4, 2) := by decide +kernel
theorem dX13_init_32 : decode cX13_init 32 = .ok (.iload 4, 2) := by decide +kernel
theorem dX13_init_34 : decode cX13_init 34 = .ok (.bipush 6, 2) := by decide +kernel
theorem dX13_init_36 : decode cX13_init 36 = .ok (.if_icmp .ge 20, 3) := by decide +kernel
theorem dX13_init_39 : decode cX13_init 39 = .ok (.aload_n 3, 1) := by decide +kernel
theorem dX13_init_40 : decode cX13_init 40 = .ok (.iload 4, 2) := by decide +kernel
theorem dX13_init_42 : decode cX13_init 42 = .ok (.new 19, 3) := by decide +kernel
theorem dX13_init_45 : decode cX13_init 45 = .ok (.dup, 1) := by decide +kernel
theorem dX13_init_46 : decode cX13_init 46 = .ok (.invokespecial 21, 3) := by decide +kernel
theorem dX13_init_49 : decode cX13_init 49 = .ok (.aastore, 1) := by decide +kernel
theorem dX13_init_50 : decode cX13_init 50 = .ok (.iinc 4 1, 3) := by decide +kernel
theorem dX13_init_53 : decode cX13_init 53 = .ok (.goto (-21), 3) := by decide +kernel
theorem dX13_init_56 : decode cX13_init 56 = .ok (.aload_n 0, 1) := by decide +kernel
theorem dX13_init_57 : decode cX13_init 57 = .ok (.aload_n 1, 1) := by decide +kernel
theorem dX13_init_58 : decode cX13_init 58 = .ok (.putfield 22, 3) := by decide +kernel
theorem dX13_init_61 : decode cX13_init 61 = .ok (.aload_n 0, 1) := by decide +kernel
theorem dX13_init_62 : decode cX13_init 62 = .ok (.new 9, 3) := by decide +kernel
theorem dX13_init_65 : decode cX13_init 65 = .ok (.dup, 1) := by decide +kernel
theorem dX13_init_66 : decode cX13_init 66 = .ok (.invokespecial 11, 3) := by decide +kernel
theorem dX13_init_69 : decode cX13_init 69 = .ok (.putfield 26, 3) := by decide +kernel
theorem dX13_init_72 : decode cX13_init 72 = .ok (.aload_n 0, 1) := by decide +kernel
theorem dX13_init_73 : decode cX13_init 73 = .ok (.new 12, 3) := by decide +kernel
theorem dX13_init_76 : decode cX13_init 76 = .ok (.dup, 1) := by decide +kernel
theorem dX13_init_77 : decode cX13_init 77 = .ok (.sipush 160, 3) := by decide +kernel
theorem dX13_init_80 : decode cX13_init 80 = .ok (.invokespecial 16, 3) := by decide +kernel
theorem dX13_init_83 : decode cX13_init 83 = .ok (.putfield 29, 3) := by decide +kernel
theorem dX13_init_86 : decode cX13_init 86 = .ok (.aload_n 0, 1) := by decide +kernel
theorem dX13_init_87 : decode cX13_init 87 = .ok (.aload_n 2, 1) := by decide +kernel
theorem dX13_init_88 : decode cX13_init 88 = .ok (.putfield 33, 3) := by decide +kernel
theorem dX13_init_91 : decode cX13_init 91 = .ok (.aload_n 0, 1) := by decide +kernel
theorem dX13_init_92 : decode cX13_init 92 = .ok (.new 12, 3) := by decide +kernel
theorem dX13_init_95 : decode cX13_init 95 = .ok (.dup, 1) := by decide +kernel
theorem dX13_init_96 : decode cX13_init 96 = .ok (.bipush 53, 2) := by decide +kernel
theorem dX13_init_98 : decode cX13_init 98 = .ok (.invokespecial 16, 3) := by decide +kernel
theorem dX13_init_101 : decode cX13_init 101 = .ok (.putfield 36, 3) := by decide +kernel
theorem dX13_init_104 : decode cX13_init 104 = .ok (.aload_n 0, 1) := by decide +kernel
theorem dX13_init_105 : decode cX13_init 105 = .ok (.new 39, 3) := by decide +kernel
theorem dX13_init_108 : decode cX13_init 108 = .ok (.dup, 1) := by decide +kernel
theorem dX13_init_109 : decode cX13_init 109 = .ok (.invokespecial 41, 3) := by decide +kernel
theorem dX13_init_112 : decode cX13_init 112 = .ok (.putfield 42, 3) := by decide +kernel
theorem dX13_init_115 : decode cX13_init 115 = .ok (.aload_n 0, 1) := by decide +kernel
theorem dX13_init_116 : decode cX13_init 116 = .ok (.new 46, 3) := by decide +kernel
theorem dX13_init_119 : decode cX13_init 119 = .ok (.dup, 1) := by decide +kernel
theorem dX13_init_120 : decode cX13_init 120 = .ok (.aload_n 1, 1) := by decide +kernel
theorem dX13_init_121 : decode cX13_init 121 = .ok (.aload_n 2, 1) := by decide +kernel
theorem dX13_init_122 : decode cX13_init 122 = .ok (.invokespecial 48, 3) := by decide +kernel
theorem dX13_init_125 : decode cX13_init 125 = .ok (.putfield 51, 3) := by decide +kernel
theorem dX13_init_128 : decode cX13_init 128 = .ok (.aload_n 0, 1) := by decide +kernel
theorem dX13_init_129 : decode cX13_init 129 = .ok (.aload_n 3, 1) := by decide +kernel
theorem dX13_init_130 : decode cX13_init 130 = .ok (.putfield 55, 3) := by decide +kernel
theorem dX13_init_133 : decode cX13_init 133 = .ok (.return_, 1) := by decide +kernel
theorem dX13_none_0 : decode cX13_none 0 = .ok (.aload_n 0, 1) := by decide +kernel
theorem dX13_none_1 : decode cX13_none 1 = .ok (.getfield 22, 3) := by decide +kernel
theorem dX13_none_4 : decode cX13_none 4 = .ok (.iload_n 1, 1) := by decide +kernel
theorem dX13_none_5 : decode cX13_none 5 = .ok (.invokevirtual 59, 3) := by decide +kernel
theorem dX13_none_8 : decode cX13_none 8 = .ok (.astore_n 2, 1) := by decide +kernel
theorem dX13_none_9 : decode cX13_none 9 = .ok (.aload_n 2, 1) := by decide +kernel
theorem dX13_none_10 : decode cX13_none 10 = .ok (.ifnonnull 5, 3) := by decide +kernel
theorem dX13_none_13 : decode cX13_none 13 = .ok (.iconst (-1), 1) := by decide +kernel
theorem dX13_none_14 : decode cX13_none 14 = .ok (.ireturn, 1) := by decide +kernel
theorem dX13_none_15 : decode cX13_none 15 = .ok (.aload_n 2, 1) := by decide +kernel
theorem dX13_none_16 : decode cX13_none 16 = .ok (.getfield 63, 3) := by decide +kernel
theorem dX13_none_19 : decode cX13_none 19 = .ok (.istore_n 3, 1) := by decide +kernel
theorem dX13_none_20 : decode cX13_none 20 = .ok (.aload_n 2, 1) := by decide +kernel
theorem dX13_none_21 : decode cX13_none 21 = .ok (.invokevirtual 67, 3) := by decide +kernel
theorem dX13_none_24 : decode cX13_none 24 = .ok (.iload_n 3, 1) := by decide +kernel
theorem dX13_none_25 : decode cX13_none 25 = .ok (.ireturn, 1) := by decide +kernel
theorem dX13_number_0 : decode cX13_number 0 = .ok (.aload_n 0, 1) := by decide +kernel
theorem dX13_number_1 : decode cX13_number 1 = .ok (.getfield 22, 3) := by decide +kernel
theorem dX13_number_4 : decode cX13_number 4 = .ok (.iload_n 1, 1) := by decide +kernel
theorem dX13_number_5 : decode cX13_number 5 = .ok (.invokevirtual 59, 3) := by decide +kernel
theorem dX13_number_8 : decode cX13_number 8 = .ok (.astore_n 3, 1) := by decide +kernel
theorem dX13_number_9 : decode cX13_number 9 = .ok (.aload_n 3, 1) := by decide +kernel
theorem dX13_number_10 : decode cX13_number 10 = .ok (.ifnonnull 5, 3) := by decide +kernel
theorem dX13_number_13 : decode cX13_number 13 = .ok (.iconst (-1), 1) := by decide +kernel
theorem dX13_number_14 : decode cX13_number 14 = .ok (.ireturn, 1) := by decide +kernel
theorem dX13_number_15 : decode cX13_number 15 = .ok (.iload_n 2, 1) := by decide +kernel
theorem dX13_number_16 : decode cX13_number 16 = .ok (.i2l, 1) := by decide +kernel
theorem dX13_number_17 : decode cX13_number 17 = .ok (.invokestatic 70, 3) := by decide +kernel
theorem dX13_number_20 : decode cX13_number 20 = .ok (.ifCond .ne 6, 3) := by decide +kernel
theorem dX13_number_23 : decode cX13_number 23 = .ok (.bipush (-2), 2) := by decide +kernel
theorem dX13_number_25 : decode cX13_number 25 = .ok (.ireturn, 1) := by decide +kernel
theorem dX13_number_26 : decode cX13_number 26 = .ok (.aload_n 3, 1) := by decide +kernel
theorem dX13_number_27 : decode cX13_number 27 = .ok (.getfield 63, 3) := by decide +kernel
theorem dX13_number_30 : decode cX13_number 30 = .ok (.istore 4, 2) := by decide +kernel
theorem dX13_number_32 : decode cX13_number 32 = .ok (.aload_n 3, 1) := by decide +kernel
theorem dX13_number_33 : decode cX13_number 33 = .ok (.iload_n 2, 1) := by decide +kernel
theorem dX13_number_34 : decode cX13_number 34 = .ok (.invokevirtual 74, 3) := by decide +kernel
theorem dX13_number_37 : decode cX13_number 37 = .ok (.iload 4, 2) := by decide +kernel
theorem dX13_number_39 : decode cX13_number 39 = .ok (.ireturn, 1) := by decide +kernel
theorem dX13_real_0 : decode cX13_real 0 = .ok (.aload_n 0, 1) := by decide +kernel
theorem dX13_real_1 : decode cX13_real 1 = .ok (.getfield 22, 3) := by decide +kernel
theorem dX13_real_4 : decode cX13_real 4 = .ok (.iload_n 1, 1) := by decide +kernel
theorem dX13_real_5 : decode cX13_real 5 = .ok (.invokevirtual 59, 3) := by decide +kernel
theorem dX13_real_8 : decode cX13_real 8 = .ok (.astore 4, 2) := by decide +kernel
theorem dX13_real_10 : decode cX13_real 10 = .ok (.aload 4, 2) := by decide +kernel
theorem dX13_real_12 : decode cX13_real 12 = .ok (.ifnonnull 5, 3) := by decide +kernel
theorem dX13_real_15 : decode cX13_real 15 = .ok (.iconst (-1), 1) := by decide +kernel
theorem dX13_real_16 : decode cX13_real 16 = .ok (.ireturn, 1) := by decide +kernel
theorem dX13_real_17 : decode cX13_real 17 = .ok (.iload_n 3, 1) := by decide +kernel
theorem dX13_real_18 : decode cX13_real 18 = .ok (.ifCond .ne 6, 3) := by decide +kernel
theorem dX13_real_21 : decode cX13_real 21 = .ok (.bipush (-2), 2) := by decide +kernel
theorem dX13_real_23 : decode cX13_real 23 = .ok (.ireturn, 1) := by decide +kernel
theorem dX13_real_24 : decode cX13_real 24 = .ok (.aload 4, 2) := by decide +kernel
theorem dX13_real_26 : decode cX13_real 26 = .ok (.getfield 63, 3) := by decide +kernel
theorem dX13_real_29 : decode cX13_real 29 = .ok (.istore 5, 2) := by decide +kernel
theorem dX13_real_31 : decode cX13_real 31 = .ok (.aload 4, 2) := by decide +kernel
theorem dX13_real_33 : decode cX13_real 33 = .ok (.iload_n 2, 1) := by decide +kernel
theorem dX13_real_34 : decode cX13_real 34 = .ok (.i2f, 1) := by decide +kernel
theorem dX13_real_35 : decode cX13_real 35 = .ok (.iload_n 3, 1) := by decide +kernel
theorem dX13_real_36 : decode cX13_real 36 = .ok (.i2f, 1) := by decide +kernel
theorem dX13_real_37 : decode cX13_real 37 = .ok (.fdiv, 1) := by decide +kernel
theorem dX13_real_38 : decode cX13_real 38 = .ok (.invokevirtual 77, 3) := by decide +kernel
theorem dX13_real_41 : decode cX13_real 41 = .ok (.iload 5, 2) := by decide +kernel
theorem dX13_real_43 : decode cX13_real 43 = .ok (.ireturn, 1) := by decide +kernel
theorem dX13_text_0 : decode cX13_text 0 = .ok (.aload_n 0, 1) := by decide +kernel
theorem dX13_text_1 : decode cX13_text 1 = .ok (.getfield 22, 3) := by decide +kernel
theorem dX13_text_4 : decode cX13_text 4 = .ok (.iload_n 1, 1) := by decide +kernel
theorem dX13_text_5 : decode cX13_text 5 = .ok (.invokevirtual 59, 3) := by decide +kernel
theorem dX13_text_8 : decode cX13_text 8 = .ok (.astore_n 2, 1) := by decide +kernel
theorem dX13_text_9 : decode cX13_text 9 = .ok (.aload_n 2, 1) := by decide +kernel
theorem dX13_text_10 : decode cX13_text 10 = .ok (.ifnonnull 5, 3) := by decide +kernel
theorem dX13_text_13 : decode cX13_text 13 = .ok (.iconst (-1), 1) := by decide +kernel
theorem dX13_text_14 : decode cX13_text 14 = .ok (.ireturn, 1) := by decide +kernel
theorem dX13_text_15 : decode cX13_text 15 = .ok (.aload_n 2, 1) := by decide +kernel
theorem dX13_text_16 : decode cX13_text 16 = .ok (.getfield 63, 3) := by decide +kernel
theorem dX13_text_19 : decode cX13_text 19 = .ok (.istore_n 3, 1) := by decide +kernel
theorem dX13_text_20 : decode cX13_text 20 = .ok (.aload_n 2, 1) := by decide +kernel
theorem dX13_text_21 : decode cX13_text 21 = .ok (.aload_n 0, 1) := by decide +kernel
theorem dX13_text_22 : decode cX13_text 22 = .ok (.getfield 29, 3) := by decide +kernel
theorem dX13_text_25 : decode cX13_text 25 = .ok (.invokevirtual 81, 3) := by decide +kernel
theorem dX13_text_28 : decode cX13_text 28 = .ok (.istore 4, 2) := by decide +kernel
theorem dX13_text_30 : decode cX13_text 30 = .ok (.aload_n 0, 1) := by decide +kernel
theorem dX13_text_31 : decode cX13_text 31 = .ok (.getfield 29, 3) := by decide +kernel
theorem dX13_text_34 : decode cX13_text 34 = .ok (.invokevirtual 85, 3) := by decide +kernel
theorem dX13_text_37 : decode cX13_text 37 = .ok (.iload 4, 2) := by decide +kernel
theorem dX13_text_39 : decode cX13_text 39 = .ok (.ifCond .eq 7, 3) := by decide +kernel
theorem dX13_text_42 : decode cX13_text 42 = .ok (.iload_n 3, 1) := by decide +kernel
theorem dX13_text_43 : decode cX13_text 43 = .ok (.goto 5, 3) := by decide +kernel
theorem dX13_text_46 : decode cX13_text 46 = .ok (.bipush (-2), 2) := by decide +kernel
theorem dX13_text_48 : decode cX13_text 48 = .ok (.ireturn, 1) := by decide +kernel
theorem dX13_list_0 : decode cX13_list 0 = .ok (.aload_n 0, 1) := by decide +kernel
theorem dX13_list_1 : decode cX13_list 1 = .ok (.getfield 22, 3) := by decide +kernel
theorem dX13_list_4 : decode cX13_list 4 = .ok (.iload_n 1, 1) := by decide +kernel
theorem dX13_list_5 : decode cX13_list 5 = .ok (.invokevirtual 59, 3) := by decide +kernel
theorem dX13_list_8 : decode cX13_list 8 = .ok (.astore_n 3, 1) := by decide +kernel
theorem dX13_list_9 : decode cX13_list 9 = .ok (.aload_n 3, 1) := by decide +kernel
theorem dX13_list_10 : decode cX13_list 10 = .ok (.ifnonnull 5, 3) := by decide +kernel
theorem dX13_list_13 : decode cX13_list 13 = .ok (.iconst (-1), 1) := by decide +kernel
theorem dX13_list_14 : decode cX13_list 14 = .ok (.ireturn, 1) := by decide +kernel
theorem dX13_list_15 : decode cX13_list 15 = .ok (.iload_n 2, 1) := by decide +kernel
theorem dX13_list_16 : decode cX13_list 16 = .ok (.ifCond .lt 9, 3) := by decide +kernel
theorem dX13_list_19 : decode cX13_list 19 = .ok (.iload_n 2, 1) := by decide +kernel
theorem dX13_list_20 : decode cX13_list 20 = .ok (.bipush 6, 2) := by decide +kernel
theorem dX13_list_22 : decode cX13_list 22 = .ok (.if_icmp .le 6, 3) := by decide +kernel
theorem dX13_list_25 : decode cX13_list 25 = .ok (.bipush (-2), 2) := by decide +kernel
theorem dX13_list_27 : decode cX13_list 27 = .ok (.ireturn, 1) := by decide +kernel
theorem dX13_list_28 : decode cX13_list 28 = .ok (.aload_n 3, 1) := by decide +kernel
theorem dX13_list_29 : decode cX13_list 29 = .ok (.getfield 63, 3) := by decide +kernel
theorem dX13_list_32 : decode cX13_list 32 = .ok (.istore 4, 2) := by decide +kernel
theorem dX13_list_34 : decode cX13_list 34 = .ok (.aload_n 3, 1) := by decide +kernel
theorem dX13_list_35 : decode cX13_list 35 = .ok (.iload_n 2, 1) := by decide +kernel
theorem dX13_list_36 : decode cX13_list 36 = .ok (.invokevirtual 88, 3) := by decide +kernel
theorem dX13_list_39 : decode cX13_list 39 = .ok (.iload 4, 2) := by decide +kernel
theorem dX13_list_41 : decode cX13_list 41 = .ok (.ireturn, 1) := by decide +kernel
theorem dX13_item_0 : decode cX13_item 0 = .ok (.aload_n 0, 1) := by decide +kernel
theorem dX13_item_1 : decode cX13_item 1 = .ok (.getfield 22, 3) := by decide +kernel
theorem dX13_item_4 : decode cX13_item 4 = .ok (.iload_n 1, 1) := by decide +kernel
theorem dX13_item_5 : decode cX13_item 5 = .ok (.invokevirtual 59, 3) := by decide +kernel
theorem dX13_item_8 : decode cX13_item 8 = .ok (.astore 4, 2) := by decide +kernel
theorem dX13_item_10 : decode cX13_item 10 = .ok (.aload 4, 2) := by decide +kernel
theorem dX13_item_12 : decode cX13_item 12 = .ok (.ifnonnull 5, 3) := by decide +kernel
theorem dX13_item_15 : decode cX13_item 15 = .ok (.iconst (-1), 1) := by decide +kernel
theorem dX13_item_16 : decode cX13_item 16 = .ok (.ireturn, 1) := by decide +kernel
theorem dX13_item_17 : decode cX13_item 17 = .ok (.aload 4, 2) := by decide +kernel
theorem dX13_item_19 : decode cX13_item 19 = .ok (.getfield 63, 3) := by decide +kernel
theorem dX13_item_22 : decode cX13_item 22 = .ok (.iconst 4, 1) := by decide +kernel
theorem dX13_item_23 : decode cX13_item 23 = .ok (.if_icmp .eq 6, 3) := by decide +kernel
theorem dX13_item_26 : decode cX13_item 26 = .ok (.bipush (-3), 2) := by decide +kernel
theorem dX13_item_28 : decode cX13_item 28 = .ok (.ireturn, 1) := by decide +kernel
theorem dX13_item_29 : decode cX13_item 29 = .ok (.iload_n 2, 1) := by decide +kernel
theorem dX13_item_30 : decode cX13_item 30 = .ok (.aload 4, 2) := by decide +kernel
theorem dX13_item_32 : decode cX13_item 32 = .ok (.getfield 91, 3) := by decide +kernel
theorem dX13_item_35 : decode cX13_item 35 = .ok (.invokestatic 94, 3) := by decide +kernel
theorem dX13_item_38 : decode cX13_item 38 = .ok (.ifCond .ne 5, 3) := by decide +kernel
theorem dX13_item_41 : decode cX13_item 41 = .ok (.iconst (-1), 1) := by decide +kernel
theorem dX13_item_42 : decode cX13_item 42 = .ok (.ireturn, 1) := by decide +kernel
theorem dX13_item_43 : decode cX13_item 43 = .ok (.iload_n 3, 1) := by decide +kernel
theorem dX13_item_44 : decode cX13_item 44 = .ok (.i2l, 1) := by decide +kernel
theorem dX13_item_45 : decode cX13_item 45 = .ok (.invokestatic 70, 3) := by decide +kernel
theorem dX13_item_48 : decode cX13_item 48 = .ok (.ifCond .ne 6, 3) := by decide +kernel
theorem dX13_item_51 : decode cX13_item 51 = .ok (.bipush (-2), 2) := by decide +kernel
theorem dX13_item_53 : decode cX13_item 53 = .ok (.ireturn, 1) := by decide +kernel
theorem dX13_item_54 : decode cX13_item 54 = .ok (.aload 4, 2) := by decide +kernel
theorem dX13_item_56 : decode cX13_item 56 = .ok (.iload_n 2, 1) := by decide +kernel
theorem dX13_item_57 : decode cX13_item 57 = .ok (.invokevirtual 98, 3) := by decide +kernel
theorem dX13_item_60 : decode cX13_item 60 = .ok (.istore 5, 2) := by decide +kernel
theorem dX13_item_62 : decode cX13_item 62 = .ok (.aload 4, 2) := by decide +kernel
theorem dX13_item_64 : decode cX13_item 64 = .ok (.iload_n 2, 1) := by decide +kernel
theorem dX13_item_65 : decode cX13_item 65 = .ok (.iload_n 3, 1) := by decide +kernel
theorem dX13_item_66 : decode cX13_item 66 = .ok (.invokevirtual 102, 3) := by decide +kernel
theorem dX13_item_69 : decode cX13_item 69 = .ok (.iload 5, 2) := by decide +kernel
theorem dX13_item_71 : decode cX13_item 71 = .ok (.ireturn, 1) := by decide +kernel
theorem dX13_of_0 : decode cX13_of 0 = .ok (.aload_n 0, 1) := by decide +kernel
theorem dX13_of_1 : decode cX13_of 1 = .ok (.getfield 22, 3) := by decide +kernel
theorem dX13_of_4 : decode cX13_of 4 = .ok (.iload_n 1, 1) := by decide +kernel
theorem dX13_of_5 : decode cX13_of 5 = .ok (.invokevirtual 59, 3) := by decide +kernel
theorem dX13_of_8 : decode cX13_of 8 = .ok (.astore_n 3, 1) := by decide +kernel
theorem dX13_of_9 : decode cX13_of 9 = .ok (.aload_n 3, 1) := by decide +kernel
theorem dX13_of_10 : decode cX13_of 10 = .ok (.ifnonnull 5, 3) := by decide +kernel
theorem dX13_of_13 : decode cX13_of 13 = .ok (.iconst (-1), 1) := by decide +kernel
theorem dX13_of_14 : decode cX13_of 14 = .ok (.ireturn, 1) := by decide +kernel
theorem dX13_of_15 : decode cX13_of 15 = .ok (.iload_n 2, 1) := by decide +kernel
theorem dX13_of_16 : decode cX13_of 16 = .ok (.tableswitch 61 0 3 #[32, 37, 43, 48], 32) := by decide +kernel
theorem dX13_of_48 : decode cX13_of 48 = .ok (.aload_n 3, 1) := by decide +kernel
theorem dX13_of_49 : decode cX13_of 49 = .ok (.getfield 63, 3) := by decide +kernel
theorem dX13_of_52 : decode cX13_of 52 = .ok (.ireturn, 1) := by decide +kernel
theorem dX13_of_53 : decode cX13_of 53 = .ok (.aload_n 0, 1) := by decide +kernel
theorem dX13_of_54 : decode cX13_of 54 = .ok (.aload_n 3, 1) := by decide +kernel
theorem dX13_of_55 : decode cX13_of 55 = .ok (.invokevirtual 106, 3) := by decide +kernel
theorem dX13_of_58 : decode cX13_of 58 = .ok (.ireturn, 1) := by decide +kernel
theorem dX13_of_59 : decode cX13_of 59 = .ok (.aload_n 3, 1) := by decide +kernel
theorem dX13_of_60 : decode cX13_of 60 = .ok (.invokevirtual 110, 3) := by decide +kernel
theorem dX13_of_63 : decode cX13_of 63 = .ok (.ireturn, 1) := by decide +kernel
theorem dX13_of_64 : decode cX13_of 64 = .ok (.aload_n 3, 1) := by decide +kernel
theorem dX13_of_65 : decode cX13_of 65 = .ok (.invokevirtual 114, 3) := by decide +kernel
theorem dX13_of_68 : decode cX13_of 68 = .ok (.ifCond .eq 7, 3) := by decide +kernel
theorem dX13_of_71 : decode cX13_of 71 = .ok (.iconst 1, 1) := by decide +kernel
theorem dX13_of_72 : decode cX13_of 72 = .ok (.goto 4, 3) := by decide +kernel
theorem dX13_of_75 : decode cX13_of 75 = .ok (.iconst 0, 1) := by decide +kernel
theorem dX13_of_76 : decode cX13_of 76 = .ok (.ireturn, 1) := by decide +kernel
theorem dX13_of_77 : decode cX13_of 77 = .ok (.iconst (-1), 1) := by decide +kernel
theorem dX13_of_78 : decode cX13_of 78 = .ok (.ireturn, 1) := by decide +kernel
theorem dX13_shown_0 : decode cX13_shown 0 = .ok (.aload_n 0, 1) := by decide +kernel
theorem dX13_shown_1 : decode cX13_shown 1 = .ok (.getfield 22, 3) := by decide +kernel
theorem dX13_shown_4 : decode cX13_shown 4 = .ok (.iload_n 1, 1) := by decide +kernel
theorem dX13_shown_5 : decode cX13_shown 5 = .ok (.invokevirtual 59, 3) := by decide +kernel
theorem dX13_shown_8 : decode cX13_shown 8 = .ok (.astore_n 3, 1) := by decide +kernel
theorem dX13_shown_9 : decode cX13_shown 9 = .ok (.aload_n 3, 1) := by decide +kernel
theorem dX13_shown_10 : decode cX13_shown 10 = .ok (.ifnonnull 5, 3) := by decide +kernel
theorem dX13_shown_13 : decode cX13_shown 13 = .ok (.iconst (-1), 1) := by decide +kernel
theorem dX13_shown_14 : decode cX13_shown 14 = .ok (.ireturn, 1) := by decide +kernel
theorem dX13_shown_15 : decode cX13_shown 15 = .ok (.aload_n 0, 1) := by decide +kernel
theorem dX13_shown_16 : decode cX13_shown 16 = .ok (.aload_n 3, 1) := by decide +kernel
theorem dX13_shown_17 : decode cX13_shown 17 = .ok (.invokevirtual 106, 3) := by decide +kernel
theorem dX13_shown_20 : decode cX13_shown 20 = .ok (.pop, 1) := by decide +kernel
theorem dX13_shown_21 : decode cX13_shown 21 = .ok (.aload_n 0, 1) := by decide +kernel
theorem dX13_shown_22 : decode cX13_shown 22 = .ok (.getfield 36, 3) := by decide +kernel
theorem dX13_shown_25 : decode cX13_shown 25 = .ok (.iload_n 2, 1) := by decide +kernel
theorem dX13_shown_26 : decode cX13_shown 26 = .ok (.invokevirtual 118, 3) := by decide +kernel
theorem dX13_shown_29 : decode cX13_shown 29 = .ok (.ireturn, 1) := by decide +kernel
theorem dX13_feed_0 : decode cX13_feed 0 = .ok (.iload_n 1, 1) := by decide +kernel
theorem dX13_feed_1 : decode cX13_feed 1 = .ok (.iconst 1, 1) := by decide +kernel
theorem dX13_feed_2 : decode cX13_feed 2 = .ok (.if_icmp .lt 9, 3) := by decide +kernel
theorem dX13_feed_5 : decode cX13_feed 5 = .ok (.iload_n 1, 1) := by decide +kernel
theorem dX13_feed_6 : decode cX13_feed 6 = .ok (.bipush 127, 2) := by decide +kernel
theorem dX13_feed_8 : decode cX13_feed 8 = .ok (.if_icmp .le 6, 3) := by decide +kernel
theorem dX13_feed_11 : decode cX13_feed 11 = .ok (.bipush (-2), 2) := by decide +kernel
theorem dX13_feed_13 : decode cX13_feed 13 = .ok (.ireturn, 1) := by decide +kernel
theorem dX13_feed_14 : decode cX13_feed 14 = .ok (.aload_n 0, 1) := by decide +kernel
theorem dX13_feed_15 : decode cX13_feed 15 = .ok (.getfield 29, 3) := by decide +kernel
theorem dX13_feed_18 : decode cX13_feed 18 = .ok (.iload_n 1, 1) := by decide +kernel
theorem dX13_feed_19 : decode cX13_feed 19 = .ok (.invokevirtual 119, 3) := by decide +kernel
theorem dX13_feed_22 : decode cX13_feed 22 = .ok (.ifCond .eq 13, 3) := by decide +kernel
theorem dX13_feed_25 : decode cX13_feed 25 = .ok (.aload_n 0, 1) := by decide +kernel
theorem dX13_feed_26 : decode cX13_feed 26 = .ok (.getfield 29, 3) := by decide +kernel
theorem dX13_feed_29 : decode cX13_feed 29 = .ok (.getfield 123, 3) := by decide +kernel
theorem dX13_feed_32 : decode cX13_feed 32 = .ok (.goto 5, 3) := by decide +kernel
theorem dX13_feed_35 : decode cX13_feed 35 = .ok (.bipush (-4), 2) := by decide +kernel
theorem dX13_feed_37 : decode cX13_feed 37 = .ok (.ireturn, 1) := by decide +kernel
theorem dX13_clear_0 : decode cX13_clear 0 = .ok (.aload_n 0, 1) := by decide +kernel
theorem dX13_clear_1 : decode cX13_clear 1 = .ok (.getfield 29, 3) := by decide +kernel
theorem dX13_clear_4 : decode cX13_clear 4 = .ok (.getfield 123, 3) := by decide +kernel
theorem dX13_clear_7 : decode cX13_clear 7 = .ok (.istore_n 1, 1) := by decide +kernel
theorem dX13_clear_8 : decode cX13_clear 8 = .ok (.aload_n 0, 1) := by decide +kernel
theorem dX13_clear_9 : decode cX13_clear 9 = .ok (.getfield 29, 3) := by decide +kernel
theorem dX13_clear_12 : decode cX13_clear 12 = .ok (.invokevirtual 85, 3) := by decide +kernel
theorem dX13_clear_15 : decode cX13_clear 15 = .ok (.iload_n 1, 1) := by decide +kernel
theorem dX13_clear_16 : decode cX13_clear 16 = .ok (.ireturn, 1) := by decide +kernel
theorem dX13_template_0 : decode cX13_template 0 = .ok (.iload_n 1, 1) := by decide +kernel
theorem dX13_template_1 : decode cX13_template 1 = .ok (.bipush 6, 2) := by decide +kernel
theorem dX13_template_3 : decode cX13_template 3 = .ok (.invokestatic 94, 3) := by decide +kernel
theorem dX13_template_6 : decode cX13_template 6 = .ok (.ifCond .ne 5, 3) := by decide +kernel
theorem dX13_template_9 : decode cX13_template 9 = .ok (.iconst (-1), 1) := by decide +kernel
theorem dX13_template_10 : decode cX13_template 10 = .ok (.ireturn, 1) := by decide +kernel
theorem dX13_template_11 : decode cX13_template 11 = .ok (.new 124, 3) := by decide +kernel
theorem dX13_template_14 : decode cX13_template 14 = .ok (.dup, 1) := by decide +kernel
theorem dX13_template_15 : decode cX13_template 15 = .ok (.aload_n 0, 1) := by decide +kernel
theorem dX13_template_16 : decode cX13_template 16 = .ok (.getfield 29, 3) := by decide +kernel
theorem dX13_template_19 : decode cX13_template 19 = .ok (.invokespecial 126, 3) := by decide +kernel
theorem dX13_template_22 : decode cX13_template 22 = .ok (.astore_n 2, 1) := by decide +kernel
theorem dX13_template_23 : decode cX13_template 23 = .ok (.aload_n 2, 1) := by decide +kernel
theorem dX13_template_24 : decode cX13_template 24 = .ok (.invokevirtual 129, 3) := by decide +kernel
theorem dX13_template_27 : decode cX13_template 27 = .ok (.astore_n 3, 1) := by decide +kernel
theorem dX13_template_28 : decode cX13_template 28 = .ok (.aload_n 0, 1) := by decide +kernel
theorem dX13_template_29 : decode cX13_template 29 = .ok (.getfield 29, 3) := by decide +kernel
theorem dX13_template_32 : decode cX13_template 32 = .ok (.invokevirtual 85, 3) := by decide +kernel
theorem dX13_template_35 : decode cX13_template 35 = .ok (.aload_n 3, 1) := by decide +kernel
theorem dX13_template_36 : decode cX13_template 36 = .ok (.ifnonnull 11, 3) := by decide +kernel
theorem dX13_template_39 : decode cX13_template 39 = .ok (.bipush (-100), 2) := by decide +kernel
theorem dX13_template_41 : decode cX13_template 41 = .ok (.aload_n 2, 1) := by decide +kernel
theorem dX13_template_42 : decode cX13_template 42 = .ok (.getfield 133, 3) := by decide +kernel
theorem dX13_template_45 : decode cX13_template 45 = .ok (.isub, 1) := by decide +kernel
theorem dX13_template_46 : decode cX13_template 46 = .ok (.ireturn, 1) := by decide +kernel
theorem dX13_template_47 : decode cX13_template 47 = .ok (.aload_n 0, 1) := by decide +kernel
theorem dX13_template_48 : decode cX13_template 48 = .ok (.getfield 22, 3) := by decide +kernel
theorem dX13_template_51 : decode cX13_template 51 = .ok (.getfield 136, 3) := by decide +kernel
theorem dX13_template_54 : decode cX13_template 54 = .ok (.iload_n 1, 1) := by decide +kernel
theorem dX13_template_55 : decode cX13_template 55 = .ok (.aload_n 3, 1) := by decide +kernel
theorem dX13_template_56 : decode cX13_template 56 = .ok (.aastore, 1) := by decide +kernel
theorem dX13_template_57 : decode cX13_template 57 = .ok (.aload_n 3, 1) := by decide +kernel
theorem dX13_template_58 : decode cX13_template 58 = .ok (.getfield 140, 3) := by decide +kernel
theorem dX13_template_61 : decode cX13_template 61 = .ok (.ireturn, 1) := by decide +kernel
theorem dX13_drop_0 : decode cX13_drop 0 = .ok (.iload_n 1, 1) := by decide +kernel
theorem dX13_drop_1 : decode cX13_drop 1 = .ok (.bipush 6, 2) := by decide +kernel
theorem dX13_drop_3 : decode cX13_drop 3 = .ok (.invokestatic 94, 3) := by decide +kernel
theorem dX13_drop_6 : decode cX13_drop 6 = .ok (.ifCond .ne 5, 3) := by decide +kernel
theorem dX13_drop_9 : decode cX13_drop 9 = .ok (.iconst (-1), 1) := by decide +kernel
theorem dX13_drop_10 : decode cX13_drop 10 = .ok (.ireturn, 1) := by decide +kernel
theorem dX13_drop_11 : decode cX13_drop 11 = .ok (.aload_n 0, 1) := by decide +kernel
theorem dX13_drop_12 : decode cX13_drop 12 = .ok (.getfield 22, 3) := by decide +kernel
theorem dX13_drop_15 : decode cX13_drop 15 = .ok (.iload_n 1, 1) := by decide +kernel
theorem dX13_drop_16 : decode cX13_drop 16 = .ok (.invokevirtual 145, 3) := by decide +kernel
theorem dX13_drop_19 : decode cX13_drop 19 = .ok (.astore_n 2, 1) := by decide +kernel
theorem dX13_drop_20 : decode cX13_drop 20 = .ok (.aload_n 2, 1) := by decide +kernel
theorem dX13_drop_21 : decode cX13_drop 21 = .ok (.ifnonnull 6, 3) := by decide +kernel
theorem dX13_drop_24 : decode cX13_drop 24 = .ok (.bipush (-3), 2) := by decide +kernel
theorem dX13_drop_26 : decode cX13_drop 26 = .ok (.ireturn, 1) := by decide +kernel
theorem dX13_drop_27 : decode cX13_drop 27 = .ok (.aload_n 0, 1) := by decide +kernel
theorem dX13_drop_28 : decode cX13_drop 28 = .ok (.getfield 22, 3) := by decide +kernel
theorem dX13_drop_31 : decode cX13_drop 31 = .ok (.getfield 136, 3) := by decide +kernel
theorem dX13_drop_34 : decode cX13_drop 34 = .ok (.iload_n 1, 1) := by decide +kernel
theorem dX13_drop_35 : decode cX13_drop 35 = .ok (.aconst_null, 1) := by decide +kernel
theorem dX13_drop_36 : decode cX13_drop 36 = .ok (.aastore, 1) := by decide +kernel
theorem dX13_drop_37 : decode cX13_drop 37 = .ok (.aload_n 2, 1) := by decide +kernel
theorem dX13_drop_38 : decode cX13_drop 38 = .ok (.getfield 140, 3) := by decide +kernel
theorem dX13_drop_41 : decode cX13_drop 41 = .ok (.ireturn, 1) := by decide +kernel
theorem dX13_has_0 : decode cX13_has 0 = .ok (.iload_n 1, 1) := by decide +kernel
theorem dX13_has_1 : decode cX13_has 1 = .ok (.bipush 6, 2) := by decide +kernel
theorem dX13_has_3 : decode cX13_has 3 = .ok (.invokestatic 94, 3) := by decide +kernel
theorem dX13_has_6 : decode cX13_has 6 = .ok (.ifCond .eq 12, 3) := by decide +kernel
theorem dX13_has_9 : decode cX13_has 9 = .ok (.iload_n 2, 1) := by decide +kernel
theorem dX13_has_10 : decode cX13_has 10 = .ok (.bipush 7, 2) := by decide +kernel
theorem dX13_has_12 : decode cX13_has 12 = .ok (.invokestatic 94, 3) := by decide +kernel
theorem dX13_has_15 : decode cX13_has 15 = .ok (.ifCond .ne 5, 3) := by decide +kernel
theorem dX13_has_18 : decode cX13_has 18 = .ok (.iconst (-1), 1) := by decide +kernel
theorem dX13_has_19 : decode cX13_has 19 = .ok (.ireturn, 1) := by decide +kernel
theorem dX13_has_20 : decode cX13_has 20 = .ok (.aload_n 0, 1) := by decide +kernel
theorem dX13_has_21 : decode cX13_has 21 = .ok (.getfield 22, 3) := by decide +kernel
theorem dX13_has_24 : decode cX13_has 24 = .ok (.iload_n 1, 1) := by decide +kernel
theorem dX13_has_25 : decode cX13_has 25 = .ok (.invokevirtual 145, 3) := by decide +kernel
theorem dX13_has_28 : decode cX13_has 28 = .ok (.astore_n 3, 1) := by decide +kernel
theorem dX13_has_29 : decode cX13_has 29 = .ok (.aload_n 3, 1) := by decide +kernel
theorem dX13_has_30 : decode cX13_has 30 = .ok (.ifnonnull 6, 3) := by decide +kernel
theorem dX13_has_33 : decode cX13_has 33 = .ok (.bipush (-3), 2) := by decide +kernel
theorem dX13_has_35 : decode cX13_has 35 = .ok (.ireturn, 1) := by decide +kernel
theorem dX13_has_36 : decode cX13_has 36 = .ok (.iload_n 2, 1) := by decide +kernel
theorem dX13_has_37 : decode cX13_has 37 = .ok (.tableswitch 81 0 5 #[39, 44, 49, 66, 71, 76], 39) := by decide +kernel
theorem dX13_has_76 : decode cX13_has 76 = .ok (.aload_n 3, 1) := by decide +kernel
theorem dX13_has_77 : decode cX13_has 77 = .ok (.getfield 140, 3) := by decide +kernel
theorem dX13_has_80 : decode cX13_has 80 = .ok (.ireturn, 1) := by decide +kernel
theorem dX13_has_81 : decode cX13_has 81 = .ok (.aload_n 3, 1) := by decide +kernel
theorem dX13_has_82 : decode cX13_has 82 = .ok (.getfield 149, 3) := by decide +kernel
theorem dX13_has_85 : decode cX13_has 85 = .ok (.ireturn, 1) := by decide +kernel
theorem dX13_has_86 : decode cX13_has 86 = .ok (.aload_n 3, 1) := by decide +kernel
theorem dX13_has_87 : decode cX13_has 87 = .ok (.getfield 152, 3) := by decide +kernel
theorem dX13_has_90 : decode cX13_has 90 = .ok (.ifCond .ge 8, 3) := by decide +kernel
theorem dX13_has_93 : decode cX13_has 93 = .ok (.bipush (-5), 2) := by decide +kernel
theorem dX13_has_95 : decode cX13_has 95 = .ok (.goto 7, 3) := by decide +kernel
theorem dX13_has_98 : decode cX13_has 98 = .ok (.aload_n 3, 1) := by decide +kernel
theorem dX13_has_99 : decode cX13_has 99 = .ok (.getfield 152, 3) := by decide +kernel
theorem dX13_has_102 : decode cX13_has 102 = .ok (.ireturn, 1) := by decide +kernel
theorem dX13_has_103 : decode cX13_has 103 = .ok (.aload_n 3, 1) := by decide +kernel
theorem dX13_has_104 : decode cX13_has 104 = .ok (.invokevirtual 155, 3) := by decide +kernel
theorem dX13_has_107 : decode cX13_has 107 = .ok (.ireturn, 1) := by decide +kernel
theorem dX13_has_108 : decode cX13_has 108 = .ok (.aload_n 3, 1) := by decide +kernel
theorem dX13_has_109 : decode cX13_has 109 = .ok (.getfield 158, 3) := by decide +kernel
theorem dX13_has_112 : decode cX13_has 112 = .ok (.ireturn, 1) := by decide +kernel
theorem dX13_has_113 : decode cX13_has 113 = .ok (.aload_n 3, 1) := by decide +kernel
theorem dX13_has_114 : decode cX13_has 114 = .ok (.getfield 161, 3) := by decide +kernel
theorem dX13_has_117 : decode cX13_has 117 = .ok (.ireturn, 1) := by decide +kernel
theorem dX13_has_118 : decode cX13_has 118 = .ok (.aload_n 3, 1) := by decide +kernel
theorem dX13_has_119 : decode cX13_has 119 = .ok (.getfield 164, 3) := by decide +kernel
theorem dX13_has_122 : decode cX13_has 122 = .ok (.ireturn, 1) := by decide +kernel
theorem dX13_look_0 : decode cX13_look 0 = .ok (.iload_n 1, 1) := by decide +kernel
theorem dX13_look_1 : decode cX13_look 1 = .ok (.bipush 6, 2) := by decide +kernel
theorem dX13_look_3 : decode cX13_look 3 = .ok (.invokestatic 94, 3) := by decide +kernel
theorem dX13_look_6 : decode cX13_look 6 = .ok (.ifCond .ne 5, 3) := by decide +kernel
theorem dX13_look_9 : decode cX13_look 9 = .ok (.iconst (-1), 1) := by decide +kernel
theorem dX13_look_10 : decode cX13_look 10 = .ok (.ireturn, 1) := by decide +kernel
theorem dX13_look_11 : decode cX13_look 11 = .ok (.iload_n 2, 1) := by decide +kernel
theorem dX13_look_12 : decode cX13_look 12 = .ok (.iconst 4, 1) := by decide +kernel
theorem dX13_look_13 : decode cX13_look 13 = .ok (.invokestatic 94, 3) := by decide +kernel
theorem dX13_look_16 : decode cX13_look 16 = .ok (.ifCond .ne 6, 3) := by decide +kernel
theorem dX13_look_19 : decode cX13_look 19 = .ok (.bipush (-2), 2) := by decide +kernel
theorem dX13_look_21 : decode cX13_look 21 = .ok (.ireturn, 1) := by decide +kernel
theorem dX13_look_22 : decode cX13_look 22 = .ok (.aload_n 0, 1) := by decide +kernel
theorem dX13_look_23 : decode cX13_look 23 = .ok (.getfield 51, 3) := by decide +kernel
theorem dX13_look_26 : decode cX13_look 26 = .ok (.iload_n 2, 1) := by decide +kernel
theorem dX13_look_27 : decode cX13_look 27 = .ok (.iconst 1, 1) := by decide +kernel
theorem dX13_look_28 : decode cX13_look 28 = .ok (.invokevirtual 165, 3) := by decide +kernel
theorem dX13_look_31 : decode cX13_look 31 = .ok (.aload_n 0, 1) := by decide +kernel
theorem dX13_look_32 : decode cX13_look 32 = .ok (.getfield 51, 3) := by decide +kernel
theorem dX13_look_35 : decode cX13_look 35 = .ok (.iload_n 1, 1) := by decide +kernel
theorem dX13_look_36 : decode cX13_look 36 = .ok (.iconst 0, 1) := by decide +kernel
theorem dX13_look_37 : decode cX13_look 37 = .ok (.invokevirtual 169, 3) := by decide +kernel
theorem dX13_look_40 : decode cX13_look 40 = .ok (.aload_n 0, 1) := by decide +kernel
theorem dX13_look_41 : decode cX13_look 41 = .ok (.getfield 51, 3) := by decide +kernel
theorem dX13_look_44 : decode cX13_look 44 = .ok (.getfield 172, 3) := by decide +kernel
theorem dX13_look_47 : decode cX13_look 47 = .ok (.ifCond .eq 8, 3) := by decide +kernel
theorem dX13_look_50 : decode cX13_look 50 = .ok (.bipush (-20), 2) := by decide +kernel
theorem dX13_look_52 : decode cX13_look 52 = .ok (.goto 10, 3) := by decide +kernel
theorem dX13_look_55 : decode cX13_look 55 = .ok (.aload_n 0, 1) := by decide +kernel
theorem dX13_look_56 : decode cX13_look 56 = .ok (.getfield 51, 3) := by decide +kernel
theorem dX13_look_59 : decode cX13_look 59 = .ok (.getfield 176, 3) := by decide +kernel
theorem dX13_look_62 : decode cX13_look 62 = .ok (.ireturn, 1) := by decide +kernel
theorem dX13_press_0 : decode cX13_press 0 = .ok (.iload_n 1, 1) := by decide +kernel
theorem dX13_press_1 : decode cX13_press 1 = .ok (.bipush 6, 2) := by decide +kernel
theorem dX13_press_3 : decode cX13_press 3 = .ok (.invokestatic 94, 3) := by decide +kernel
theorem dX13_press_6 : decode cX13_press 6 = .ok (.ifCond .ne 5, 3) := by decide +kernel
theorem dX13_press_9 : decode cX13_press 9 = .ok (.iconst (-1), 1) := by decide +kernel
theorem dX13_press_10 : decode cX13_press 10 = .ok (.ireturn, 1) := by decide +kernel
theorem dX13_press_11 : decode cX13_press 11 = .ok (.aload_n 0, 1) := by decide +kernel
theorem dX13_press_12 : decode cX13_press 12 = .ok (.getfield 51, 3) := by decide +kernel
theorem dX13_press_15 : decode cX13_press 15 = .ok (.iconst 0, 1) := by decide +kernel
theorem dX13_press_16 : decode cX13_press 16 = .ok (.iconst 1, 1) := by decide +kernel
theorem dX13_press_17 : decode cX13_press 17 = .ok (.invokevirtual 165, 3) := by decide +kernel
theorem dX13_press_20 : decode cX13_press 20 = .ok (.aload_n 0, 1) := by decide +kernel
theorem dX13_press_21 : decode cX13_press 21 = .ok (.getfield 51, 3) := by decide +kernel
theorem dX13_press_24 : decode cX13_press 24 = .ok (.iload_n 1, 1) := by decide +kernel
theorem dX13_press_25 : decode cX13_press 25 = .ok (.iconst 0, 1) := by decide +kernel
theorem dX13_press_26 : decode cX13_press 26 = .ok (.invokevirtual 169, 3) := by decide +kernel
theorem dX13_press_29 : decode cX13_press 29 = .ok (.aload_n 0, 1) := by decide +kernel
theorem dX13_press_30 : decode cX13_press 30 = .ok (.getfield 51, 3) := by decide +kernel
theorem dX13_press_33 : decode cX13_press 33 = .ok (.getfield 172, 3) := by decide +kernel
theorem dX13_press_36 : decode cX13_press 36 = .ok (.ifCond .eq 6, 3) := by decide +kernel
theorem dX13_press_39 : decode cX13_press 39 = .ok (.bipush (-20), 2) := by decide +kernel
theorem dX13_press_41 : decode cX13_press 41 = .ok (.ireturn, 1) := by decide +kernel
theorem dX13_press_42 : decode cX13_press 42 = .ok (.aload_n 0, 1) := by decide +kernel
theorem dX13_press_43 : decode cX13_press 43 = .ok (.getfield 51, 3) := by decide +kernel
theorem dX13_press_46 : decode cX13_press 46 = .ok (.iconst 0, 1) := by decide +kernel
theorem dX13_press_47 : decode cX13_press 47 = .ok (.iconst 0, 1) := by decide +kernel
theorem dX13_press_48 : decode cX13_press 48 = .ok (.invokevirtual 165, 3) := by decide +kernel
theorem dX13_press_51 : decode cX13_press 51 = .ok (.aload_n 0, 1) := by decide +kernel
theorem dX13_press_52 : decode cX13_press 52 = .ok (.getfield 51, 3) := by decide +kernel
theorem dX13_press_55 : decode cX13_press 55 = .ok (.iload_n 1, 1) := by decide +kernel
theorem dX13_press_56 : decode cX13_press 56 = .ok (.iconst 0, 1) := by decide +kernel
theorem dX13_press_57 : decode cX13_press 57 = .ok (.invokevirtual 169, 3) := by decide +kernel
theorem dX13_press_60 : decode cX13_press 60 = .ok (.aload_n 0, 1) := by decide +kernel
theorem dX13_press_61 : decode cX13_press 61 = .ok (.aload_n 0, 1) := by decide +kernel
theorem dX13_press_62 : decode cX13_press 62 = .ok (.getfield 51, 3) := by decide +kernel
theorem dX13_press_65 : decode cX13_press 65 = .ok (.getfield 179, 3) := by decide +kernel
theorem dX13_press_68 : decode cX13_press 68 = .ok (.putfield 182, 3) := by decide +kernel
theorem dX13_press_71 : decode cX13_press 71 = .ok (.aload_n 0, 1) := by decide +kernel
theorem dX13_press_72 : decode cX13_press 72 = .ok (.getfield 51, 3) := by decide +kernel
theorem dX13_press_75 : decode cX13_press 75 = .ok (.getfield 172, 3) := by decide +kernel
theorem dX13_press_78 : decode cX13_press 78 = .ok (.ifCond .eq 6, 3) := by decide +kernel
theorem dX13_press_81 : decode cX13_press 81 = .ok (.bipush (-20), 2) := by decide +kernel
theorem dX13_press_83 : decode cX13_press 83 = .ok (.ireturn, 1) := by decide +kernel
theorem dX13_press_84 : decode cX13_press 84 = .ok (.aload_n 0, 1) := by decide +kernel
theorem dX13_press_85 : decode cX13_press 85 = .ok (.getfield 22, 3) := by decide +kernel
theorem dX13_press_88 : decode cX13_press 88 = .ok (.getfield 185, 3) := by decide +kernel
theorem dX13_press_91 : decode cX13_press 91 = .ok (.aload_n 0, 1) := by decide +kernel
theorem dX13_press_92 : decode cX13_press 92 = .ok (.getfield 51, 3) := by decide +kernel
theorem dX13_press_95 : decode cX13_press 95 = .ok (.getfield 188, 3) := by decide +kernel
theorem dX13_press_98 : decode cX13_press 98 = .ok (.invokevirtual 191, 3) := by decide +kernel
theorem dX13_press_101 : decode cX13_press 101 = .ok (.aload_n 0, 1) := by decide +kernel
theorem dX13_press_102 : decode cX13_press 102 = .ok (.getfield 22, 3) := by decide +kernel
theorem dX13_press_105 : decode cX13_press 105 = .ok (.getfield 185, 3) := by decide +kernel
theorem dX13_press_108 : decode cX13_press 108 = .ok (.getfield 123, 3) := by decide +kernel
theorem dX13_press_111 : decode cX13_press 111 = .ok (.ireturn, 1) := by decide +kernel
theorem dX13_filter_0 : decode cX13_filter 0 = .ok (.aload_n 0, 1) := by decide +kernel
theorem dX13_filter_1 : decode cX13_filter 1 = .ok (.getfield 22, 3) := by decide +kernel
theorem dX13_filter_4 : decode cX13_filter 4 = .ok (.iload_n 1, 1) := by decide +kernel
theorem dX13_filter_5 : decode cX13_filter 5 = .ok (.invokevirtual 59, 3) := by decide +kernel
theorem dX13_filter_8 : decode cX13_filter 8 = .ok (.astore_n 2, 1) := by decide +kernel
theorem dX13_filter_9 : decode cX13_filter 9 = .ok (.aload_n 2, 1) := by decide +kernel
theorem dX13_filter_10 : decode cX13_filter 10 = .ok (.ifnonnull 5, 3) := by decide +kernel
theorem dX13_filter_13 : decode cX13_filter 13 = .ok (.iconst (-1), 1) := by decide +kernel
theorem dX13_filter_14 : decode cX13_filter 14 = .ok (.ireturn, 1) := by decide +kernel
theorem dX13_filter_15 : decode cX13_filter 15 = .ok (.new 124, 3) := by decide +kernel
theorem dX13_filter_18 : decode cX13_filter 18 = .ok (.dup, 1) := by decide +kernel
theorem dX13_filter_19 : decode cX13_filter 19 = .ok (.aload_n 0, 1) := by decide +kernel
theorem dX13_filter_20 : decode cX13_filter 20 = .ok (.getfield 29, 3) := by decide +kernel
theorem dX13_filter_23 : decode cX13_filter 23 = .ok (.invokespecial 126, 3) := by decide +kernel
theorem dX13_filter_26 : decode cX13_filter 26 = .ok (.astore_n 3, 1) := by decide +kernel
theorem dX13_filter_27 : decode cX13_filter 27 = .ok (.aload_n 3, 1) := by decide +kernel
theorem dX13_filter_28 : decode cX13_filter 28 = .ok (.invokevirtual 194, 3) := by decide +kernel
theorem dX13_filter_31 : decode cX13_filter 31 = .ok (.astore 4, 2) := by decide +kernel
theorem dX13_filter_33 : decode cX13_filter 33 = .ok (.aload_n 0, 1) := by decide +kernel
theorem dX13_filter_34 : decode cX13_filter 34 = .ok (.getfield 29, 3) := by decide +kernel
theorem dX13_filter_37 : decode cX13_filter 37 = .ok (.invokevirtual 85, 3) := by decide +kernel
theorem dX13_filter_40 : decode cX13_filter 40 = .ok (.aload 4, 2) := by decide +kernel
theorem dX13_filter_42 : decode cX13_filter 42 = .ok (.ifnonnull 11, 3) := by decide +kernel
theorem dX13_filter_45 : decode cX13_filter 45 = .ok (.bipush (-100), 2) := by decide +kernel
theorem dX13_filter_47 : decode cX13_filter 47 = .ok (.aload_n 3, 1) := by decide +kernel
theorem dX13_filter_48 : decode cX13_filter 48 = .ok (.getfield 133, 3) := by decide +kernel
theorem dX13_filter_51 : decode cX13_filter 51 = .ok (.isub, 1) := by decide +kernel
theorem dX13_filter_52 : decode cX13_filter 52 = .ok (.ireturn, 1) := by decide +kernel
theorem dX13_filter_53 : decode cX13_filter 53 = .ok (.aload_n 0, 1) := by decide +kernel
theorem dX13_filter_54 : decode cX13_filter 54 = .ok (.getfield 42, 3) := by decide +kernel
theorem dX13_filter_57 : decode cX13_filter 57 = .ok (.aload_n 2, 1) := by decide +kernel
theorem dX13_filter_58 : decode cX13_filter 58 = .ok (.invokevirtual 198, 3) := by decide +kernel
theorem dX13_filter_61 : decode cX13_filter 61 = .ok (.aload_n 0, 1) := by decide +kernel
theorem dX13_filter_62 : decode cX13_filter 62 = .ok (.getfield 42, 3) := by decide +kernel
theorem dX13_filter_65 : decode cX13_filter 65 = .ok (.aload 4, 2) := by decide +kernel
theorem dX13_filter_67 : decode cX13_filter 67 = .ok (.invokevirtual 201, 3) := by decide +kernel
theorem dX13_filter_70 : decode cX13_filter 70 = .ok (.istore 5, 2) := by decide +kernel
theorem dX13_filter_72 : decode cX13_filter 72 = .ok (.iload 5, 2) := by decide +kernel
theorem dX13_filter_74 : decode cX13_filter 74 = .ok (.ifCond .eq 24, 3) := by decide +kernel
theorem dX13_filter_77 : decode cX13_filter 77 = .ok (.aload_n 0, 1) := by decide +kernel
theorem dX13_filter_78 : decode cX13_filter 78 = .ok (.getfield 33, 3) := by decide +kernel
theorem dX13_filter_81 : decode cX13_filter 81 = .ok (.invokevirtual 85, 3) := by decide +kernel
theorem dX13_filter_84 : decode cX13_filter 84 = .ok (.aload_n 0, 1) := by decide +kernel
theorem dX13_filter_85 : decode cX13_filter 85 = .ok (.getfield 33, 3) := by decide +kernel
theorem dX13_filter_88 : decode cX13_filter 88 = .ok (.iconst (-1), 1) := by decide +kernel
theorem dX13_filter_89 : decode cX13_filter 89 = .ok (.iconst 0, 1) := by decide +kernel
theorem dX13_filter_90 : decode cX13_filter 90 = .ok (.iload 5, 2) := by decide +kernel
theorem dX13_filter_92 : decode cX13_filter 92 = .ok (.invokevirtual 205, 3) := by decide +kernel
theorem dX13_filter_95 : decode cX13_filter 95 = .ok (.bipush (-20), 2) := by decide +kernel
theorem dX13_filter_97 : decode cX13_filter 97 = .ok (.ireturn, 1) := by decide +kernel
theorem dX13_filter_98 : decode cX13_filter 98 = .ok (.aload_n 2, 1) := by decide +kernel
theorem dX13_filter_99 : decode cX13_filter 99 = .ok (.aload_n 0, 1) := by decide +kernel
theorem dX13_filter_100 : decode cX13_filter 100 = .ok (.getfield 42, 3) := by decide +kernel
theorem dX13_filter_103 : decode cX13_filter 103 = .ok (.invokevirtual 198, 3) := by decide +kernel
theorem dX13_filter_106 : decode cX13_filter 106 = .ok (.aload_n 2, 1) := by decide +kernel
theorem dX13_filter_107 : decode cX13_filter 107 = .ok (.getfield 63, 3) := by decide +kernel
theorem dX13_filter_110 : decode cX13_filter 110 = .ok (.ireturn, 1) := by decide +kernel
theorem dX13_page_0 : decode cX13_page 0 = .ok (.aload_n 0, 1) := by decide +kernel
theorem dX13_page_1 : decode cX13_page 1 = .ok (.getfield 22, 3) := by decide +kernel
theorem dX13_page_4 : decode cX13_page 4 = .ok (.getfield 185, 3) := by decide +kernel
theorem dX13_page_7 : decode cX13_page 7 = .ok (.iload_n 1, 1) := by decide +kernel
theorem dX13_page_8 : decode cX13_page 8 = .ok (.invokevirtual 118, 3) := by decide +kernel
theorem dX13_page_11 : decode cX13_page 11 = .ok (.ireturn, 1) := by decide +kernel
theorem dX13_why_0 : decode cX13_why 0 = .ok (.iload_n 1, 1) := by decide +kernel
theorem dX13_why_1 : decode cX13_why 1 = .ok (.aload_n 0, 1) := by decide +kernel
theorem dX13_why_2 : decode cX13_why 2 = .ok (.getfield 33, 3) := by decide +kernel
theorem dX13_why_5 : decode cX13_why 5 = .ok (.getfield 123, 3) := by decide +kernel
theorem dX13_why_8 : decode cX13_why 8 = .ok (.iconst 3, 1) := by decide +kernel
theorem dX13_why_9 : decode cX13_why 9 = .ok (.idiv, 1) := by decide +kernel
theorem dX13_why_10 : decode cX13_why 10 = .ok (.invokestatic 94, 3) := by decide +kernel
theorem dX13_why_13 : decode cX13_why 13 = .ok (.ifCond .eq 11, 3) := by decide +kernel
theorem dX13_why_16 : decode cX13_why 16 = .ok (.iload_n 2, 1) := by decide +kernel
theorem dX13_why_17 : decode cX13_why 17 = .ok (.iconst 3, 1) := by decide +kernel
theorem dX13_why_18 : decode cX13_why 18 = .ok (.invokestatic 94, 3) := by decide +kernel
theorem dX13_why_21 : decode cX13_why 21 = .ok (.ifCond .ne 5, 3) := by decide +kernel
theorem dX13_why_24 : decode cX13_why 24 = .ok (.iconst (-1), 1) := by decide +kernel
theorem dX13_why_25 : decode cX13_why 25 = .ok (.ireturn, 1) := by decide +kernel
theorem dX13_why_26 : decode cX13_why 26 = .ok (.aload_n 0, 1) := by decide +kernel
theorem dX13_why_27 : decode cX13_why 27 = .ok (.getfield 33, 3) := by decide +kernel
theorem dX13_why_30 : decode cX13_why 30 = .ok (.iload_n 1, 1) := by decide +kernel
theorem dX13_why_31 : decode cX13_why 31 = .ok (.iconst 3, 1) := by decide +kernel
theorem dX13_why_32 : decode cX13_why 32 = .ok (.imul, 1) := by decide +kernel
theorem dX13_why_33 : decode cX13_why 33 = .ok (.iload_n 2, 1) := by decide +kernel
theorem dX13_why_34 : decode cX13_why 34 = .ok (.iadd, 1) := by decide +kernel
theorem dX13_why_35 : decode cX13_why 35 = .ok (.invokevirtual 118, 3) := by decide +kernel
theorem dX13_why_38 : decode cX13_why 38 = .ok (.ireturn, 1) := by decide +kernel
theorem dX13_budget_0 : decode cX13_budget 0 = .ok (.iload_n 1, 1) := by decide +kernel
theorem dX13_budget_1 : decode cX13_budget 1 = .ok (.ifCond .lt 10, 3) := by decide +kernel
theorem dX13_budget_4 : decode cX13_budget 4 = .ok (.iload_n 1, 1) := by decide +kernel
theorem dX13_budget_5 : decode cX13_budget 5 = .ok (.sipush 400, 3) := by decide +kernel
theorem dX13_budget_8 : decode cX13_budget 8 = .ok (.if_icmp .le 6, 3) := by decide +kernel
theorem dX13_budget_11 : decode cX13_budget 11 = .ok (.bipush (-2), 2) := by decide +kernel
