theorem dX13_budget_13 : decode cX13_budget 13 = .ok (.ireturn, 1) := by decide +kernel
theorem dX13_budget_14 : decode cX13_budget 14 = .ok (.aload_n 0, 1) := by decide +kernel
theorem dX13_budget_15 : decode cX13_budget 15 = .ok (.getfield 22, 3) := by decide +kernel
theorem dX13_budget_18 : decode cX13_budget 18 = .ok (.getfield 209, 3) := by decide +kernel
theorem dX13_budget_21 : decode cX13_budget 21 = .ok (.istore_n 2, 1) := by decide +kernel
theorem dX13_budget_22 : decode cX13_budget 22 = .ok (.aload_n 0, 1) := by decide +kernel
theorem dX13_budget_23 : decode cX13_budget 23 = .ok (.getfield 22, 3) := by decide +kernel
theorem dX13_budget_26 : decode cX13_budget 26 = .ok (.iload_n 1, 1) := by decide +kernel
theorem dX13_budget_27 : decode cX13_budget 27 = .ok (.putfield 209, 3) := by decide +kernel
theorem dX13_budget_30 : decode cX13_budget 30 = .ok (.iload_n 2, 1) := by decide +kernel
theorem dX13_budget_31 : decode cX13_budget 31 = .ok (.ireturn, 1) := by decide +kernel
theorem dX13_told_0 : decode cX13_told 0 = .ok (.iload_n 1, 1) := by decide +kernel
theorem dX13_told_1 : decode cX13_told 1 = .ok (.tableswitch 121 0 7 #[47, 58, 68, 76, 84, 92, 97, 108], 47) := by decide +kernel
theorem dX13_told_48 : decode cX13_told 48 = .ok (.aload_n 0, 1) := by decide +kernel
theorem dX13_told_49 : decode cX13_told 49 = .ok (.getfield 22, 3) := by decide +kernel
theorem dX13_told_52 : decode cX13_told 52 = .ok (.getfield 185, 3) := by decide +kernel
theorem dX13_told_55 : decode cX13_told 55 = .ok (.getfield 123, 3) := by decide +kernel
theorem dX13_told_58 : decode cX13_told 58 = .ok (.ireturn, 1) := by decide +kernel
theorem dX13_told_59 : decode cX13_told 59 = .ok (.aload_n 0, 1) := by decide +kernel
theorem dX13_told_60 : decode cX13_told 60 = .ok (.getfield 33, 3) := by decide +kernel
theorem dX13_told_63 : decode cX13_told 63 = .ok (.getfield 123, 3) := by decide +kernel
theorem dX13_told_66 : decode cX13_told 66 = .ok (.iconst 3, 1) := by decide +kernel
theorem dX13_told_67 : decode cX13_told 67 = .ok (.idiv, 1) := by decide +kernel
theorem dX13_told_68 : decode cX13_told 68 = .ok (.ireturn, 1) := by decide +kernel
theorem dX13_told_69 : decode cX13_told 69 = .ok (.aload_n 0, 1) := by decide +kernel
theorem dX13_told_70 : decode cX13_told 70 = .ok (.getfield 22, 3) := by decide +kernel
theorem dX13_told_73 : decode cX13_told 73 = .ok (.getfield 209, 3) := by decide +kernel
theorem dX13_told_76 : decode cX13_told 76 = .ok (.ireturn, 1) := by decide +kernel
theorem dX13_told_77 : decode cX13_told 77 = .ok (.aload_n 0, 1) := by decide +kernel
theorem dX13_told_78 : decode cX13_told 78 = .ok (.getfield 22, 3) := by decide +kernel
theorem dX13_told_81 : decode cX13_told 81 = .ok (.invokevirtual 212, 3) := by decide +kernel
theorem dX13_told_84 : decode cX13_told 84 = .ok (.ireturn, 1) := by decide +kernel
theorem dX13_told_85 : decode cX13_told 85 = .ok (.aload_n 0, 1) := by decide +kernel
theorem dX13_told_86 : decode cX13_told 86 = .ok (.getfield 29, 3) := by decide +kernel
theorem dX13_told_89 : decode cX13_told 89 = .ok (.getfield 123, 3) := by decide +kernel
theorem dX13_told_92 : decode cX13_told 92 = .ok (.ireturn, 1) := by decide +kernel
theorem dX13_told_93 : decode cX13_told 93 = .ok (.aload_n 0, 1) := by decide +kernel
theorem dX13_told_94 : decode cX13_told 94 = .ok (.getfield 182, 3) := by decide +kernel
theorem dX13_told_97 : decode cX13_told 97 = .ok (.ireturn, 1) := by decide +kernel
theorem dX13_told_98 : decode cX13_told 98 = .ok (.aload_n 0, 1) := by decide +kernel
theorem dX13_told_99 : decode cX13_told 99 = .ok (.getfield 22, 3) := by decide +kernel
theorem dX13_told_102 : decode cX13_told 102 = .ok (.getfield 185, 3) := by decide +kernel
theorem dX13_told_105 : decode cX13_told 105 = .ok (.invokevirtual 215, 3) := by decide +kernel
theorem dX13_told_108 : decode cX13_told 108 = .ok (.ireturn, 1) := by decide +kernel
theorem dX13_told_109 : decode cX13_told 109 = .ok (.aload_n 0, 1) := by decide +kernel
theorem dX13_told_110 : decode cX13_told 110 = .ok (.getfield 22, 3) := by decide +kernel
theorem dX13_told_113 : decode cX13_told 113 = .ok (.getfield 185, 3) := by decide +kernel
theorem dX13_told_116 : decode cX13_told 116 = .ok (.bipush 10, 2) := by decide +kernel
theorem dX13_told_118 : decode cX13_told 118 = .ok (.invokevirtual 218, 3) := by decide +kernel
theorem dX13_told_121 : decode cX13_told 121 = .ok (.ireturn, 1) := by decide +kernel
theorem dX13_told_122 : decode cX13_told 122 = .ok (.iconst (-1), 1) := by decide +kernel
theorem dX13_told_123 : decode cX13_told 123 = .ok (.ireturn, 1) := by decide +kernel
theorem dX13_row_0 : decode cX13_row 0 = .ok (.iload_n 1, 1) := by decide +kernel
theorem dX13_row_1 : decode cX13_row 1 = .ok (.bipush 6, 2) := by decide +kernel
theorem dX13_row_3 : decode cX13_row 3 = .ok (.invokestatic 94, 3) := by decide +kernel
theorem dX13_row_6 : decode cX13_row 6 = .ok (.ifCond .eq 11, 3) := by decide +kernel
theorem dX13_row_9 : decode cX13_row 9 = .ok (.iload_n 2, 1) := by decide +kernel
theorem dX13_row_10 : decode cX13_row 10 = .ok (.iconst 3, 1) := by decide +kernel
theorem dX13_row_11 : decode cX13_row 11 = .ok (.invokestatic 94, 3) := by decide +kernel
theorem dX13_row_14 : decode cX13_row 14 = .ok (.ifCond .ne 5, 3) := by decide +kernel
theorem dX13_row_17 : decode cX13_row 17 = .ok (.iconst (-1), 1) := by decide +kernel
theorem dX13_row_18 : decode cX13_row 18 = .ok (.ireturn, 1) := by decide +kernel
theorem dX13_row_19 : decode cX13_row 19 = .ok (.iload_n 3, 1) := by decide +kernel
theorem dX13_row_20 : decode cX13_row 20 = .ok (.bipush 60, 2) := by decide +kernel
theorem dX13_row_22 : decode cX13_row 22 = .ok (.if_icmp .le 6, 3) := by decide +kernel
theorem dX13_row_25 : decode cX13_row 25 = .ok (.bipush (-2), 2) := by decide +kernel
theorem dX13_row_27 : decode cX13_row 27 = .ok (.ireturn, 1) := by decide +kernel
theorem dX13_row_28 : decode cX13_row 28 = .ok (.iload_n 3, 1) := by decide +kernel
theorem dX13_row_29 : decode cX13_row 29 = .ok (.ifCond .ge 6, 3) := by decide +kernel
theorem dX13_row_32 : decode cX13_row 32 = .ok (.bipush (-14), 2) := by decide +kernel
theorem dX13_row_34 : decode cX13_row 34 = .ok (.ireturn, 1) := by decide +kernel
theorem dX13_row_35 : decode cX13_row 35 = .ok (.aload_n 0, 1) := by decide +kernel
theorem dX13_row_36 : decode cX13_row 36 = .ok (.getfield 55, 3) := by decide +kernel
theorem dX13_row_39 : decode cX13_row 39 = .ok (.iload_n 1, 1) := by decide +kernel
theorem dX13_row_40 : decode cX13_row 40 = .ok (.aaload, 1) := by decide +kernel
theorem dX13_row_41 : decode cX13_row 41 = .ok (.iload_n 2, 1) := by decide +kernel
theorem dX13_row_42 : decode cX13_row 42 = .ok (.iload_n 3, 1) := by decide +kernel
theorem dX13_row_43 : decode cX13_row 43 = .ok (.invokevirtual 221, 3) := by decide +kernel
theorem dX13_row_46 : decode cX13_row 46 = .ok (.iconst 1, 1) := by decide +kernel
theorem dX13_row_47 : decode cX13_row 47 = .ok (.ireturn, 1) := by decide +kernel
theorem dX13_set_0 : decode cX13_set 0 = .ok (.iload_n 1, 1) := by decide +kernel
theorem dX13_set_1 : decode cX13_set 1 = .ok (.bipush 6, 2) := by decide +kernel
theorem dX13_set_3 : decode cX13_set 3 = .ok (.invokestatic 94, 3) := by decide +kernel
theorem dX13_set_6 : decode cX13_set 6 = .ok (.ifCond .ne 5, 3) := by decide +kernel
theorem dX13_set_9 : decode cX13_set 9 = .ok (.iconst (-1), 1) := by decide +kernel
theorem dX13_set_10 : decode cX13_set 10 = .ok (.ireturn, 1) := by decide +kernel
theorem dX13_set_11 : decode cX13_set 11 = .ok (.aload_n 0, 1) := by decide +kernel
theorem dX13_set_12 : decode cX13_set 12 = .ok (.getfield 55, 3) := by decide +kernel
theorem dX13_set_15 : decode cX13_set 15 = .ok (.iload_n 1, 1) := by decide +kernel
theorem dX13_set_16 : decode cX13_set 16 = .ok (.aaload, 1) := by decide +kernel
theorem dX13_set_17 : decode cX13_set 17 = .ok (.astore 5, 2) := by decide +kernel
theorem dX13_set_19 : decode cX13_set 19 = .ok (.aload 5, 2) := by decide +kernel
theorem dX13_set_21 : decode cX13_set 21 = .ok (.invokevirtual 223, 3) := by decide +kernel
theorem dX13_set_24 : decode cX13_set 24 = .ok (.ifCond .eq 6, 3) := by decide +kernel
theorem dX13_set_27 : decode cX13_set 27 = .ok (.bipush (-11), 2) := by decide +kernel
theorem dX13_set_29 : decode cX13_set 29 = .ok (.ireturn, 1) := by decide +kernel
theorem dX13_set_30 : decode cX13_set 30 = .ok (.iload_n 2, 1) := by decide +kernel
theorem dX13_set_31 : decode cX13_set 31 = .ok (.aload 5, 2) := by decide +kernel
theorem dX13_set_33 : decode cX13_set 33 = .ok (.getfield 226, 3) := by decide +kernel
theorem dX13_set_36 : decode cX13_set 36 = .ok (.invokestatic 94, 3) := by decide +kernel
theorem dX13_set_39 : decode cX13_set 39 = .ok (.ifCond .ne 6, 3) := by decide +kernel
theorem dX13_set_42 : decode cX13_set 42 = .ok (.bipush (-13), 2) := by decide +kernel
theorem dX13_set_44 : decode cX13_set 44 = .ok (.ireturn, 1) := by decide +kernel
theorem dX13_set_45 : decode cX13_set 45 = .ok (.aload 5, 2) := by decide +kernel
theorem dX13_set_47 : decode cX13_set 47 = .ok (.iload_n 2, 1) := by decide +kernel
theorem dX13_set_48 : decode cX13_set 48 = .ok (.lload_n 3, 1) := by decide +kernel
theorem dX13_set_49 : decode cX13_set 49 = .ok (.invokevirtual 227, 3) := by decide +kernel
theorem dX13_set_52 : decode cX13_set 52 = .ok (.iconst 1, 1) := by decide +kernel
theorem dX13_set_53 : decode cX13_set 53 = .ok (.ireturn, 1) := by decide +kernel
theorem dX13_get_0 : decode cX13_get 0 = .ok (.iload_n 1, 1) := by decide +kernel
theorem dX13_get_1 : decode cX13_get 1 = .ok (.bipush 6, 2) := by decide +kernel
theorem dX13_get_3 : decode cX13_get 3 = .ok (.invokestatic 94, 3) := by decide +kernel
theorem dX13_get_6 : decode cX13_get 6 = .ok (.ifCond .ne 7, 3) := by decide +kernel
theorem dX13_get_9 : decode cX13_get 9 = .ok (.ldc2_w 230, 3) := by decide +kernel
theorem dX13_get_12 : decode cX13_get 12 = .ok (.lreturn, 1) := by decide +kernel
theorem dX13_get_13 : decode cX13_get 13 = .ok (.aload_n 0, 1) := by decide +kernel
theorem dX13_get_14 : decode cX13_get 14 = .ok (.getfield 55, 3) := by decide +kernel
theorem dX13_get_17 : decode cX13_get 17 = .ok (.iload_n 1, 1) := by decide +kernel
theorem dX13_get_18 : decode cX13_get 18 = .ok (.aaload, 1) := by decide +kernel
theorem dX13_get_19 : decode cX13_get 19 = .ok (.astore_n 3, 1) := by decide +kernel
theorem dX13_get_20 : decode cX13_get 20 = .ok (.iload_n 2, 1) := by decide +kernel
theorem dX13_get_21 : decode cX13_get 21 = .ok (.aload_n 3, 1) := by decide +kernel
theorem dX13_get_22 : decode cX13_get 22 = .ok (.getfield 226, 3) := by decide +kernel
theorem dX13_get_25 : decode cX13_get 25 = .ok (.invokestatic 94, 3) := by decide +kernel
theorem dX13_get_28 : decode cX13_get 28 = .ok (.ifCond .eq 11, 3) := by decide +kernel
theorem dX13_get_31 : decode cX13_get 31 = .ok (.aload_n 3, 1) := by decide +kernel
theorem dX13_get_32 : decode cX13_get 32 = .ok (.iload_n 2, 1) := by decide +kernel
theorem dX13_get_33 : decode cX13_get 33 = .ok (.invokevirtual 232, 3) := by decide +kernel
theorem dX13_get_36 : decode cX13_get 36 = .ok (.goto 6, 3) := by decide +kernel
theorem dX13_get_39 : decode cX13_get 39 = .ok (.ldc2_w 230, 3) := by decide +kernel
theorem dX13_get_42 : decode cX13_get 42 = .ok (.lreturn, 1) := by decide +kernel
theorem dX13_move_0 : decode cX13_move 0 = .ok (.iload_n 1, 1) := by decide +kernel
theorem dX13_move_1 : decode cX13_move 1 = .ok (.bipush 6, 2) := by decide +kernel
theorem dX13_move_3 : decode cX13_move 3 = .ok (.invokestatic 94, 3) := by decide +kernel
theorem dX13_move_6 : decode cX13_move 6 = .ok (.ifCond .eq 12, 3) := by decide +kernel
theorem dX13_move_9 : decode cX13_move 9 = .ok (.iload_n 3, 1) := by decide +kernel
theorem dX13_move_10 : decode cX13_move 10 = .ok (.bipush 6, 2) := by decide +kernel
theorem dX13_move_12 : decode cX13_move 12 = .ok (.invokestatic 94, 3) := by decide +kernel
theorem dX13_move_15 : decode cX13_move 15 = .ok (.ifCond .ne 5, 3) := by decide +kernel
theorem dX13_move_18 : decode cX13_move 18 = .ok (.iconst (-1), 1) := by decide +kernel
theorem dX13_move_19 : decode cX13_move 19 = .ok (.ireturn, 1) := by decide +kernel
theorem dX13_move_20 : decode cX13_move 20 = .ok (.aload_n 0, 1) := by decide +kernel
theorem dX13_move_21 : decode cX13_move 21 = .ok (.getfield 55, 3) := by decide +kernel
theorem dX13_move_24 : decode cX13_move 24 = .ok (.iload_n 1, 1) := by decide +kernel
theorem dX13_move_25 : decode cX13_move 25 = .ok (.aaload, 1) := by decide +kernel
theorem dX13_move_26 : decode cX13_move 26 = .ok (.astore 6, 2) := by decide +kernel
theorem dX13_move_28 : decode cX13_move 28 = .ok (.aload_n 0, 1) := by decide +kernel
theorem dX13_move_29 : decode cX13_move 29 = .ok (.getfield 55, 3) := by decide +kernel
theorem dX13_move_32 : decode cX13_move 32 = .ok (.iload_n 3, 1) := by decide +kernel
theorem dX13_move_33 : decode cX13_move 33 = .ok (.aaload, 1) := by decide +kernel
theorem dX13_move_34 : decode cX13_move 34 = .ok (.astore 7, 2) := by decide +kernel
theorem dX13_move_36 : decode cX13_move 36 = .ok (.aload 6, 2) := by decide +kernel
theorem dX13_move_38 : decode cX13_move 38 = .ok (.invokevirtual 223, 3) := by decide +kernel
theorem dX13_move_41 : decode cX13_move 41 = .ok (.ifCond .ne 11, 3) := by decide +kernel
theorem dX13_move_44 : decode cX13_move 44 = .ok (.aload 7, 2) := by decide +kernel
theorem dX13_move_46 : decode cX13_move 46 = .ok (.invokevirtual 223, 3) := by decide +kernel
theorem dX13_move_49 : decode cX13_move 49 = .ok (.ifCond .eq 6, 3) := by decide +kernel
theorem dX13_move_52 : decode cX13_move 52 = .ok (.bipush (-11), 2) := by decide +kernel
theorem dX13_move_54 : decode cX13_move 54 = .ok (.ireturn, 1) := by decide +kernel
theorem dX13_move_55 : decode cX13_move 55 = .ok (.aload 6, 2) := by decide +kernel
theorem dX13_move_57 : decode cX13_move 57 = .ok (.getfield 236, 3) := by decide +kernel
theorem dX13_move_60 : decode cX13_move 60 = .ok (.aload 7, 2) := by decide +kernel
theorem dX13_move_62 : decode cX13_move 62 = .ok (.getfield 236, 3) := by decide +kernel
theorem dX13_move_65 : decode cX13_move 65 = .ok (.if_icmp .eq 6, 3) := by decide +kernel
theorem dX13_move_68 : decode cX13_move 68 = .ok (.bipush (-12), 2) := by decide +kernel
theorem dX13_move_70 : decode cX13_move 70 = .ok (.ireturn, 1) := by decide +kernel
theorem dX13_move_71 : decode cX13_move 71 = .ok (.aload 6, 2) := by decide +kernel
theorem dX13_move_73 : decode cX13_move 73 = .ok (.iload_n 2, 1) := by decide +kernel
theorem dX13_move_74 : decode cX13_move 74 = .ok (.iload 5, 2) := by decide +kernel
theorem dX13_move_76 : decode cX13_move 76 = .ok (.invokevirtual 237, 3) := by decide +kernel
theorem dX13_move_79 : decode cX13_move 79 = .ok (.ifCond .eq 15, 3) := by decide +kernel
theorem dX13_move_82 : decode cX13_move 82 = .ok (.aload 7, 2) := by decide +kernel
theorem dX13_move_84 : decode cX13_move 84 = .ok (.iload 4, 2) := by decide +kernel
theorem dX13_move_86 : decode cX13_move 86 = .ok (.iload 5, 2) := by decide +kernel
theorem dX13_move_88 : decode cX13_move 88 = .ok (.invokevirtual 237, 3) := by decide +kernel
theorem dX13_move_91 : decode cX13_move 91 = .ok (.ifCond .ne 6, 3) := by decide +kernel
theorem dX13_move_94 : decode cX13_move 94 = .ok (.bipush (-13), 2) := by decide +kernel
theorem dX13_move_96 : decode cX13_move 96 = .ok (.ireturn, 1) := by decide +kernel
theorem dX13_move_97 : decode cX13_move 97 = .ok (.aload 7, 2) := by decide +kernel
theorem dX13_move_99 : decode cX13_move 99 = .ok (.aload 6, 2) := by decide +kernel
theorem dX13_move_101 : decode cX13_move 101 = .ok (.iload_n 2, 1) := by decide +kernel
theorem dX13_move_102 : decode cX13_move 102 = .ok (.iload 4, 2) := by decide +kernel
theorem dX13_move_104 : decode cX13_move 104 = .ok (.iload 5, 2) := by decide +kernel
theorem dX13_move_106 : decode cX13_move 106 = .ok (.invokevirtual 240, 3) := by decide +kernel
theorem dX13_move_109 : decode cX13_move 109 = .ok (.iload 5, 2) := by decide +kernel
theorem dX13_move_111 : decode cX13_move 111 = .ok (.ireturn, 1) := by decide +kernel
theorem dX13_twin_0 : decode cX13_twin 0 = .ok (.iload_n 1, 1) := by decide +kernel
theorem dX13_twin_1 : decode cX13_twin 1 = .ok (.bipush 6, 2) := by decide +kernel
theorem dX13_twin_3 : decode cX13_twin 3 = .ok (.invokestatic 94, 3) := by decide +kernel
theorem dX13_twin_6 : decode cX13_twin 6 = .ok (.ifCond .eq 12, 3) := by decide +kernel
theorem dX13_twin_9 : decode cX13_twin 9 = .ok (.iload_n 2, 1) := by decide +kernel
theorem dX13_twin_10 : decode cX13_twin 10 = .ok (.bipush 6, 2) := by decide +kernel
theorem dX13_twin_12 : decode cX13_twin 12 = .ok (.invokestatic 94, 3) := by decide +kernel
theorem dX13_twin_15 : decode cX13_twin 15 = .ok (.ifCond .ne 5, 3) := by decide +kernel
theorem dX13_twin_18 : decode cX13_twin 18 = .ok (.iconst (-1), 1) := by decide +kernel
theorem dX13_twin_19 : decode cX13_twin 19 = .ok (.ireturn, 1) := by decide +kernel
theorem dX13_twin_20 : decode cX13_twin 20 = .ok (.aload_n 0, 1) := by decide +kernel
theorem dX13_twin_21 : decode cX13_twin 21 = .ok (.getfield 55, 3) := by decide +kernel
theorem dX13_twin_24 : decode cX13_twin 24 = .ok (.iload_n 1, 1) := by decide +kernel
theorem dX13_twin_25 : decode cX13_twin 25 = .ok (.aaload, 1) := by decide +kernel
theorem dX13_twin_26 : decode cX13_twin 26 = .ok (.astore_n 3, 1) := by decide +kernel
theorem dX13_twin_27 : decode cX13_twin 27 = .ok (.aload_n 3, 1) := by decide +kernel
theorem dX13_twin_28 : decode cX13_twin 28 = .ok (.invokevirtual 223, 3) := by decide +kernel
theorem dX13_twin_31 : decode cX13_twin 31 = .ok (.ifCond .eq 6, 3) := by decide +kernel
theorem dX13_twin_34 : decode cX13_twin 34 = .ok (.bipush (-11), 2) := by decide +kernel
theorem dX13_twin_36 : decode cX13_twin 36 = .ok (.ireturn, 1) := by decide +kernel
theorem dX13_twin_37 : decode cX13_twin 37 = .ok (.iload_n 1, 1) := by decide +kernel
theorem dX13_twin_38 : decode cX13_twin 38 = .ok (.iload_n 2, 1) := by decide +kernel
theorem dX13_twin_39 : decode cX13_twin 39 = .ok (.if_icmp .eq 36, 3) := by decide +kernel
theorem dX13_twin_42 : decode cX13_twin 42 = .ok (.aload_n 0, 1) := by decide +kernel
theorem dX13_twin_43 : decode cX13_twin 43 = .ok (.getfield 55, 3) := by decide +kernel
theorem dX13_twin_46 : decode cX13_twin 46 = .ok (.iload_n 2, 1) := by decide +kernel
theorem dX13_twin_47 : decode cX13_twin 47 = .ok (.aaload, 1) := by decide +kernel
theorem dX13_twin_48 : decode cX13_twin 48 = .ok (.aload_n 3, 1) := by decide +kernel
theorem dX13_twin_49 : decode cX13_twin 49 = .ok (.getfield 236, 3) := by decide +kernel
theorem dX13_twin_52 : decode cX13_twin 52 = .ok (.aload_n 3, 1) := by decide +kernel
theorem dX13_twin_53 : decode cX13_twin 53 = .ok (.getfield 226, 3) := by decide +kernel
theorem dX13_twin_56 : decode cX13_twin 56 = .ok (.invokevirtual 221, 3) := by decide +kernel
theorem dX13_twin_59 : decode cX13_twin 59 = .ok (.aload_n 0, 1) := by decide +kernel
theorem dX13_twin_60 : decode cX13_twin 60 = .ok (.getfield 55, 3) := by decide +kernel
theorem dX13_twin_63 : decode cX13_twin 63 = .ok (.iload_n 2, 1) := by decide +kernel
theorem dX13_twin_64 : decode cX13_twin 64 = .ok (.aaload, 1) := by decide +kernel
theorem dX13_twin_65 : decode cX13_twin 65 = .ok (.aload_n 3, 1) := by decide +kernel
theorem dX13_twin_66 : decode cX13_twin 66 = .ok (.iconst 0, 1) := by decide +kernel
theorem dX13_twin_67 : decode cX13_twin 67 = .ok (.iconst 0, 1) := by decide +kernel
theorem dX13_twin_68 : decode cX13_twin 68 = .ok (.aload_n 3, 1) := by decide +kernel
theorem dX13_twin_69 : decode cX13_twin 69 = .ok (.getfield 226, 3) := by decide +kernel
theorem dX13_twin_72 : decode cX13_twin 72 = .ok (.invokevirtual 240, 3) := by decide +kernel
theorem dX13_twin_75 : decode cX13_twin 75 = .ok (.aload_n 3, 1) := by decide +kernel
theorem dX13_twin_76 : decode cX13_twin 76 = .ok (.getfield 226, 3) := by decide +kernel
theorem dX13_twin_79 : decode cX13_twin 79 = .ok (.ireturn, 1) := by decide +kernel
theorem dX13_lay_0 : decode cX13_lay 0 = .ok (.iload_n 1, 1) := by decide +kernel
theorem dX13_lay_1 : decode cX13_lay 1 = .ok (.bipush 6, 2) := by decide +kernel
theorem dX13_lay_3 : decode cX13_lay 3 = .ok (.invokestatic 94, 3) := by decide +kernel
theorem dX13_lay_6 : decode cX13_lay 6 = .ok (.ifCond .ne 5, 3) := by decide +kernel
theorem dX13_lay_9 : decode cX13_lay 9 = .ok (.iconst (-1), 1) := by decide +kernel
theorem dX13_lay_10 : decode cX13_lay 10 = .ok (.ireturn, 1) := by decide +kernel
theorem dX13_lay_11 : decode cX13_lay 11 = .ok (.aload_n 0, 1) := by decide +kernel
theorem dX13_lay_12 : decode cX13_lay 12 = .ok (.getfield 55, 3) := by decide +kernel
theorem dX13_lay_15 : decode cX13_lay 15 = .ok (.iload_n 1, 1) := by decide +kernel
theorem dX13_lay_16 : decode cX13_lay 16 = .ok (.aaload, 1) := by decide +kernel
theorem dX13_lay_17 : decode cX13_lay 17 = .ok (.astore_n 3, 1) := by decide +kernel
theorem dX13_lay_18 : decode cX13_lay 18 = .ok (.aload_n 3, 1) := by decide +kernel
theorem dX13_lay_19 : decode cX13_lay 19 = .ok (.invokevirtual 223, 3) := by decide +kernel
theorem dX13_lay_22 : decode cX13_lay 22 = .ok (.ifCond .eq 6, 3) := by decide +kernel
theorem dX13_lay_25 : decode cX13_lay 25 = .ok (.bipush (-11), 2) := by decide +kernel
theorem dX13_lay_27 : decode cX13_lay 27 = .ok (.ireturn, 1) := by decide +kernel
theorem dX13_lay_28 : decode cX13_lay 28 = .ok (.iconst 0, 1) := by decide +kernel
theorem dX13_lay_29 : decode cX13_lay 29 = .ok (.istore 4, 2) := by decide +kernel
theorem dX13_lay_31 : decode cX13_lay 31 = .ok (.iload 4, 2) := by decide +kernel
theorem dX13_lay_33 : decode cX13_lay 33 = .ok (.aload_n 0, 1) := by decide +kernel
theorem dX13_lay_34 : decode cX13_lay 34 = .ok (.getfield 22, 3) := by decide +kernel
theorem dX13_lay_37 : decode cX13_lay 37 = .ok (.getfield 185, 3) := by decide +kernel
theorem dX13_lay_40 : decode cX13_lay 40 = .ok (.getfield 123, 3) := by decide +kernel
theorem dX13_lay_43 : decode cX13_lay 43 = .ok (.if_icmp .ge 48, 3) := by decide +kernel
theorem dX13_lay_46 : decode cX13_lay 46 = .ok (.iload_n 2, 1) := by decide +kernel
theorem dX13_lay_47 : decode cX13_lay 47 = .ok (.ifCond .lt 14, 3) := by decide +kernel
theorem dX13_lay_50 : decode cX13_lay 50 = .ok (.iload_n 2, 1) := by decide +kernel
theorem dX13_lay_51 : decode cX13_lay 51 = .ok (.aload_n 3, 1) := by decide +kernel
theorem dX13_lay_52 : decode cX13_lay 52 = .ok (.getfield 226, 3) := by decide +kernel
theorem dX13_lay_55 : decode cX13_lay 55 = .ok (.iload 4, 2) := by decide +kernel
theorem dX13_lay_57 : decode cX13_lay 57 = .ok (.isub, 1) := by decide +kernel
theorem dX13_lay_58 : decode cX13_lay 58 = .ok (.if_icmp .lt 6, 3) := by decide +kernel
theorem dX13_lay_61 : decode cX13_lay 61 = .ok (.bipush (-13), 2) := by decide +kernel
theorem dX13_lay_63 : decode cX13_lay 63 = .ok (.ireturn, 1) := by decide +kernel
theorem dX13_lay_64 : decode cX13_lay 64 = .ok (.aload_n 3, 1) := by decide +kernel
theorem dX13_lay_65 : decode cX13_lay 65 = .ok (.iload_n 2, 1) := by decide +kernel
theorem dX13_lay_66 : decode cX13_lay 66 = .ok (.iload 4, 2) := by decide +kernel
theorem dX13_lay_68 : decode cX13_lay 68 = .ok (.iadd, 1) := by decide +kernel
theorem dX13_lay_69 : decode cX13_lay 69 = .ok (.aload_n 0, 1) := by decide +kernel
theorem dX13_lay_70 : decode cX13_lay 70 = .ok (.getfield 22, 3) := by decide +kernel
theorem dX13_lay_73 : decode cX13_lay 73 = .ok (.getfield 185, 3) := by decide +kernel
theorem dX13_lay_76 : decode cX13_lay 76 = .ok (.iload 4, 2) := by decide +kernel
theorem dX13_lay_78 : decode cX13_lay 78 = .ok (.invokevirtual 118, 3) := by decide +kernel
theorem dX13_lay_81 : decode cX13_lay 81 = .ok (.i2l, 1) := by decide +kernel
theorem dX13_lay_82 : decode cX13_lay 82 = .ok (.invokevirtual 227, 3) := by decide +kernel
theorem dX13_lay_85 : decode cX13_lay 85 = .ok (.iinc 4 1, 3) := by decide +kernel
theorem dX13_lay_88 : decode cX13_lay 88 = .ok (.goto (-57), 3) := by decide +kernel
theorem dX13_lay_91 : decode cX13_lay 91 = .ok (.aload_n 0, 1) := by decide +kernel
theorem dX13_lay_92 : decode cX13_lay 92 = .ok (.getfield 22, 3) := by decide +kernel
theorem dX13_lay_95 : decode cX13_lay 95 = .ok (.getfield 185, 3) := by decide +kernel
theorem dX13_lay_98 : decode cX13_lay 98 = .ok (.getfield 123, 3) := by decide +kernel
theorem dX13_lay_101 : decode cX13_lay 101 = .ok (.ireturn, 1) := by decide +kernel
theorem dX13_judge_0 : decode cX13_judge 0 = .ok (.iload_n 1, 1) := by decide +kernel
theorem dX13_judge_1 : decode cX13_judge 1 = .ok (.bipush 6, 2) := by decide +kernel
theorem dX13_judge_3 : decode cX13_judge 3 = .ok (.invokestatic 94, 3) := by decide +kernel
theorem dX13_judge_6 : decode cX13_judge 6 = .ok (.ifCond .ne 5, 3) := by decide +kernel
theorem dX13_judge_9 : decode cX13_judge 9 = .ok (.iconst (-1), 1) := by decide +kernel
theorem dX13_judge_10 : decode cX13_judge 10 = .ok (.ireturn, 1) := by decide +kernel
theorem dX13_judge_11 : decode cX13_judge 11 = .ok (.aload_n 0, 1) := by decide +kernel
theorem dX13_judge_12 : decode cX13_judge 12 = .ok (.getfield 55, 3) := by decide +kernel
theorem dX13_judge_15 : decode cX13_judge 15 = .ok (.iload_n 1, 1) := by decide +kernel
theorem dX13_judge_16 : decode cX13_judge 16 = .ok (.aaload, 1) := by decide +kernel
theorem dX13_judge_17 : decode cX13_judge 17 = .ok (.astore_n 3, 1) := by decide +kernel
theorem dX13_judge_18 : decode cX13_judge 18 = .ok (.aload_n 3, 1) := by decide +kernel
theorem dX13_judge_19 : decode cX13_judge 19 = .ok (.invokevirtual 223, 3) := by decide +kernel
theorem dX13_judge_22 : decode cX13_judge 22 = .ok (.ifCond .eq 6, 3) := by decide +kernel
theorem dX13_judge_25 : decode cX13_judge 25 = .ok (.bipush (-11), 2) := by decide +kernel
theorem dX13_judge_27 : decode cX13_judge 27 = .ok (.ireturn, 1) := by decide +kernel
theorem dX13_judge_28 : decode cX13_judge 28 = .ok (.iconst 0, 1) := by decide +kernel
theorem dX13_judge_29 : decode cX13_judge 29 = .ok (.istore 4, 2) := by decide +kernel
theorem dX13_judge_31 : decode cX13_judge 31 = .ok (.iload 4, 2) := by decide +kernel
theorem dX13_judge_33 : decode cX13_judge 33 = .ok (.aload_n 0, 1) := by decide +kernel
theorem dX13_judge_34 : decode cX13_judge 34 = .ok (.getfield 22, 3) := by decide +kernel
theorem dX13_judge_37 : decode cX13_judge 37 = .ok (.getfield 185, 3) := by decide +kernel
theorem dX13_judge_40 : decode cX13_judge 40 = .ok (.getfield 123, 3) := by decide +kernel
theorem dX13_judge_43 : decode cX13_judge 43 = .ok (.if_icmp .ge 56, 3) := by decide +kernel
theorem dX13_judge_46 : decode cX13_judge 46 = .ok (.iload_n 2, 1) := by decide +kernel
theorem dX13_judge_47 : decode cX13_judge 47 = .ok (.ifCond .lt 14, 3) := by decide +kernel
theorem dX13_judge_50 : decode cX13_judge 50 = .ok (.iload_n 2, 1) := by decide +kernel
theorem dX13_judge_51 : decode cX13_judge 51 = .ok (.aload_n 3, 1) := by decide +kernel
theorem dX13_judge_52 : decode cX13_judge 52 = .ok (.getfield 226, 3) := by decide +kernel
theorem dX13_judge_55 : decode cX13_judge 55 = .ok (.iload 4, 2) := by decide +kernel
theorem dX13_judge_57 : decode cX13_judge 57 = .ok (.isub, 1) := by decide +kernel
theorem dX13_judge_58 : decode cX13_judge 58 = .ok (.if_icmp .lt 9, 3) := by decide +kernel
theorem dX13_judge_61 : decode cX13_judge 61 = .ok (.bipush 100, 2) := by decide +kernel
theorem dX13_judge_63 : decode cX13_judge 63 = .ok (.iload 4, 2) := by decide +kernel
theorem dX13_judge_65 : decode cX13_judge 65 = .ok (.iadd, 1) := by decide +kernel
theorem dX13_judge_66 : decode cX13_judge 66 = .ok (.ireturn, 1) := by decide +kernel
theorem dX13_judge_67 : decode cX13_judge 67 = .ok (.aload_n 3, 1) := by decide +kernel
theorem dX13_judge_68 : decode cX13_judge 68 = .ok (.iload_n 2, 1) := by decide +kernel
theorem dX13_judge_69 : decode cX13_judge 69 = .ok (.iload 4, 2) := by decide +kernel
theorem dX13_judge_71 : decode cX13_judge 71 = .ok (.iadd, 1) := by decide +kernel
theorem dX13_judge_72 : decode cX13_judge 72 = .ok (.invokevirtual 244, 3) := by decide +kernel
theorem dX13_judge_75 : decode cX13_judge 75 = .ok (.aload_n 0, 1) := by decide +kernel
theorem dX13_judge_76 : decode cX13_judge 76 = .ok (.getfield 22, 3) := by decide +kernel
theorem dX13_judge_79 : decode cX13_judge 79 = .ok (.getfield 185, 3) := by decide +kernel
theorem dX13_judge_82 : decode cX13_judge 82 = .ok (.iload 4, 2) := by decide +kernel
theorem dX13_judge_84 : decode cX13_judge 84 = .ok (.invokevirtual 118, 3) := by decide +kernel
theorem dX13_judge_87 : decode cX13_judge 87 = .ok (.if_icmp .eq 6, 3) := by decide +kernel
theorem dX13_judge_90 : decode cX13_judge 90 = .ok (.iload 4, 2) := by decide +kernel
theorem dX13_judge_92 : decode cX13_judge 92 = .ok (.ireturn, 1) := by decide +kernel
theorem dX13_judge_93 : decode cX13_judge 93 = .ok (.iinc 4 1, 3) := by decide +kernel
theorem dX13_judge_96 : decode cX13_judge 96 = .ok (.goto (-65), 3) := by decide +kernel
theorem dX13_judge_99 : decode cX13_judge 99 = .ok (.bipush (-5), 2) := by decide +kernel
theorem dX13_judge_101 : decode cX13_judge 101 = .ok (.ireturn, 1) := by decide +kernel
theorem dX13_image_0 : decode cX13_image 0 = .ok (.aload_n 0, 1) := by decide +kernel
theorem dX13_image_1 : decode cX13_image 1 = .ok (.getfield 26, 3) := by decide +kernel
theorem dX13_image_4 : decode cX13_image 4 = .ok (.aload_n 0, 1) := by decide +kernel
theorem dX13_image_5 : decode cX13_image 5 = .ok (.getfield 22, 3) := by decide +kernel
theorem dX13_image_8 : decode cX13_image 8 = .ok (.invokevirtual 247, 3) := by decide +kernel
theorem dX13_image_11 : decode cX13_image 11 = .ok (.aload_n 0, 1) := by decide +kernel
theorem dX13_image_12 : decode cX13_image 12 = .ok (.iconst 1, 1) := by decide +kernel
theorem dX13_image_13 : decode cX13_image 13 = .ok (.putfield 250, 3) := by decide +kernel
theorem dX13_image_16 : decode cX13_image 16 = .ok (.aload_n 0, 1) := by decide +kernel
theorem dX13_image_17 : decode cX13_image 17 = .ok (.getfield 22, 3) := by decide +kernel
theorem dX13_image_20 : decode cX13_image 20 = .ok (.invokevirtual 212, 3) := by decide +kernel
theorem dX13_image_23 : decode cX13_image 23 = .ok (.ireturn, 1) := by decide +kernel
theorem dX13_undo_0 : decode cX13_undo 0 = .ok (.aload_n 0, 1) := by decide +kernel
theorem dX13_undo_1 : decode cX13_undo 1 = .ok (.getfield 250, 3) := by decide +kernel
theorem dX13_undo_4 : decode cX13_undo 4 = .ok (.ifCond .ne 6, 3) := by decide +kernel
theorem dX13_undo_7 : decode cX13_undo 7 = .ok (.bipush (-3), 2) := by decide +kernel
theorem dX13_undo_9 : decode cX13_undo 9 = .ok (.ireturn, 1) := by decide +kernel
theorem dX13_undo_10 : decode cX13_undo 10 = .ok (.aload_n 0, 1) := by decide +kernel
theorem dX13_undo_11 : decode cX13_undo 11 = .ok (.getfield 22, 3) := by decide +kernel
theorem dX13_undo_14 : decode cX13_undo 14 = .ok (.aload_n 0, 1) := by decide +kernel
theorem dX13_undo_15 : decode cX13_undo 15 = .ok (.getfield 26, 3) := by decide +kernel
theorem dX13_undo_18 : decode cX13_undo 18 = .ok (.invokevirtual 247, 3) := by decide +kernel
theorem dX13_undo_21 : decode cX13_undo 21 = .ok (.aload_n 0, 1) := by decide +kernel
theorem dX13_undo_22 : decode cX13_undo 22 = .ok (.getfield 22, 3) := by decide +kernel
theorem dX13_undo_25 : decode cX13_undo 25 = .ok (.invokevirtual 212, 3) := by decide +kernel
theorem dX13_undo_28 : decode cX13_undo 28 = .ok (.ireturn, 1) := by decide +kernel
theorem dX13_showFigures_0 : decode cX13_showFigures 0 = .ok (.aload_n 0, 1) := by decide +kernel
theorem dX13_showFigures_1 : decode cX13_showFigures 1 = .ok (.getfield 36, 3) := by decide +kernel
theorem dX13_showFigures_4 : decode cX13_showFigures 4 = .ok (.invokevirtual 85, 3) := by decide +kernel
theorem dX13_showFigures_7 : decode cX13_showFigures 7 = .ok (.aload_n 1, 1) := by decide +kernel
theorem dX13_showFigures_8 : decode cX13_showFigures 8 = .ok (.aload_n 0, 1) := by decide +kernel
theorem dX13_showFigures_9 : decode cX13_showFigures 9 = .ok (.getfield 36, 3) := by decide +kernel
theorem dX13_showFigures_12 : decode cX13_showFigures 12 = .ok (.invokevirtual 253, 3) := by decide +kernel
theorem dX13_showFigures_15 : decode cX13_showFigures 15 = .ok (.aload_n 0, 1) := by decide +kernel
theorem dX13_showFigures_16 : decode cX13_showFigures 16 = .ok (.getfield 36, 3) := by decide +kernel
theorem dX13_showFigures_19 : decode cX13_showFigures 19 = .ok (.getfield 123, 3) := by decide +kernel
theorem dX13_showFigures_22 : decode cX13_showFigures 22 = .ok (.ireturn, 1) := by decide +kernel
theorem dX13_among_0 : decode cX13_among 0 = .ok (.iload_n 0, 1) := by decide +kernel
theorem dX13_among_1 : decode cX13_among 1 = .ok (.ifCond .lt 12, 3) := by decide +kernel
theorem dX13_among_4 : decode cX13_among 4 = .ok (.iload_n 0, 1) := by decide +kernel
theorem dX13_among_5 : decode cX13_among 5 = .ok (.iload_n 1, 1) := by decide +kernel
theorem dX13_among_6 : decode cX13_among 6 = .ok (.if_icmp .ge 7, 3) := by decide +kernel
theorem dX13_among_9 : decode cX13_among 9 = .ok (.iconst 1, 1) := by decide +kernel
theorem dX13_among_10 : decode cX13_among 10 = .ok (.goto 4, 3) := by decide +kernel
theorem dX13_among_13 : decode cX13_among 13 = .ok (.iconst 0, 1) := by decide +kernel
theorem dX13_among_14 : decode cX13_among 14 = .ok (.ireturn, 1) := by decide +kernel
theorem dX13_isFigure_0 : decode cX13_isFigure 0 = .ok (.iload_n 0, 1) := by decide +kernel
theorem dX13_isFigure_1 : decode cX13_isFigure 1 = .ok (.bipush 48, 2) := by decide +kernel
theorem dX13_isFigure_3 : decode cX13_isFigure 3 = .ok (.if_icmp .lt 13, 3) := by decide +kernel
theorem dX13_isFigure_6 : decode cX13_isFigure 6 = .ok (.iload_n 0, 1) := by decide +kernel
theorem dX13_isFigure_7 : decode cX13_isFigure 7 = .ok (.bipush 57, 2) := by decide +kernel
theorem dX13_isFigure_9 : decode cX13_isFigure 9 = .ok (.if_icmp .gt 7, 3) := by decide +kernel
theorem dX13_isFigure_12 : decode cX13_isFigure 12 = .ok (.iconst 1, 1) := by decide +kernel
theorem dX13_isFigure_13 : decode cX13_isFigure 13 = .ok (.goto 4, 3) := by decide +kernel
theorem dX13_isFigure_16 : decode cX13_isFigure 16 = .ok (.iconst 0, 1) := by decide +kernel
theorem dX13_isFigure_17 : decode cX13_isFigure 17 = .ok (.ireturn, 1) := by decide +kernel
theorem dX13_isSmall_0 : decode cX13_isSmall 0 = .ok (.iload_n 0, 1) := by decide +kernel
theorem dX13_isSmall_1 : decode cX13_isSmall 1 = .ok (.bipush 97, 2) := by decide +kernel
theorem dX13_isSmall_3 : decode cX13_isSmall 3 = .ok (.if_icmp .lt 13, 3) := by decide +kernel
theorem dX13_isSmall_6 : decode cX13_isSmall 6 = .ok (.iload_n 0, 1) := by decide +kernel
theorem dX13_isSmall_7 : decode cX13_isSmall 7 = .ok (.bipush 122, 2) := by decide +kernel
theorem dX13_isSmall_9 : decode cX13_isSmall 9 = .ok (.if_icmp .gt 7, 3) := by decide +kernel
theorem dX13_isSmall_12 : decode cX13_isSmall 12 = .ok (.iconst 1, 1) := by decide +kernel
theorem dX13_isSmall_13 : decode cX13_isSmall 13 = .ok (.goto 4, 3) := by decide +kernel
theorem dX13_isSmall_16 : decode cX13_isSmall 16 = .ok (.iconst 0, 1) := by decide +kernel
theorem dX13_isSmall_17 : decode cX13_isSmall 17 = .ok (.ireturn, 1) := by decide +kernel
theorem dX13_isGreat_0 : decode cX13_isGreat 0 = .ok (.iload_n 0, 1) := by decide +kernel
theorem dX13_isGreat_1 : decode cX13_isGreat 1 = .ok (.bipush 65, 2) := by decide +kernel
theorem dX13_isGreat_3 : decode cX13_isGreat 3 = .ok (.if_icmp .lt 13, 3) := by decide +kernel
theorem dX13_isGreat_6 : decode cX13_isGreat 6 = .ok (.iload_n 0, 1) := by decide +kernel
theorem dX13_isGreat_7 : decode cX13_isGreat 7 = .ok (.bipush 90, 2) := by decide +kernel
theorem dX13_isGreat_9 : decode cX13_isGreat 9 = .ok (.if_icmp .gt 7, 3) := by decide +kernel
theorem dX13_isGreat_12 : decode cX13_isGreat 12 = .ok (.iconst 1, 1) := by decide +kernel
theorem dX13_isGreat_13 : decode cX13_isGreat 13 = .ok (.goto 4, 3) := by decide +kernel
theorem dX13_isGreat_16 : decode cX13_isGreat 16 = .ok (.iconst 0, 1) := by decide +kernel
theorem dX13_isGreat_17 : decode cX13_isGreat 17 = .ok (.ireturn, 1) := by decide +kernel
theorem dX14_init_0 : decode cX14_init 0 = .ok (.aload_n 0, 1) := by decide +kernel
theorem dX14_init_1 : decode cX14_init 1 = .ok (.invokespecial 3, 3) := by decide +kernel
theorem dX14_init_4 : decode cX14_init 4 = .ok (.aload_n 0, 1) := by decide +kernel
theorem dX14_init_5 : decode cX14_init 5 = .ok (.bipush 10, 2) := by decide +kernel
theorem dX14_init_7 : decode cX14_init 7 = .ok (.newarray .int, 2) := by decide +kernel
theorem dX14_init_9 : decode cX14_init 9 = .ok (.putfield 11, 3) := by decide +kernel
theorem dX14_init_12 : decode cX14_init 12 = .ok (.aload_n 0, 1) := by decide +kernel
theorem dX14_init_13 : decode cX14_init 13 = .ok (.bipush 10, 2) := by decide +kernel
theorem dX14_init_15 : decode cX14_init 15 = .ok (.newarray .int, 2) := by decide +kernel
theorem dX14_init_17 : decode cX14_init 17 = .ok (.putfield 15, 3) := by decide +kernel
theorem dX14_init_20 : decode cX14_init 20 = .ok (.aload_n 0, 1) := by decide +kernel
theorem dX14_init_21 : decode cX14_init 21 = .ok (.bipush 10, 2) := by decide +kernel
theorem dX14_init_23 : decode cX14_init 23 = .ok (.newarray .int, 2) := by decide +kernel
theorem dX14_init_25 : decode cX14_init 25 = .ok (.putfield 18, 3) := by decide +kernel
theorem dX14_init_28 : decode cX14_init 28 = .ok (.aload_n 0, 1) := by decide +kernel
theorem dX14_init_29 : decode cX14_init 29 = .ok (.sipush 160, 3) := by decide +kernel
theorem dX14_init_32 : decode cX14_init 32 = .ok (.newarray .int, 2) := by decide +kernel
theorem dX14_init_34 : decode cX14_init 34 = .ok (.putfield 21, 3) := by decide +kernel
theorem dX14_init_37 : decode cX14_init 37 = .ok (.aload_n 0, 1) := by decide +kernel
theorem dX14_init_38 : decode cX14_init 38 = .ok (.bipush 10, 2) := by decide +kernel
theorem dX14_init_40 : decode cX14_init 40 = .ok (.newarray .float, 2) := by decide +kernel
theorem dX14_init_42 : decode cX14_init 42 = .ok (.putfield 24, 3) := by decide +kernel
theorem dX14_init_45 : decode cX14_init 45 = .ok (.aload_n 0, 1) := by decide +kernel
theorem dX14_init_46 : decode cX14_init 46 = .ok (.bipush 64, 2) := by decide +kernel
theorem dX14_init_48 : decode cX14_init 48 = .ok (.newarray .int, 2) := by decide +kernel
theorem dX14_init_50 : decode cX14_init 50 = .ok (.putfield 28, 3) := by decide +kernel
theorem dX14_init_53 : decode cX14_init 53 = .ok (.aload_n 0, 1) := by decide +kernel
theorem dX14_init_54 : decode cX14_init 54 = .ok (.sipush 160, 3) := by decide +kernel
theorem dX14_init_57 : decode cX14_init 57 = .ok (.newarray .int, 2) := by decide +kernel
theorem dX14_init_59 : decode cX14_init 59 = .ok (.putfield 31, 3) := by decide +kernel
theorem dX14_init_62 : decode cX14_init 62 = .ok (.aload_n 0, 1) := by decide +kernel
theorem dX14_init_63 : decode cX14_init 63 = .ok (.sipush 960, 3) := by decide +kernel
theorem dX14_init_66 : decode cX14_init 66 = .ok (.newarray .int, 2) := by decide +kernel
theorem dX14_init_68 : decode cX14_init 68 = .ok (.putfield 34, 3) := by decide +kernel
theorem dX14_init_71 : decode cX14_init 71 = .ok (.aload_n 0, 1) := by decide +kernel
theorem dX14_init_72 : decode cX14_init 72 = .ok (.bipush 6, 2) := by decide +kernel
theorem dX14_init_74 : decode cX14_init 74 = .ok (.newarray .int, 2) := by decide +kernel
theorem dX14_init_76 : decode cX14_init 76 = .ok (.putfield 37, 3) := by decide +kernel
theorem dX14_init_79 : decode cX14_init 79 = .ok (.aload_n 0, 1) := by decide +kernel
theorem dX14_init_80 : decode cX14_init 80 = .ok (.aload_n 0, 1) := by decide +kernel
theorem dX14_init_81 : decode cX14_init 81 = .ok (.getfield 31, 3) := by decide +kernel
theorem dX14_init_84 : decode cX14_init 84 = .ok (.putfield 40, 3) := by decide +kernel
theorem dX14_init_87 : decode cX14_init 87 = .ok (.aload_n 0, 1) := by decide +kernel
theorem dX14_init_88 : decode cX14_init 88 = .ok (.sipush 400, 3) := by decide +kernel
theorem dX14_init_91 : decode cX14_init 91 = .ok (.newarray .int, 2) := by decide +kernel
theorem dX14_init_93 : decode cX14_init 93 = .ok (.putfield 43, 3) := by decide +kernel
theorem dX14_init_96 : decode cX14_init 96 = .ok (.aload_n 0, 1) := by decide +kernel
theorem dX14_init_97 : decode cX14_init 97 = .ok (.sipush 400, 3) := by decide +kernel
theorem dX14_init_100 : decode cX14_init 100 = .ok (.newarray .int, 2) := by decide +kernel
theorem dX14_init_102 : decode cX14_init 102 = .ok (.putfield 46, 3) := by decide +kernel
theorem dX14_init_105 : decode cX14_init 105 = .ok (.aload_n 0, 1) := by decide +kernel
theorem dX14_init_106 : decode cX14_init 106 = .ok (.sipush 200, 3) := by decide +kernel
theorem dX14_init_109 : decode cX14_init 109 = .ok (.putfield 49, 3) := by decide +kernel
theorem dX14_init_112 : decode cX14_init 112 = .ok (.aload_n 0, 1) := by decide +kernel
theorem dX14_init_113 : decode cX14_init 113 = .ok (.sipush 640, 3) := by decide +kernel
theorem dX14_init_116 : decode cX14_init 116 = .ok (.newarray .int, 2) := by decide +kernel
theorem dX14_init_118 : decode cX14_init 118 = .ok (.putfield 53, 3) := by decide +kernel
theorem dX14_init_121 : decode cX14_init 121 = .ok (.aload_n 0, 1) := by decide +kernel
theorem dX14_init_122 : decode cX14_init 122 = .ok (.sipush 640, 3) := by decide +kernel
theorem dX14_init_125 : decode cX14_init 125 = .ok (.newarray .int, 2) := by decide +kernel
theorem dX14_init_127 : decode cX14_init 127 = .ok (.putfield 56, 3) := by decide +kernel
theorem dX14_init_130 : decode cX14_init 130 = .ok (.aload_n 0, 1) := by decide +kernel
theorem dX14_init_131 : decode cX14_init 131 = .ok (.sipush 640, 3) := by decide +kernel
theorem dX14_init_134 : decode cX14_init 134 = .ok (.newarray .int, 2) := by decide +kernel
theorem dX14_init_136 : decode cX14_init 136 = .ok (.putfield 59, 3) := by decide +kernel
theorem dX14_init_139 : decode cX14_init 139 = .ok (.aload_n 0, 1) := by decide +kernel
theorem dX14_init_140 : decode cX14_init 140 = .ok (.sipush 10240, 3) := by decide +kernel
theorem dX14_init_143 : decode cX14_init 143 = .ok (.newarray .int, 2) := by decide +kernel
theorem dX14_init_145 : decode cX14_init 145 = .ok (.putfield 62, 3) := by decide +kernel
theorem dX14_init_148 : decode cX14_init 148 = .ok (.aload_n 0, 1) := by decide +kernel
theorem dX14_init_149 : decode cX14_init 149 = .ok (.sipush 640, 3) := by decide +kernel
theorem dX14_init_152 : decode cX14_init 152 = .ok (.newarray .float, 2) := by decide +kernel
theorem dX14_init_154 : decode cX14_init 154 = .ok (.putfield 65, 3) := by decide +kernel
theorem dX14_init_157 : decode cX14_init 157 = .ok (.aload_n 0, 1) := by decide +kernel
theorem dX14_init_158 : decode cX14_init 158 = .ok (.bipush 72, 2) := by decide +kernel
theorem dX14_init_160 : decode cX14_init 160 = .ok (.newarray .int, 2) := by decide +kernel
theorem dX14_init_162 : decode cX14_init 162 = .ok (.putfield 68, 3) := by decide +kernel
theorem dX14_init_165 : decode cX14_init 165 = .ok (.aload_n 0, 1) := by decide +kernel
theorem dX14_init_166 : decode cX14_init 166 = .ok (.bipush 12, 2) := by decide +kernel
theorem dX14_init_168 : decode cX14_init 168 = .ok (.newarray .int, 2) := by decide +kernel
theorem dX14_init_170 : decode cX14_init 170 = .ok (.putfield 71, 3) := by decide +kernel
theorem dX14_init_173 : decode cX14_init 173 = .ok (.aload_n 0, 1) := by decide +kernel
theorem dX14_init_174 : decode cX14_init 174 = .ok (.bipush 12, 2) := by decide +kernel
theorem dX14_init_176 : decode cX14_init 176 = .ok (.newarray .int, 2) := by decide +kernel
theorem dX14_init_178 : decode cX14_init 178 = .ok (.putfield 74, 3) := by decide +kernel
theorem dX14_init_181 : decode cX14_init 181 = .ok (.aload_n 0, 1) := by decide +kernel
theorem dX14_init_182 : decode cX14_init 182 = .ok (.bipush 12, 2) := by decide +kernel
theorem dX14_init_184 : decode cX14_init 184 = .ok (.newarray .int, 2) := by decide +kernel
theorem dX14_init_186 : decode cX14_init 186 = .ok (.putfield 77, 3) := by decide +kernel
theorem dX14_init_189 : decode cX14_init 189 = .ok (.aload_n 0, 1) := by decide +kernel
theorem dX14_init_190 : decode cX14_init 190 = .ok (.bipush 80, 2) := by decide +kernel
theorem dX14_init_192 : decode cX14_init 192 = .ok (.newarray .int, 2) := by decide +kernel
theorem dX14_init_194 : decode cX14_init 194 = .ok (.putfield 80, 3) := by decide +kernel
theorem dX14_init_197 : decode cX14_init 197 = .ok (.aload_n 0, 1) := by decide +kernel
theorem dX14_init_198 : decode cX14_init 198 = .ok (.sipush 480, 3) := by decide +kernel
theorem dX14_init_201 : decode cX14_init 201 = .ok (.newarray .int, 2) := by decide +kernel
theorem dX14_init_203 : decode cX14_init 203 = .ok (.putfield 83, 3) := by decide +kernel
theorem dX14_init_206 : decode cX14_init 206 = .ok (.aload_n 0, 1) := by decide +kernel
theorem dX14_init_207 : decode cX14_init 207 = .ok (.bipush 80, 2) := by decide +kernel
theorem dX14_init_209 : decode cX14_init 209 = .ok (.newarray .int, 2) := by decide +kernel
theorem dX14_init_211 : decode cX14_init 211 = .ok (.putfield 86, 3) := by decide +kernel
theorem dX14_init_214 : decode cX14_init 214 = .ok (.aload_n 0, 1) := by decide +kernel
theorem dX14_init_215 : decode cX14_init 215 = .ok (.sipush 128, 3) := by decide +kernel
theorem dX14_init_218 : decode cX14_init 218 = .ok (.newarray .int, 2) := by decide +kernel
theorem dX14_init_220 : decode cX14_init 220 = .ok (.putfield 89, 3) := by decide +kernel
theorem dX14_init_223 : decode cX14_init 223 = .ok (.aload_n 0, 1) := by decide +kernel
theorem dX14_init_224 : decode cX14_init 224 = .ok (.sipush 128, 3) := by decide +kernel
theorem dX14_init_227 : decode cX14_init 227 = .ok (.newarray .int, 2) := by decide +kernel
theorem dX14_init_229 : decode cX14_init 229 = .ok (.putfield 92, 3) := by decide +kernel
theorem dX14_init_232 : decode cX14_init 232 = .ok (.aload_n 0, 1) := by decide +kernel
theorem dX14_init_233 : decode cX14_init 233 = .ok (.sipush 128, 3) := by decide +kernel
theorem dX14_init_236 : decode cX14_init 236 = .ok (.newarray .int, 2) := by decide +kernel
theorem dX14_init_238 : decode cX14_init 238 = .ok (.putfield 95, 3) := by decide +kernel
theorem dX14_init_241 : decode cX14_init 241 = .ok (.aload_n 0, 1) := by decide +kernel
theorem dX14_init_242 : decode cX14_init 242 = .ok (.bipush 6, 2) := by decide +kernel
theorem dX14_init_244 : decode cX14_init 244 = .ok (.newarray .int, 2) := by decide +kernel
theorem dX14_init_246 : decode cX14_init 246 = .ok (.putfield 98, 3) := by decide +kernel
theorem dX14_init_249 : decode cX14_init 249 = .ok (.aload_n 0, 1) := by decide +kernel
theorem dX14_init_250 : decode cX14_init 250 = .ok (.bipush 6, 2) := by decide +kernel
theorem dX14_init_252 : decode cX14_init 252 = .ok (.newarray .int, 2) := by decide +kernel
theorem dX14_init_254 : decode cX14_init 254 = .ok (.putfield 101, 3) := by decide +kernel
theorem dX14_init_257 : decode cX14_init 257 = .ok (.aload_n 0, 1) := by decide +kernel
theorem dX14_init_258 : decode cX14_init 258 = .ok (.sipush 360, 3) := by decide +kernel
theorem dX14_init_261 : decode cX14_init 261 = .ok (.newarray .int, 2) := by decide +kernel
theorem dX14_init_263 : decode cX14_init 263 = .ok (.putfield 104, 3) := by decide +kernel
theorem dX14_init_266 : decode cX14_init 266 = .ok (.aload_n 0, 1) := by decide +kernel
theorem dX14_init_267 : decode cX14_init 267 = .ok (.sipush 360, 3) := by decide +kernel
theorem dX14_init_270 : decode cX14_init 270 = .ok (.newarray .float, 2) := by decide +kernel
theorem dX14_init_272 : decode cX14_init 272 = .ok (.putfield 107, 3) := by decide +kernel
theorem dX14_init_275 : decode cX14_init 275 = .ok (.aload_n 0, 1) := by decide +kernel
theorem dX14_init_276 : decode cX14_init 276 = .ok (.bipush 6, 2) := by decide +kernel
theorem dX14_init_278 : decode cX14_init 278 = .ok (.newarray .int, 2) := by decide +kernel
theorem dX14_init_280 : decode cX14_init 280 = .ok (.putfield 110, 3) := by decide +kernel
theorem dX14_init_283 : decode cX14_init 283 = .ok (.aload_n 0, 1) := by decide +kernel
theorem dX14_init_284 : decode cX14_init 284 = .ok (.sipush 960, 3) := by decide +kernel
theorem dX14_init_287 : decode cX14_init 287 = .ok (.newarray .int, 2) := by decide +kernel
theorem dX14_init_289 : decode cX14_init 289 = .ok (.putfield 113, 3) := by decide +kernel
theorem dX14_init_292 : decode cX14_init 292 = .ok (.aload_n 0, 1) := by decide +kernel
theorem dX14_init_293 : decode cX14_init 293 = .ok (.sipush 400, 3) := by decide +kernel
theorem dX14_init_296 : decode cX14_init 296 = .ok (.newarray .int, 2) := by decide +kernel
theorem dX14_init_298 : decode cX14_init 298 = .ok (.putfield 116, 3) := by decide +kernel
theorem dX14_init_301 : decode cX14_init 301 = .ok (.aload_n 0, 1) := by decide +kernel
theorem dX14_init_302 : decode cX14_init 302 = .ok (.bipush 8, 2) := by decide +kernel
theorem dX14_init_304 : decode cX14_init 304 = .ok (.newarray .int, 2) := by decide +kernel
theorem dX14_init_306 : decode cX14_init 306 = .ok (.putfield 119, 3) := by decide +kernel
theorem dX14_init_309 : decode cX14_init 309 = .ok (.aload_n 0, 1) := by decide +kernel
theorem dX14_init_310 : decode cX14_init 310 = .ok (.bipush 8, 2) := by decide +kernel
theorem dX14_init_312 : decode cX14_init 312 = .ok (.newarray .int, 2) := by decide +kernel
theorem dX14_init_314 : decode cX14_init 314 = .ok (.putfield 122, 3) := by decide +kernel
theorem dX14_init_317 : decode cX14_init 317 = .ok (.aload_n 0, 1) := by decide +kernel
theorem dX14_init_318 : decode cX14_init 318 = .ok (.bipush 8, 2) := by decide +kernel
theorem dX14_init_320 : decode cX14_init 320 = .ok (.newarray .int, 2) := by decide +kernel
theorem dX14_init_322 : decode cX14_init 322 = .ok (.putfield 125, 3) := by decide +kernel
theorem dX14_init_325 : decode cX14_init 325 = .ok (.aload_n 0, 1) := by decide +kernel
theorem dX14_init_326 : decode cX14_init 326 = .ok (.sipush 128, 3) := by decide +kernel
theorem dX14_init_329 : decode cX14_init 329 = .ok (.newarray .int, 2) := by decide +kernel
theorem dX14_init_331 : decode cX14_init 331 = .ok (.putfield 128, 3) := by decide +kernel
theorem dX14_init_334 : decode cX14_init 334 = .ok (.aload_n 0, 1) := by decide +kernel
theorem dX14_init_335 : decode cX14_init 335 = .ok (.bipush 8, 2) := by decide +kernel
theorem dX14_init_337 : decode cX14_init 337 = .ok (.newarray .float, 2) := by decide +kernel
theorem dX14_init_339 : decode cX14_init 339 = .ok (.putfield 131, 3) := by decide +kernel
theorem dX14_init_342 : decode cX14_init 342 = .ok (.iconst 0, 1) := by decide +kernel
theorem dX14_init_343 : decode cX14_init 343 = .ok (.istore_n 1, 1) := by decide +kernel
theorem dX14_init_344 : decode cX14_init 344 = .ok (.iload_n 1, 1) := by decide +kernel
theorem dX14_init_345 : decode cX14_init 345 = .ok (.bipush 6, 2) := by decide +kernel
theorem dX14_init_347 : decode cX14_init 347 = .ok (.if_icmp .ge 30, 3) := by decide +kernel
theorem dX14_init_350 : decode cX14_init 350 = .ok (.aload_n 0, 1) := by decide +kernel
theorem dX14_init_351 : decode cX14_init 351 = .ok (.getfield 37, 3) := by decide +kernel
theorem dX14_init_354 : decode cX14_init 354 = .ok (.iload_n 1, 1) := by decide +kernel
theorem dX14_init_355 : decode cX14_init 355 = .ok (.iconst (-1), 1) := by decide +kernel
theorem dX14_init_356 : decode cX14_init 356 = .ok (.iastore, 1) := by decide +kernel
theorem dX14_init_357 : decode cX14_init 357 = .ok (.aload_n 0, 1) := by decide +kernel
theorem dX14_init_358 : decode cX14_init 358 = .ok (.getfield 110, 3) := by decide +kernel
theorem dX14_init_361 : decode cX14_init 361 = .ok (.iload_n 1, 1) := by decide +kernel
theorem dX14_init_362 : decode cX14_init 362 = .ok (.iconst (-1), 1) := by decide +kernel
theorem dX14_init_363 : decode cX14_init 363 = .ok (.iastore, 1) := by decide +kernel
theorem dX14_init_364 : decode cX14_init 364 = .ok (.aload_n 0, 1) := by decide +kernel
theorem dX14_init_365 : decode cX14_init 365 = .ok (.getfield 98, 3) := by decide +kernel
theorem dX14_init_368 : decode cX14_init 368 = .ok (.iload_n 1, 1) := by decide +kernel
theorem dX14_init_369 : decode cX14_init 369 = .ok (.iconst (-1), 1) := by decide +kernel
theorem dX14_init_370 : decode cX14_init 370 = .ok (.iastore, 1) := by decide +kernel
theorem dX14_init_371 : decode cX14_init 371 = .ok (.iinc 1 1, 3) := by decide +kernel
theorem dX14_init_374 : decode cX14_init 374 = .ok (.goto (-30), 3) := by decide +kernel
theorem dX14_init_377 : decode cX14_init 377 = .ok (.return_, 1) := by decide +kernel
theorem dX14_isIn_0 : decode cX14_isIn 0 = .ok (.lload_n 0, 1) := by decide +kernel
theorem dX14_isIn_1 : decode cX14_isIn 1 = .ok (.lload_n 2, 1) := by decide +kernel
theorem dX14_isIn_2 : decode cX14_isIn 2 = .ok (.lcmp, 1) := by decide +kernel
theorem dX14_isIn_3 : decode cX14_isIn 3 = .ok (.ifCond .lt 14, 3) := by decide +kernel
theorem dX14_isIn_6 : decode cX14_isIn 6 = .ok (.lload_n 0, 1) := by decide +kernel
theorem dX14_isIn_7 : decode cX14_isIn 7 = .ok (.lload 4, 2) := by decide +kernel
theorem dX14_isIn_9 : decode cX14_isIn 9 = .ok (.lcmp, 1) := by decide +kernel
theorem dX14_isIn_10 : decode cX14_isIn 10 = .ok (.ifCond .gt 7, 3) := by decide +kernel
theorem dX14_isIn_13 : decode cX14_isIn 13 = .ok (.iconst 1, 1) := by decide +kernel
theorem dX14_isIn_14 : decode cX14_isIn 14 = .ok (.goto 4, 3) := by decide +kernel
theorem dX14_isIn_17 : decode cX14_isIn 17 = .ok (.iconst 0, 1) := by decide +kernel
theorem dX14_isIn_18 : decode cX14_isIn 18 = .ok (.ireturn, 1) := by decide +kernel
theorem dX14_limited_0 : decode cX14_limited 0 = .ok (.fload_n 0, 1) := by decide +kernel
theorem dX14_limited_1 : decode cX14_limited 1 = .ok (.ldc 134, 2) := by decide +kernel
theorem dX14_limited_3 : decode cX14_limited 3 = .ok (.fcmp .l, 1) := by decide +kernel
theorem dX14_limited_4 : decode cX14_limited 4 = .ok (.ifCond .le 8, 3) := by decide +kernel
theorem dX14_limited_7 : decode cX14_limited 7 = .ok (.ldc 134, 2) := by decide +kernel
theorem dX14_limited_9 : decode cX14_limited 9 = .ok (.goto 26, 3) := by decide +kernel
theorem dX14_limited_12 : decode cX14_limited 12 = .ok (.fload_n 0, 1) := by decide +kernel
theorem dX14_limited_13 : decode cX14_limited 13 = .ok (.ldc 135, 2) := by decide +kernel
theorem dX14_limited_15 : decode cX14_limited 15 = .ok (.fcmp .g, 1) := by decide +kernel
theorem dX14_limited_16 : decode cX14_limited 16 = .ok (.ifCond .ge 8, 3) := by decide +kernel
theorem dX14_limited_19 : decode cX14_limited 19 = .ok (.ldc 135, 2) := by decide +kernel
theorem dX14_limited_21 : decode cX14_limited 21 = .ok (.goto 14, 3) := by decide +kernel
theorem dX14_limited_24 : decode cX14_limited 24 = .ok (.fload_n 0, 1) := by decide +kernel
theorem dX14_limited_25 : decode cX14_limited 25 = .ok (.fconst 0, 1) := by decide +kernel
theorem dX14_limited_26 : decode cX14_limited 26 = .ok (.fcmp .l, 1) := by decide +kernel
theorem dX14_limited_27 : decode cX14_limited 27 = .ok (.ifCond .ne 7, 3) := by decide +kernel
theorem dX14_limited_30 : decode cX14_limited 30 = .ok (.fconst 0, 1) := by decide +kernel
theorem dX14_limited_31 : decode cX14_limited 31 = .ok (.goto 4, 3) := by decide +kernel
theorem dX14_limited_34 : decode cX14_limited 34 = .ok (.fload_n 0, 1) := by decide +kernel
theorem dX14_limited_35 : decode cX14_limited 35 = .ok (.freturn, 1) := by decide +kernel
theorem dX14_copies_0 : decode cX14_copies 0 = .ok (.aload_n 0, 1) := by decide +kernel
theorem dX14_copies_1 : decode cX14_copies 1 = .ok (.getfield 11, 3) := by decide +kernel
theorem dX14_copies_4 : decode cX14_copies 4 = .ok (.iload_n 2, 1) := by decide +kernel
theorem dX14_copies_5 : decode cX14_copies 5 = .ok (.aload_n 0, 1) := by decide +kernel
theorem dX14_copies_6 : decode cX14_copies 6 = .ok (.getfield 11, 3) := by decide +kernel
theorem dX14_copies_9 : decode cX14_copies 9 = .ok (.iload_n 1, 1) := by decide +kernel
theorem dX14_copies_10 : decode cX14_copies 10 = .ok (.iaload, 1) := by decide +kernel
theorem dX14_copies_11 : decode cX14_copies 11 = .ok (.iastore, 1) := by decide +kernel
theorem dX14_copies_12 : decode cX14_copies 12 = .ok (.aload_n 0, 1) := by decide +kernel
theorem dX14_copies_13 : decode cX14_copies 13 = .ok (.getfield 15, 3) := by decide +kernel
theorem dX14_copies_16 : decode cX14_copies 16 = .ok (.iload_n 2, 1) := by decide +kernel
theorem dX14_copies_17 : decode cX14_copies 17 = .ok (.aload_n 0, 1) := by decide +kernel
theorem dX14_copies_18 : decode cX14_copies 18 = .ok (.getfield 15, 3) := by decide +kernel
theorem dX14_copies_21 : decode cX14_copies 21 = .ok (.iload_n 1, 1) := by decide +kernel
theorem dX14_copies_22 : decode cX14_copies 22 = .ok (.iaload, 1) := by decide +kernel
theorem dX14_copies_23 : decode cX14_copies 23 = .ok (.iastore, 1) := by decide +kernel
theorem dX14_copies_24 : decode cX14_copies 24 = .ok (.aload_n 0, 1) := by decide +kernel
theorem dX14_copies_25 : decode cX14_copies 25 = .ok (.getfield 18, 3) := by decide +kernel
theorem dX14_copies_28 : decode cX14_copies 28 = .ok (.iload_n 2, 1) := by decide +kernel
theorem dX14_copies_29 : decode cX14_copies 29 = .ok (.aload_n 0, 1) := by decide +kernel
theorem dX14_copies_30 : decode cX14_copies 30 = .ok (.getfield 18, 3) := by decide +kernel
theorem dX14_copies_33 : decode cX14_copies 33 = .ok (.iload_n 1, 1) := by decide +kernel
theorem dX14_copies_34 : decode cX14_copies 34 = .ok (.iaload, 1) := by decide +kernel
theorem dX14_copies_35 : decode cX14_copies 35 = .ok (.iastore, 1) := by decide +kernel
theorem dX14_copies_36 : decode cX14_copies 36 = .ok (.aload_n 0, 1) := by decide +kernel
theorem dX14_copies_37 : decode cX14_copies 37 = .ok (.getfield 24, 3) := by decide +kernel
theorem dX14_copies_40 : decode cX14_copies 40 = .ok (.iload_n 2, 1) := by decide +kernel
theorem dX14_copies_41 : decode cX14_copies 41 = .ok (.aload_n 0, 1) := by decide +kernel
theorem dX14_copies_42 : decode cX14_copies 42 = .ok (.getfield 24, 3) := by decide +kernel
theorem dX14_copies_45 : decode cX14_copies 45 = .ok (.iload_n 1, 1) := by decide +kernel
theorem dX14_copies_46 : decode cX14_copies 46 = .ok (.faload, 1) := by decide +kernel
theorem dX14_copies_47 : decode cX14_copies 47 = .ok (.fastore, 1) := by decide +kernel
theorem dX14_copies_48 : decode cX14_copies 48 = .ok (.iconst 0, 1) := by decide +kernel
theorem dX14_copies_49 : decode cX14_copies 49 = .ok (.istore_n 3, 1) := by decide +kernel
theorem dX14_copies_50 : decode cX14_copies 50 = .ok (.iload_n 3, 1) := by decide +kernel
theorem dX14_copies_51 : decode cX14_copies 51 = .ok (.bipush 16, 2) := by decide +kernel
theorem dX14_copies_53 : decode cX14_copies 53 = .ok (.if_icmp .ge 31, 3) := by decide +kernel
theorem dX14_copies_56 : decode cX14_copies 56 = .ok (.aload_n 0, 1) := by decide +kernel
theorem dX14_copies_57 : decode cX14_copies 57 = .ok (.getfield 21, 3) := by decide +kernel
theorem dX14_copies_60 : decode cX14_copies 60 = .ok (.bipush 16, 2) := by decide +kernel
theorem dX14_copies_62 : decode cX14_copies 62 = .ok (.iload_n 2, 1) := by decide +kernel
theorem dX14_copies_63 : decode cX14_copies 63 = .ok (.imul, 1) := by decide +kernel
theorem dX14_copies_64 : decode cX14_copies 64 = .ok (.iload_n 3, 1) := by decide +kernel
theorem dX14_copies_65 : decode cX14_copies 65 = .ok (.iadd, 1) := by decide +kernel
theorem dX14_copies_66 : decode cX14_copies 66 = .ok (.aload_n 0, 1) := by decide +kernel
theorem dX14_copies_67 : decode cX14_copies 67 = .ok (.getfield 21, 3) := by decide +kernel
theorem dX14_copies_70 : decode cX14_copies 70 = .ok (.bipush 16, 2) := by decide +kernel
theorem dX14_copies_72 : decode cX14_copies 72 = .ok (.iload_n 1, 1) := by decide +kernel
theorem dX14_copies_73 : decode cX14_copies 73 = .ok (.imul, 1) := by decide +kernel
theorem dX14_copies_74 : decode cX14_copies 74 = .ok (.iload_n 3, 1) := by decide +kernel
theorem dX14_copies_75 : decode cX14_copies 75 = .ok (.iadd, 1) := by decide +kernel
theorem dX14_copies_76 : decode cX14_copies 76 = .ok (.iaload, 1) := by decide +kernel
theorem dX14_copies_77 : decode cX14_copies 77 = .ok (.iastore, 1) := by decide +kernel
theorem dX14_copies_78 : decode cX14_copies 78 = .ok (.iinc 3 1, 3) := by decide +kernel
theorem dX14_copies_81 : decode cX14_copies 81 = .ok (.goto (-31), 3) := by decide +kernel
theorem dX14_copies_84 : decode cX14_copies 84 = .ok (.return_, 1) := by decide +kernel
theorem dX14_isInt_0 : decode cX14_isInt 0 = .ok (.aload_n 0, 1) := by decide +kernel
theorem dX14_isInt_1 : decode cX14_isInt 1 = .ok (.getfield 11, 3) := by decide +kernel
theorem dX14_isInt_4 : decode cX14_isInt 4 = .ok (.iload_n 1, 1) := by decide +kernel
theorem dX14_isInt_5 : decode cX14_isInt 5 = .ok (.iconst 1, 1) := by decide +kernel
theorem dX14_isInt_6 : decode cX14_isInt 6 = .ok (.iastore, 1) := by decide +kernel
theorem dX14_isInt_7 : decode cX14_isInt 7 = .ok (.aload_n 0, 1) := by decide +kernel
theorem dX14_isInt_8 : decode cX14_isInt 8 = .ok (.getfield 15, 3) := by decide +kernel
theorem dX14_isInt_11 : decode cX14_isInt 11 = .ok (.iload_n 1, 1) := by decide +kernel
theorem dX14_isInt_12 : decode cX14_isInt 12 = .ok (.iload_n 2, 1) := by decide +kernel
theorem dX14_isInt_13 : decode cX14_isInt 13 = .ok (.iastore, 1) := by decide +kernel
theorem dX14_isInt_14 : decode cX14_isInt 14 = .ok (.return_, 1) := by decide +kernel
theorem dX14_isReal_0 : decode cX14_isReal 0 = .ok (.aload_n 0, 1) := by decide +kernel
theorem dX14_isReal_1 : decode cX14_isReal 1 = .ok (.getfield 11, 3) := by decide +kernel
theorem dX14_isReal_4 : decode cX14_isReal 4 = .ok (.iload_n 1, 1) := by decide +kernel
theorem dX14_isReal_5 : decode cX14_isReal 5 = .ok (.iconst 2, 1) := by decide +kernel
theorem dX14_isReal_6 : decode cX14_isReal 6 = .ok (.iastore, 1) := by decide +kernel
theorem dX14_isReal_7 : decode cX14_isReal 7 = .ok (.aload_n 0, 1) := by decide +kernel
theorem dX14_isReal_8 : decode cX14_isReal 8 = .ok (.getfield 24, 3) := by decide +kernel
theorem dX14_isReal_11 : decode cX14_isReal 11 = .ok (.iload_n 1, 1) := by decide +kernel
theorem dX14_isReal_12 : decode cX14_isReal 12 = .ok (.fload_n 2, 1) := by decide +kernel
theorem dX14_isReal_13 : decode cX14_isReal 13 = .ok (.invokestatic 136, 3) := by decide +kernel
theorem dX14_isReal_16 : decode cX14_isReal 16 = .ok (.fastore, 1) := by decide +kernel
theorem dX14_isReal_17 : decode cX14_isReal 17 = .ok (.return_, 1) := by decide +kernel
theorem dX14_isTrue_0 : decode cX14_isTrue 0 = .ok (.aload_n 0, 1) := by decide +kernel
theorem dX14_isTrue_1 : decode cX14_isTrue 1 = .ok (.getfield 11, 3) := by decide +kernel
theorem dX14_isTrue_4 : decode cX14_isTrue 4 = .ok (.iload_n 1, 1) := by decide +kernel
theorem dX14_isTrue_5 : decode cX14_isTrue 5 = .ok (.iaload, 1) := by decide +kernel
theorem dX14_isTrue_6 : decode cX14_isTrue 6 = .ok (.tableswitch 60 0 2 #[26, 28, 43], 26) := by decide +kernel
theorem dX14_isTrue_32 : decode cX14_isTrue 32 = .ok (.iconst 0, 1) := by decide +kernel
theorem dX14_isTrue_33 : decode cX14_isTrue 33 = .ok (.ireturn, 1) := by decide +kernel
theorem dX14_isTrue_34 : decode cX14_isTrue 34 = .ok (.aload_n 0, 1) := by decide +kernel
theorem dX14_isTrue_35 : decode cX14_isTrue 35 = .ok (.getfield 15, 3) := by decide +kernel
theorem dX14_isTrue_38 : decode cX14_isTrue 38 = .ok (.iload_n 1, 1) := by decide +kernel
theorem dX14_isTrue_39 : decode cX14_isTrue 39 = .ok (.iaload, 1) := by decide +kernel
theorem dX14_isTrue_40 : decode cX14_isTrue 40 = .ok (.ifCond .eq 7, 3) := by decide +kernel
theorem dX14_isTrue_43 : decode cX14_isTrue 43 = .ok (.iconst 1, 1) := by decide +kernel
theorem dX14_isTrue_44 : decode cX14_isTrue 44 = .ok (.goto 4, 3) := by decide +kernel
theorem dX14_isTrue_47 : decode cX14_isTrue 47 = .ok (.iconst 0, 1) := by decide +kernel
theorem dX14_isTrue_48 : decode cX14_isTrue 48 = .ok (.ireturn, 1) := by decide +kernel
theorem dX14_isTrue_49 : decode cX14_isTrue 49 = .ok (.aload_n 0, 1) := by decide +kernel
theorem dX14_isTrue_50 : decode cX14_isTrue 50 = .ok (.getfield 24, 3) := by decide +kernel
theorem dX14_isTrue_53 : decode cX14_isTrue 53 = .ok (.iload_n 1, 1) := by decide +kernel
theorem dX14_isTrue_54 : decode cX14_isTrue 54 = .ok (.faload, 1) := by decide +kernel
theorem dX14_isTrue_55 : decode cX14_isTrue 55 = .ok (.fconst 0, 1) := by decide +kernel
theorem dX14_isTrue_56 : decode cX14_isTrue 56 = .ok (.fcmp .l, 1) := by decide +kernel
theorem dX14_isTrue_57 : decode cX14_isTrue 57 = .ok (.ifCond .eq 7, 3) := by decide +kernel
theorem dX14_isTrue_60 : decode cX14_isTrue 60 = .ok (.iconst 1, 1) := by decide +kernel
theorem dX14_isTrue_61 : decode cX14_isTrue 61 = .ok (.goto 4, 3) := by decide +kernel
theorem dX14_isTrue_64 : decode cX14_isTrue 64 = .ok (.iconst 0, 1) := by decide +kernel
theorem dX14_isTrue_65 : decode cX14_isTrue 65 = .ok (.ireturn, 1) := by decide +kernel
theorem dX14_isTrue_66 : decode cX14_isTrue 66 = .ok (.aload_n 0, 1) := by decide +kernel
theorem dX14_isTrue_67 : decode cX14_isTrue 67 = .ok (.getfield 18, 3) := by decide +kernel
theorem dX14_isTrue_70 : decode cX14_isTrue 70 = .ok (.iload_n 1, 1) := by decide +kernel
theorem dX14_isTrue_71 : decode cX14_isTrue 71 = .ok (.iaload, 1) := by decide +kernel
theorem dX14_isTrue_72 : decode cX14_isTrue 72 = .ok (.ifCond .le 7, 3) := by decide +kernel
theorem dX14_isTrue_75 : decode cX14_isTrue 75 = .ok (.iconst 1, 1) := by decide +kernel
theorem dX14_isTrue_76 : decode cX14_isTrue 76 = .ok (.goto 4, 3) := by decide +kernel
theorem dX14_isTrue_79 : decode cX14_isTrue 79 = .ok (.iconst 0, 1) := by decide +kernel
theorem dX14_isTrue_80 : decode cX14_isTrue 80 = .ok (.ireturn, 1) := by decide +kernel
theorem dX14_shows_0 : decode cX14_shows 0 = .ok (.aload_n 0, 1) := by decide +kernel
theorem dX14_shows_1 : decode cX14_shows 1 = .ok (.getfield 28, 3) := by decide +kernel
theorem dX14_shows_4 : decode cX14_shows 4 = .ok (.aload_n 0, 1) := by decide +kernel
theorem dX14_shows_5 : decode cX14_shows 5 = .ok (.getfield 140, 3) := by decide +kernel
theorem dX14_shows_8 : decode cX14_shows 8 = .ok (.iload_n 1, 1) := by decide +kernel
theorem dX14_shows_9 : decode cX14_shows 9 = .ok (.iastore, 1) := by decide +kernel
theorem dX14_shows_10 : decode cX14_shows 10 = .ok (.aload_n 0, 1) := by decide +kernel
theorem dX14_shows_11 : decode cX14_shows 11 = .ok (.dup, 1) := by decide +kernel
theorem dX14_shows_12 : decode cX14_shows 12 = .ok (.getfield 140, 3) := by decide +kernel
theorem dX14_shows_15 : decode cX14_shows 15 = .ok (.iconst 1, 1) := by decide +kernel
theorem dX14_shows_16 : decode cX14_shows 16 = .ok (.iadd, 1) := by decide +kernel
theorem dX14_shows_17 : decode cX14_shows 17 = .ok (.putfield 140, 3) := by decide +kernel
theorem dX14_shows_20 : decode cX14_shows 20 = .ok (.return_, 1) := by decide +kernel
theorem dX14_showsInt_0 : decode cX14_showsInt 0 = .ok (.iload_n 1, 1) := by decide +kernel
theorem dX14_showsInt_1 : decode cX14_showsInt 1 = .ok (.ifCond .ge 9, 3) := by decide +kernel
theorem dX14_showsInt_4 : decode cX14_showsInt 4 = .ok (.aload_n 0, 1) := by decide +kernel
theorem dX14_showsInt_5 : decode cX14_showsInt 5 = .ok (.bipush 45, 2) := by decide +kernel
theorem dX14_showsInt_7 : decode cX14_showsInt 7 = .ok (.invokevirtual 143, 3) := by decide +kernel
theorem dX14_showsInt_10 : decode cX14_showsInt 10 = .ok (.iload_n 1, 1) := by decide +kernel
theorem dX14_showsInt_11 : decode cX14_showsInt 11 = .ok (.ifCond .ge 8, 3) := by decide +kernel
theorem dX14_showsInt_14 : decode cX14_showsInt 14 = .ok (.iload_n 1, 1) := by decide +kernel
theorem dX14_showsInt_15 : decode cX14_showsInt 15 = .ok (.ineg, 1) := by decide +kernel
theorem dX14_showsInt_16 : decode cX14_showsInt 16 = .ok (.goto 4, 3) := by decide +kernel
theorem dX14_showsInt_19 : decode cX14_showsInt 19 = .ok (.iload_n 1, 1) := by decide +kernel
theorem dX14_showsInt_20 : decode cX14_showsInt 20 = .ok (.istore_n 2, 1) := by decide +kernel
theorem dX14_showsInt_21 : decode cX14_showsInt 21 = .ok (.iconst 1, 1) := by decide +kernel
theorem dX14_showsInt_22 : decode cX14_showsInt 22 = .ok (.istore_n 3, 1) := by decide +kernel
theorem dX14_showsInt_23 : decode cX14_showsInt 23 = .ok (.iload_n 2, 1) := by decide +kernel
theorem dX14_showsInt_24 : decode cX14_showsInt 24 = .ok (.iload_n 3, 1) := by decide +kernel
theorem dX14_showsInt_25 : decode cX14_showsInt 25 = .ok (.idiv, 1) := by decide +kernel
theorem dX14_showsInt_26 : decode cX14_showsInt 26 = .ok (.bipush 9, 2) := by decide +kernel
theorem dX14_showsInt_28 : decode cX14_showsInt 28 = .ok (.if_icmp .le 11, 3) := by decide +kernel
theorem dX14_showsInt_31 : decode cX14_showsInt 31 = .ok (.iload_n 3, 1) := by decide +kernel
theorem dX14_showsInt_32 : decode cX14_showsInt 32 = .ok (.bipush 10, 2) := by decide +kernel
theorem dX14_showsInt_34 : decode cX14_showsInt 34 = .ok (.imul, 1) := by decide +kernel
theorem dX14_showsInt_35 : decode cX14_showsInt 35 = .ok (.istore_n 3, 1) := by decide +kernel
theorem dX14_showsInt_36 : decode cX14_showsInt 36 = .ok (.goto (-13), 3) := by decide +kernel
theorem dX14_showsInt_39 : decode cX14_showsInt 39 = .ok (.iload_n 3, 1) := by decide +kernel
theorem dX14_showsInt_40 : decode cX14_showsInt 40 = .ok (.ifCond .le 24, 3) := by decide +kernel
theorem dX14_showsInt_43 : decode cX14_showsInt 43 = .ok (.aload_n 0, 1) := by decide +kernel
theorem dX14_showsInt_44 : decode cX14_showsInt 44 = .ok (.bipush 48, 2) := by decide +kernel
theorem dX14_showsInt_46 : decode cX14_showsInt 46 = .ok (.iload_n 2, 1) := by decide +kernel
theorem dX14_showsInt_47 : decode cX14_showsInt 47 = .ok (.iload_n 3, 1) := by decide +kernel
theorem dX14_showsInt_48 : decode cX14_showsInt 48 = .ok (.idiv, 1) := by decide +kernel
theorem dX14_showsInt_49 : decode cX14_showsInt 49 = .ok (.bipush 10, 2) := by decide +kernel
theorem dX14_showsInt_51 : decode cX14_showsInt 51 = .ok (.irem, 1) := by decide +kernel
theorem dX14_showsInt_52 : decode cX14_showsInt 52 = .ok (.iadd, 1) := by decide +kernel
theorem dX14_showsInt_53 : decode cX14_showsInt 53 = .ok (.invokevirtual 143, 3) := by decide +kernel
theorem dX14_showsInt_56 : decode cX14_showsInt 56 = .ok (.iload_n 3, 1) := by decide +kernel
theorem dX14_showsInt_57 : decode cX14_showsInt 57 = .ok (.bipush 10, 2) := by decide +kernel
theorem dX14_showsInt_59 : decode cX14_showsInt 59 = .ok (.idiv, 1) := by decide +kernel
theorem dX14_showsInt_60 : decode cX14_showsInt 60 = .ok (.istore_n 3, 1) := by decide +kernel
theorem dX14_showsInt_61 : decode cX14_showsInt 61 = .ok (.goto (-22), 3) := by decide +kernel
theorem dX14_showsInt_64 : decode cX14_showsInt 64 = .ok (.return_, 1) := by decide +kernel
theorem dX14_showsReal_0 : decode cX14_showsReal 0 = .ok (.fload_n 1, 1) := by decide +kernel
theorem dX14_showsReal_1 : decode cX14_showsReal 1 = .ok (.fconst 0, 1) := by decide +kernel
theorem dX14_showsReal_2 : decode cX14_showsReal 2 = .ok (.fcmp .g, 1) := by decide +kernel
theorem dX14_showsReal_3 : decode cX14_showsReal 3 = .ok (.ifCond .ge 9, 3) := by decide +kernel
theorem dX14_showsReal_6 : decode cX14_showsReal 6 = .ok (.aload_n 0, 1) := by decide +kernel
theorem dX14_showsReal_7 : decode cX14_showsReal 7 = .ok (.bipush 45, 2) := by decide +kernel
theorem dX14_showsReal_9 : decode cX14_showsReal 9 = .ok (.invokevirtual 143, 3) := by decide +kernel
theorem dX14_showsReal_12 : decode cX14_showsReal 12 = .ok (.fload_n 1, 1) := by decide +kernel
theorem dX14_showsReal_13 : decode cX14_showsReal 13 = .ok (.fconst 0, 1) := by decide +kernel
theorem dX14_showsReal_14 : decode cX14_showsReal 14 = .ok (.fcmp .g, 1) := by decide +kernel
theorem dX14_showsReal_15 : decode cX14_showsReal 15 = .ok (.ifCond .ge 8, 3) := by decide +kernel
theorem dX14_showsReal_18 : decode cX14_showsReal 18 = .ok (.fload_n 1, 1) := by decide +kernel
theorem dX14_showsReal_19 : decode cX14_showsReal 19 = .ok (.fneg, 1) := by decide +kernel
theorem dX14_showsReal_20 : decode cX14_showsReal 20 = .ok (.goto 4, 3) := by decide +kernel
theorem dX14_showsReal_23 : decode cX14_showsReal 23 = .ok (.fload_n 1, 1) := by decide +kernel
theorem dX14_showsReal_24 : decode cX14_showsReal 24 = .ok (.fstore_n 2, 1) := by decide +kernel
theorem dX14_showsReal_25 : decode cX14_showsReal 25 = .ok (.fload_n 2, 1) := by decide +kernel
theorem dX14_showsReal_26 : decode cX14_showsReal 26 = .ok (.f2i, 1) := by decide +kernel
theorem dX14_showsReal_27 : decode cX14_showsReal 27 = .ok (.istore_n 3, 1) := by decide +kernel
theorem dX14_showsReal_28 : decode cX14_showsReal 28 = .ok (.fload_n 2, 1) := by decide +kernel
theorem dX14_showsReal_29 : decode cX14_showsReal 29 = .ok (.iload_n 3, 1) := by decide +kernel
theorem dX14_showsReal_30 : decode cX14_showsReal 30 = .ok (.i2f, 1) := by decide +kernel
theorem dX14_showsReal_31 : decode cX14_showsReal 31 = .ok (.fsub, 1) := by decide +kernel
theorem dX14_showsReal_32 : decode cX14_showsReal 32 = .ok (.ldc 147, 2) := by decide +kernel
theorem dX14_showsReal_34 : decode cX14_showsReal 34 = .ok (.fmul, 1) := by decide +kernel
theorem dX14_showsReal_35 : decode cX14_showsReal 35 = .ok (.f2i, 1) := by decide +kernel
theorem dX14_showsReal_36 : decode cX14_showsReal 36 = .ok (.istore 4, 2) := by decide +kernel
theorem dX14_showsReal_38 : decode cX14_showsReal 38 = .ok (.aload_n 0, 1) := by decide +kernel
theorem dX14_showsReal_39 : decode cX14_showsReal 39 = .ok (.iload_n 3, 1) := by decide +kernel
theorem dX14_showsReal_40 : decode cX14_showsReal 40 = .ok (.invokevirtual 148, 3) := by decide +kernel
theorem dX14_showsReal_43 : decode cX14_showsReal 43 = .ok (.aload_n 0, 1) := by decide +kernel
theorem dX14_showsReal_44 : decode cX14_showsReal 44 = .ok (.bipush 46, 2) := by decide +kernel
theorem dX14_showsReal_46 : decode cX14_showsReal 46 = .ok (.invokevirtual 143, 3) := by decide +kernel
theorem dX14_showsReal_49 : decode cX14_showsReal 49 = .ok (.aload_n 0, 1) := by decide +kernel
theorem dX14_showsReal_50 : decode cX14_showsReal 50 = .ok (.bipush 48, 2) := by decide +kernel
theorem dX14_showsReal_52 : decode cX14_showsReal 52 = .ok (.iload 4, 2) := by decide +kernel
theorem dX14_showsReal_54 : decode cX14_showsReal 54 = .ok (.bipush 100, 2) := by decide +kernel
theorem dX14_showsReal_56 : decode cX14_showsReal 56 = .ok (.idiv, 1) := by decide +kernel
theorem dX14_showsReal_57 : decode cX14_showsReal 57 = .ok (.bipush 10, 2) := by decide +kernel
theorem dX14_showsReal_59 : decode cX14_showsReal 59 = .ok (.irem, 1) := by decide +kernel
theorem dX14_showsReal_60 : decode cX14_showsReal 60 = .ok (.iadd, 1) := by decide +kernel
theorem dX14_showsReal_61 : decode cX14_showsReal 61 = .ok (.invokevirtual 143, 3) := by decide +kernel
theorem dX14_showsReal_64 : decode cX14_showsReal 64 = .ok (.aload_n 0, 1) := by decide +kernel
theorem dX14_showsReal_65 : decode cX14_showsReal 65 = .ok (.bipush 48, 2) := by decide +kernel
theorem dX14_showsReal_67 : decode cX14_showsReal 67 = .ok (.iload 4, 2) := by decide +kernel
theorem dX14_showsReal_69 : decode cX14_showsReal 69 = .ok (.bipush 10, 2) := by decide +kernel
theorem dX14_showsReal_71 : decode cX14_showsReal 71 = .ok (.idiv, 1) := by decide +kernel
theorem dX14_showsReal_72 : decode cX14_showsReal 72 = .ok (.bipush 10, 2) := by decide +kernel
theorem dX14_showsReal_74 : decode cX14_showsReal 74 = .ok (.irem, 1) := by decide +kernel
theorem dX14_showsReal_75 : decode cX14_showsReal 75 = .ok (.iadd, 1) := by decide +kernel
theorem dX14_showsReal_76 : decode cX14_showsReal 76 = .ok (.invokevirtual 143, 3) := by decide +kernel
theorem dX14_showsReal_79 : decode cX14_showsReal 79 = .ok (.aload_n 0, 1) := by decide +kernel
theorem dX14_showsReal_80 : decode cX14_showsReal 80 = .ok (.bipush 48, 2) := by decide +kernel
theorem dX14_showsReal_82 : decode cX14_showsReal 82 = .ok (.iload 4, 2) := by decide +kernel
theorem dX14_showsReal_84 : decode cX14_showsReal 84 = .ok (.bipush 10, 2) := by decide +kernel
theorem dX14_showsReal_86 : decode cX14_showsReal 86 = .ok (.irem, 1) := by decide +kernel
theorem dX14_showsReal_87 : decode cX14_showsReal 87 = .ok (.iadd, 1) := by decide +kernel
theorem dX14_showsReal_88 : decode cX14_showsReal 88 = .ok (.invokevirtual 143, 3) := by decide +kernel
theorem dX14_showsReal_91 : decode cX14_showsReal 91 = .ok (.return_, 1) := by decide +kernel
theorem dX14_showsValue_0 : decode cX14_showsValue 0 = .ok (.aload_n 0, 1) := by decide +kernel
theorem dX14_showsValue_1 : decode cX14_showsValue 1 = .ok (.iconst 0, 1) := by decide +kernel
theorem dX14_showsValue_2 : decode cX14_showsValue 2 = .ok (.putfield 140, 3) := by decide +kernel
theorem dX14_showsValue_5 : decode cX14_showsValue 5 = .ok (.aload_n 0, 1) := by decide +kernel
theorem dX14_showsValue_6 : decode cX14_showsValue 6 = .ok (.getfield 11, 3) := by decide +kernel
theorem dX14_showsValue_9 : decode cX14_showsValue 9 = .ok (.iload_n 1, 1) := by decide +kernel
theorem dX14_showsValue_10 : decode cX14_showsValue 10 = .ok (.iaload, 1) := by decide +kernel
theorem dX14_showsValue_11 : decode cX14_showsValue 11 = .ok (.iconst 1, 1) := by decide +kernel
theorem dX14_showsValue_12 : decode cX14_showsValue 12 = .ok (.if_icmp .ne 13, 3) := by decide +kernel
theorem dX14_showsValue_15 : decode cX14_showsValue 15 = .ok (.aload_n 0, 1) := by decide +kernel
theorem dX14_showsValue_16 : decode cX14_showsValue 16 = .ok (.aload_n 0, 1) := by decide +kernel
theorem dX14_showsValue_17 : decode cX14_showsValue 17 = .ok (.getfield 15, 3) := by decide +kernel
theorem dX14_showsValue_20 : decode cX14_showsValue 20 = .ok (.iload_n 1, 1) := by decide +kernel
theorem dX14_showsValue_21 : decode cX14_showsValue 21 = .ok (.iaload, 1) := by decide +kernel
theorem dX14_showsValue_22 : decode cX14_showsValue 22 = .ok (.invokevirtual 148, 3) := by decide +kernel
theorem dX14_showsValue_25 : decode cX14_showsValue 25 = .ok (.aload_n 0, 1) := by decide +kernel
theorem dX14_showsValue_26 : decode cX14_showsValue 26 = .ok (.getfield 11, 3) := by decide +kernel
theorem dX14_showsValue_29 : decode cX14_showsValue 29 = .ok (.iload_n 1, 1) := by decide +kernel
theorem dX14_showsValue_30 : decode cX14_showsValue 30 = .ok (.iaload, 1) := by decide +kernel
theorem dX14_showsValue_31 : decode cX14_showsValue 31 = .ok (.iconst 2, 1) := by decide +kernel
theorem dX14_showsValue_32 : decode cX14_showsValue 32 = .ok (.if_icmp .ne 13, 3) := by decide +kernel
theorem dX14_showsValue_35 : decode cX14_showsValue 35 = .ok (.aload_n 0, 1) := by decide +kernel
theorem dX14_showsValue_36 : decode cX14_showsValue 36 = .ok (.aload_n 0, 1) := by decide +kernel
theorem dX14_showsValue_37 : decode cX14_showsValue 37 = .ok (.getfield 24, 3) := by decide +kernel
theorem dX14_showsValue_40 : decode cX14_showsValue 40 = .ok (.iload_n 1, 1) := by decide +kernel
theorem dX14_showsValue_41 : decode cX14_showsValue 41 = .ok (.faload, 1) := by decide +kernel
theorem dX14_showsValue_42 : decode cX14_showsValue 42 = .ok (.invokevirtual 151, 3) := by decide +kernel
theorem dX14_showsValue_45 : decode cX14_showsValue 45 = .ok (.iconst 0, 1) := by decide +kernel
theorem dX14_showsValue_46 : decode cX14_showsValue 46 = .ok (.istore_n 2, 1) := by decide +kernel
theorem dX14_showsValue_47 : decode cX14_showsValue 47 = .ok (.aload_n 0, 1) := by decide +kernel
theorem dX14_showsValue_48 : decode cX14_showsValue 48 = .ok (.getfield 11, 3) := by decide +kernel
theorem dX14_showsValue_51 : decode cX14_showsValue 51 = .ok (.iload_n 1, 1) := by decide +kernel
theorem dX14_showsValue_52 : decode cX14_showsValue 52 = .ok (.iaload, 1) := by decide +kernel
theorem dX14_showsValue_53 : decode cX14_showsValue 53 = .ok (.iconst 3, 1) := by decide +kernel
theorem dX14_showsValue_54 : decode cX14_showsValue 54 = .ok (.if_icmp .ne 34, 3) := by decide +kernel
theorem dX14_showsValue_57 : decode cX14_showsValue 57 = .ok (.iload_n 2, 1) := by decide +kernel
theorem dX14_showsValue_58 : decode cX14_showsValue 58 = .ok (.aload_n 0, 1) := by decide +kernel
theorem dX14_showsValue_59 : decode cX14_showsValue 59 = .ok (.getfield 18, 3) := by decide +kernel
theorem dX14_showsValue_62 : decode cX14_showsValue 62 = .ok (.iload_n 1, 1) := by decide +kernel
theorem dX14_showsValue_63 : decode cX14_showsValue 63 = .ok (.iaload, 1) := by decide +kernel
theorem dX14_showsValue_64 : decode cX14_showsValue 64 = .ok (.if_icmp .ge 24, 3) := by decide +kernel
theorem dX14_showsValue_67 : decode cX14_showsValue 67 = .ok (.aload_n 0, 1) := by decide +kernel
theorem dX14_showsValue_68 : decode cX14_showsValue 68 = .ok (.aload_n 0, 1) := by decide +kernel
theorem dX14_showsValue_69 : decode cX14_showsValue 69 = .ok (.getfield 21, 3) := by decide +kernel
theorem dX14_showsValue_72 : decode cX14_showsValue 72 = .ok (.bipush 16, 2) := by decide +kernel
theorem dX14_showsValue_74 : decode cX14_showsValue 74 = .ok (.iload_n 1, 1) := by decide +kernel
theorem dX14_showsValue_75 : decode cX14_showsValue 75 = .ok (.imul, 1) := by decide +kernel
theorem dX14_showsValue_76 : decode cX14_showsValue 76 = .ok (.iload_n 2, 1) := by decide +kernel
theorem dX14_showsValue_77 : decode cX14_showsValue 77 = .ok (.iadd, 1) := by decide +kernel
theorem dX14_showsValue_78 : decode cX14_showsValue 78 = .ok (.iaload, 1) := by decide +kernel
theorem dX14_showsValue_79 : decode cX14_showsValue 79 = .ok (.invokevirtual 143, 3) := by decide +kernel
theorem dX14_showsValue_82 : decode cX14_showsValue 82 = .ok (.iinc 2 1, 3) := by decide +kernel
theorem dX14_showsValue_85 : decode cX14_showsValue 85 = .ok (.goto (-38), 3) := by decide +kernel
theorem dX14_showsValue_88 : decode cX14_showsValue 88 = .ok (.iconst 0, 1) := by decide +kernel
theorem dX14_showsValue_89 : decode cX14_showsValue 89 = .ok (.istore_n 2, 1) := by decide +kernel
theorem dX14_showsValue_90 : decode cX14_showsValue 90 = .ok (.aload_n 0, 1) := by decide +kernel
theorem dX14_showsValue_91 : decode cX14_showsValue 91 = .ok (.getfield 11, 3) := by decide +kernel
theorem dX14_showsValue_94 : decode cX14_showsValue 94 = .ok (.iload_n 1, 1) := by decide +kernel
theorem dX14_showsValue_95 : decode cX14_showsValue 95 = .ok (.iaload, 1) := by decide +kernel
theorem dX14_showsValue_96 : decode cX14_showsValue 96 = .ok (.iconst 4, 1) := by decide +kernel
theorem dX14_showsValue_97 : decode cX14_showsValue 97 = .ok (.if_icmp .ne 44, 3) := by decide +kernel
theorem dX14_showsValue_100 : decode cX14_showsValue 100 = .ok (.iload_n 2, 1) := by decide +kernel
theorem dX14_showsValue_101 : decode cX14_showsValue 101 = .ok (.aload_n 0, 1) := by decide +kernel
theorem dX14_showsValue_102 : decode cX14_showsValue 102 = .ok (.getfield 18, 3) := by decide +kernel
theorem dX14_showsValue_105 : decode cX14_showsValue 105 = .ok (.iload_n 1, 1) := by decide +kernel
theorem dX14_showsValue_106 : decode cX14_showsValue 106 = .ok (.iaload, 1) := by decide +kernel
theorem dX14_showsValue_107 : decode cX14_showsValue 107 = .ok (.if_icmp .ge 34, 3) := by decide +kernel
theorem dX14_showsValue_110 : decode cX14_showsValue 110 = .ok (.iload_n 2, 1) := by decide +kernel
theorem dX14_showsValue_111 : decode cX14_showsValue 111 = .ok (.ifCond .le 9, 3) := by decide +kernel
theorem dX14_showsValue_114 : decode cX14_showsValue 114 = .ok (.aload_n 0, 1) := by decide +kernel
theorem dX14_showsValue_115 : decode cX14_showsValue 115 = .ok (.bipush 44, 2) := by decide +kernel
theorem dX14_showsValue_117 : decode cX14_showsValue 117 = .ok (.invokevirtual 143, 3) := by decide +kernel
theorem dX14_showsValue_120 : decode cX14_showsValue 120 = .ok (.aload_n 0, 1) := by decide +kernel
theorem dX14_showsValue_121 : decode cX14_showsValue 121 = .ok (.aload_n 0, 1) := by decide +kernel
theorem dX14_showsValue_122 : decode cX14_showsValue 122 = .ok (.getfield 21, 3) := by decide +kernel
theorem dX14_showsValue_125 : decode cX14_showsValue 125 = .ok (.bipush 16, 2) := by decide +kernel
theorem dX14_showsValue_127 : decode cX14_showsValue 127 = .ok (.iload_n 1, 1) := by decide +kernel
theorem dX14_showsValue_128 : decode cX14_showsValue 128 = .ok (.imul, 1) := by decide +kernel
theorem dX14_showsValue_129 : decode cX14_showsValue 129 = .ok (.iload_n 2, 1) := by decide +kernel
theorem dX14_showsValue_130 : decode cX14_showsValue 130 = .ok (.iadd, 1) := by decide +kernel
theorem dX14_showsValue_131 : decode cX14_showsValue 131 = .ok (.iaload, 1) := by decide +kernel
theorem dX14_showsValue_132 : decode cX14_showsValue 132 = .ok (.invokevirtual 148, 3) := by decide +kernel
theorem dX14_showsValue_135 : decode cX14_showsValue 135 = .ok (.iinc 2 1, 3) := by decide +kernel
theorem dX14_showsValue_138 : decode cX14_showsValue 138 = .ok (.goto (-48), 3) := by decide +kernel
theorem dX14_showsValue_141 : decode cX14_showsValue 141 = .ok (.return_, 1) := by decide +kernel
theorem dX14_letterCase_0 : decode cX14_letterCase 0 = .ok (.iload_n 0, 1) := by decide +kernel
theorem dX14_letterCase_1 : decode cX14_letterCase 1 = .ok (.i2l, 1) := by decide +kernel
theorem dX14_letterCase_2 : decode cX14_letterCase 2 = .ok (.iload_n 1, 1) := by decide +kernel
theorem dX14_letterCase_3 : decode cX14_letterCase 3 = .ok (.i2l, 1) := by decide +kernel
theorem dX14_letterCase_4 : decode cX14_letterCase 4 = .ok (.iload_n 1, 1) := by decide +kernel
theorem dX14_letterCase_5 : decode cX14_letterCase 5 = .ok (.bipush 25, 2) := by decide +kernel
theorem dX14_letterCase_7 : decode cX14_letterCase 7 = .ok (.iadd, 1) := by decide +kernel
theorem dX14_letterCase_8 : decode cX14_letterCase 8 = .ok (.i2l, 1) := by decide +kernel
theorem dX14_letterCase_9 : decode cX14_letterCase 9 = .ok (.invokestatic 155, 3) := by decide +kernel
theorem dX14_letterCase_12 : decode cX14_letterCase 12 = .ok (.ifCond .eq 9, 3) := by decide +kernel
theorem dX14_letterCase_15 : decode cX14_letterCase 15 = .ok (.iload_n 0, 1) := by decide +kernel
theorem dX14_letterCase_16 : decode cX14_letterCase 16 = .ok (.iload_n 2, 1) := by decide +kernel
theorem dX14_letterCase_17 : decode cX14_letterCase 17 = .ok (.iadd, 1) := by decide +kernel
theorem dX14_letterCase_18 : decode cX14_letterCase 18 = .ok (.goto 4, 3) := by decide +kernel
theorem dX14_letterCase_21 : decode cX14_letterCase 21 = .ok (.iload_n 0, 1) := by decide +kernel
theorem dX14_letterCase_22 : decode cX14_letterCase 22 = .ok (.ireturn, 1) := by decide +kernel
theorem dX14_figures_0 : decode cX14_figures 0 = .ok (.iconst 0, 1) := by decide +kernel
theorem dX14_figures_1 : decode cX14_figures 1 = .ok (.istore_n 2, 1) := by decide +kernel
theorem dX14_figures_2 : decode cX14_figures 2 = .ok (.iconst 0, 1) := by decide +kernel
theorem dX14_figures_3 : decode cX14_figures 3 = .ok (.istore_n 3, 1) := by decide +kernel
theorem dX14_figures_4 : decode cX14_figures 4 = .ok (.iload_n 3, 1) := by decide +kernel
theorem dX14_figures_5 : decode cX14_figures 5 = .ok (.aload_n 0, 1) := by decide +kernel
theorem dX14_figures_6 : decode cX14_figures 6 = .ok (.getfield 18, 3) := by decide +kernel
theorem dX14_figures_9 : decode cX14_figures 9 = .ok (.iload_n 1, 1) := by decide +kernel
theorem dX14_figures_10 : decode cX14_figures 10 = .ok (.iaload, 1) := by decide +kernel
theorem dX14_figures_11 : decode cX14_figures 11 = .ok (.if_icmp .ge 41, 3) := by decide +kernel
theorem dX14_figures_14 : decode cX14_figures 14 = .ok (.iload_n 2, 1) := by decide +kernel
theorem dX14_figures_15 : decode cX14_figures 15 = .ok (.aload_n 0, 1) := by decide +kernel
theorem dX14_figures_16 : decode cX14_figures 16 = .ok (.getfield 21, 3) := by decide +kernel
theorem dX14_figures_19 : decode cX14_figures 19 = .ok (.bipush 16, 2) := by decide +kernel
theorem dX14_figures_21 : decode cX14_figures 21 = .ok (.iload_n 1, 1) := by decide +kernel
theorem dX14_figures_22 : decode cX14_figures 22 = .ok (.imul, 1) := by decide +kernel
theorem dX14_figures_23 : decode cX14_figures 23 = .ok (.iload_n 3, 1) := by decide +kernel
theorem dX14_figures_24 : decode cX14_figures 24 = .ok (.iadd, 1) := by decide +kernel
theorem dX14_figures_25 : decode cX14_figures 25 = .ok (.iaload, 1) := by decide +kernel
theorem dX14_figures_26 : decode cX14_figures 26 = .ok (.i2l, 1) := by decide +kernel
theorem dX14_figures_27 : decode cX14_figures 27 = .ok (.ldc2_w 159, 3) := by decide +kernel
theorem dX14_figures_30 : decode cX14_figures 30 = .ok (.ldc2_w 161, 3) := by decide +kernel
theorem dX14_figures_33 : decode cX14_figures 33 = .ok (.invokestatic 155, 3) := by decide +kernel
theorem dX14_figures_36 : decode cX14_figures 36 = .ok (.ifCond .eq 7, 3) := by decide +kernel
theorem dX14_figures_39 : decode cX14_figures 39 = .ok (.iconst 1, 1) := by decide +kernel
theorem dX14_figures_40 : decode cX14_figures 40 = .ok (.goto 4, 3) := by decide +kernel
theorem dX14_figures_43 : decode cX14_figures 43 = .ok (.iconst 0, 1) := by decide +kernel
theorem dX14_figures_44 : decode cX14_figures 44 = .ok (.iadd, 1) := by decide +kernel
theorem dX14_figures_45 : decode cX14_figures 45 = .ok (.istore_n 2, 1) := by decide +kernel
theorem dX14_figures_46 : decode cX14_figures 46 = .ok (.iinc 3 1, 3) := by decide +kernel
theorem dX14_figures_49 : decode cX14_figures 49 = .ok (.goto (-45), 3) := by decide +kernel
theorem dX14_figures_52 : decode cX14_figures 52 = .ok (.iload_n 2, 1) := by decide +kernel
theorem dX14_figures_53 : decode cX14_figures 53 = .ok (.ireturn, 1) := by decide +kernel
theorem dX14_cases_0 : decode cX14_cases 0 = .ok (.iconst 0, 1) := by decide +kernel
theorem dX14_cases_1 : decode cX14_cases 1 = .ok (.istore 4, 2) := by decide +kernel
theorem dX14_cases_3 : decode cX14_cases 3 = .ok (.iload 4, 2) := by decide +kernel
theorem dX14_cases_5 : decode cX14_cases 5 = .ok (.aload_n 0, 1) := by decide +kernel
theorem dX14_cases_6 : decode cX14_cases 6 = .ok (.getfield 18, 3) := by decide +kernel
theorem dX14_cases_9 : decode cX14_cases 9 = .ok (.iload_n 1, 1) := by decide +kernel
theorem dX14_cases_10 : decode cX14_cases 10 = .ok (.iaload, 1) := by decide +kernel
theorem dX14_cases_11 : decode cX14_cases 11 = .ok (.if_icmp .ge 38, 3) := by decide +kernel
theorem dX14_cases_14 : decode cX14_cases 14 = .ok (.aload_n 0, 1) := by decide +kernel
theorem dX14_cases_15 : decode cX14_cases 15 = .ok (.getfield 21, 3) := by decide +kernel
theorem dX14_cases_18 : decode cX14_cases 18 = .ok (.bipush 16, 2) := by decide +kernel
theorem dX14_cases_20 : decode cX14_cases 20 = .ok (.iload_n 1, 1) := by decide +kernel
theorem dX14_cases_21 : decode cX14_cases 21 = .ok (.imul, 1) := by decide +kernel
theorem dX14_cases_22 : decode cX14_cases 22 = .ok (.iload 4, 2) := by decide +kernel
theorem dX14_cases_24 : decode cX14_cases 24 = .ok (.iadd, 1) := by decide +kernel
theorem dX14_cases_25 : decode cX14_cases 25 = .ok (.aload_n 0, 1) := by decide +kernel
theorem dX14_cases_26 : decode cX14_cases 26 = .ok (.getfield 21, 3) := by decide +kernel
theorem dX14_cases_29 : decode cX14_cases 29 = .ok (.bipush 16, 2) := by decide +kernel
theorem dX14_cases_31 : decode cX14_cases 31 = .ok (.iload_n 1, 1) := by decide +kernel
theorem dX14_cases_32 : decode cX14_cases 32 = .ok (.imul, 1) := by decide +kernel
theorem dX14_cases_33 : decode cX14_cases 33 = .ok (.iload 4, 2) := by decide +kernel
theorem dX14_cases_35 : decode cX14_cases 35 = .ok (.iadd, 1) := by decide +kernel
theorem dX14_cases_36 : decode cX14_cases 36 = .ok (.iaload, 1) := by decide +kernel
theorem dX14_cases_37 : decode cX14_cases 37 = .ok (.iload_n 2, 1) := by decide +kernel
theorem dX14_cases_38 : decode cX14_cases 38 = .ok (.iload_n 3, 1) := by decide +kernel
theorem dX14_cases_39 : decode cX14_cases 39 = .ok (.invokestatic 163, 3) := by decide +kernel
theorem dX14_cases_42 : decode cX14_cases 42 = .ok (.iastore, 1) := by decide +kernel
theorem dX14_cases_43 : decode cX14_cases 43 = .ok (.iinc 4 1, 3) := by decide +kernel
theorem dX14_cases_46 : decode cX14_cases 46 = .ok (.goto (-43), 3) := by decide +kernel
theorem dX14_cases_49 : decode cX14_cases 49 = .ok (.return_, 1) := by decide +kernel
theorem dX14_turnsAbout_0 : decode cX14_turnsAbout 0 = .ok (.iconst 0, 1) := by decide +kernel
theorem dX14_turnsAbout_1 : decode cX14_turnsAbout 1 = .ok (.istore_n 2, 1) := by decide +kernel
theorem dX14_turnsAbout_2 : decode cX14_turnsAbout 2 = .ok (.iload_n 2, 1) := by decide +kernel
theorem dX14_turnsAbout_3 : decode cX14_turnsAbout 3 = .ok (.aload_n 0, 1) := by decide +kernel
theorem dX14_turnsAbout_4 : decode cX14_turnsAbout 4 = .ok (.getfield 18, 3) := by decide +kernel
theorem dX14_turnsAbout_7 : decode cX14_turnsAbout 7 = .ok (.iload_n 1, 1) := by decide +kernel
theorem dX14_turnsAbout_8 : decode cX14_turnsAbout 8 = .ok (.iaload, 1) := by decide +kernel
theorem dX14_turnsAbout_9 : decode cX14_turnsAbout 9 = .ok (.iconst 2, 1) := by decide +kernel
theorem dX14_turnsAbout_10 : decode cX14_turnsAbout 10 = .ok (.idiv, 1) := by decide +kernel
theorem dX14_turnsAbout_11 : decode cX14_turnsAbout 11 = .ok (.if_icmp .ge 73, 3) := by decide +kernel
theorem dX14_turnsAbout_14 : decode cX14_turnsAbout 14 = .ok (.aload_n 0, 1) := by decide +kernel
theorem dX14_turnsAbout_15 : decode cX14_turnsAbout 15 = .ok (.getfield 21, 3) := by decide +kernel
theorem dX14_turnsAbout_18 : decode cX14_turnsAbout 18 = .ok (.bipush 16, 2) := by decide +kernel
theorem dX14_turnsAbout_20 : decode cX14_turnsAbout 20 = .ok (.iload_n 1, 1) := by decide +kernel
theorem dX14_turnsAbout_21 : decode cX14_turnsAbout 21 = .ok (.imul, 1) := by decide +kernel
theorem dX14_turnsAbout_22 : decode cX14_turnsAbout 22 = .ok (.iload_n 2, 1) := by decide +kernel
theorem dX14_turnsAbout_23 : decode cX14_turnsAbout 23 = .ok (.iadd, 1) := by decide +kernel
theorem dX14_turnsAbout_24 : decode cX14_turnsAbout 24 = .ok (.iaload, 1) := by decide +kernel
theorem dX14_turnsAbout_25 : decode cX14_turnsAbout 25 = .ok (.istore_n 3, 1) := by decide +kernel
theorem dX14_turnsAbout_26 : decode cX14_turnsAbout 26 = .ok (.aload_n 0, 1) := by decide +kernel
theorem dX14_turnsAbout_27 : decode cX14_turnsAbout 27 = .ok (.getfield 21, 3) := by decide +kernel
theorem dX14_turnsAbout_30 : decode cX14_turnsAbout 30 = .ok (.bipush 16, 2) := by decide +kernel
theorem dX14_turnsAbout_32 : decode cX14_turnsAbout 32 = .ok (.iload_n 1, 1) := by decide +kernel
theorem dX14_turnsAbout_33 : decode cX14_turnsAbout 33 = .ok (.imul, 1) := by decide +kernel
theorem dX14_turnsAbout_34 : decode cX14_turnsAbout 34 = .ok (.iload_n 2, 1) := by decide +kernel
theorem dX14_turnsAbout_35 : decode cX14_turnsAbout 35 = .ok (.iadd, 1) := by decide +kernel
theorem dX14_turnsAbout_36 : decode cX14_turnsAbout 36 = .ok (.aload_n 0, 1) := by decide +kernel
theorem dX14_turnsAbout_37 : decode cX14_turnsAbout 37 = .ok (.getfield 21, 3) := by decide +kernel
theorem dX14_turnsAbout_40 : decode cX14_turnsAbout 40 = .ok (.bipush 16, 2) := by decide +kernel
theorem dX14_turnsAbout_42 : decode cX14_turnsAbout 42 = .ok (.iload_n 1, 1) := by decide +kernel
theorem dX14_turnsAbout_43 : decode cX14_turnsAbout 43 = .ok (.imul, 1) := by decide +kernel
theorem dX14_turnsAbout_44 : decode cX14_turnsAbout 44 = .ok (.aload_n 0, 1) := by decide +kernel
theorem dX14_turnsAbout_45 : decode cX14_turnsAbout 45 = .ok (.getfield 18, 3) := by decide +kernel
theorem dX14_turnsAbout_48 : decode cX14_turnsAbout 48 = .ok (.iload_n 1, 1) := by decide +kernel
theorem dX14_turnsAbout_49 : decode cX14_turnsAbout 49 = .ok (.iaload, 1) := by decide +kernel
theorem dX14_turnsAbout_50 : decode cX14_turnsAbout 50 = .ok (.iadd, 1) := by decide +kernel
theorem dX14_turnsAbout_51 : decode cX14_turnsAbout 51 = .ok (.iconst 1, 1) := by decide +kernel
theorem dX14_turnsAbout_52 : decode cX14_turnsAbout 52 = .ok (.isub, 1) := by decide +kernel
theorem dX14_turnsAbout_53 : decode cX14_turnsAbout 53 = .ok (.iload_n 2, 1) := by decide +kernel
theorem dX14_turnsAbout_54 : decode cX14_turnsAbout 54 = .ok (.isub, 1) := by decide +kernel
theorem dX14_turnsAbout_55 : decode cX14_turnsAbout 55 = .ok (.iaload, 1) := by decide +kernel
theorem dX14_turnsAbout_56 : decode cX14_turnsAbout 56 = .ok (.iastore, 1) := by decide +kernel
theorem dX14_turnsAbout_57 : decode cX14_turnsAbout 57 = .ok (.aload_n 0, 1) := by decide +kernel
theorem dX14_turnsAbout_58 : decode cX14_turnsAbout 58 = .ok (.getfield 21, 3) := by decide +kernel
theorem dX14_turnsAbout_61 : decode cX14_turnsAbout 61 = .ok (.bipush 16, 2) := by decide +kernel
theorem dX14_turnsAbout_63 : decode cX14_turnsAbout 63 = .ok (.iload_n 1, 1) := by decide +kernel
theorem dX14_turnsAbout_64 : decode cX14_turnsAbout 64 = .ok (.imul, 1) := by decide +kernel
theorem dX14_turnsAbout_65 : decode cX14_turnsAbout 65 = .ok (.aload_n 0, 1) := by decide +kernel
theorem dX14_turnsAbout_66 : decode cX14_turnsAbout 66 = .ok (.getfield 18, 3) := by decide +kernel
theorem dX14_turnsAbout_69 : decode cX14_turnsAbout 69 = .ok (.iload_n 1, 1) := by decide +kernel
theorem dX14_turnsAbout_70 : decode cX14_turnsAbout 70 = .ok (.iaload, 1) := by decide +kernel
theorem dX14_turnsAbout_71 : decode cX14_turnsAbout 71 = .ok (.iadd, 1) := by decide +kernel
theorem dX14_turnsAbout_72 : decode cX14_turnsAbout 72 = .ok (.iconst 1, 1) := by decide +kernel
theorem dX14_turnsAbout_73 : decode cX14_turnsAbout 73 = .ok (.isub, 1) := by decide +kernel
theorem dX14_turnsAbout_74 : decode cX14_turnsAbout 74 = .ok (.iload_n 2, 1) := by decide +kernel
theorem dX14_turnsAbout_75 : decode cX14_turnsAbout 75 = .ok (.isub, 1) := by decide +kernel
theorem dX14_turnsAbout_76 : decode cX14_turnsAbout 76 = .ok (.iload_n 3, 1) := by decide +kernel
theorem dX14_turnsAbout_77 : decode cX14_turnsAbout 77 = .ok (.iastore, 1) := by decide +kernel
theorem dX14_turnsAbout_78 : decode cX14_turnsAbout 78 = .ok (.iinc 2 1, 3) := by decide +kernel
theorem dX14_turnsAbout_81 : decode cX14_turnsAbout 81 = .ok (.goto (-79), 3) := by decide +kernel
theorem dX14_turnsAbout_84 : decode cX14_turnsAbout 84 = .ok (.return_, 1) := by decide +kernel
theorem dX14_sorts_0 : decode cX14_sorts 0 = .ok (.iconst 1, 1) := by decide +kernel
theorem dX14_sorts_1 : decode cX14_sorts 1 = .ok (.istore_n 2, 1) := by decide +kernel
theorem dX14_sorts_2 : decode cX14_sorts 2 = .ok (.iload_n 2, 1) := by decide +kernel
theorem dX14_sorts_3 : decode cX14_sorts 3 = .ok (.aload_n 0, 1) := by decide +kernel
theorem dX14_sorts_4 : decode cX14_sorts 4 = .ok (.getfield 18, 3) := by decide +kernel
theorem dX14_sorts_7 : decode cX14_sorts 7 = .ok (.iload_n 1, 1) := by decide +kernel
theorem dX14_sorts_8 : decode cX14_sorts 8 = .ok (.iaload, 1) := by decide +kernel
theorem dX14_sorts_9 : decode cX14_sorts 9 = .ok (.if_icmp .ge 92, 3) := by decide +kernel
theorem dX14_sorts_12 : decode cX14_sorts 12 = .ok (.aload_n 0, 1) := by decide +kernel
theorem dX14_sorts_13 : decode cX14_sorts 13 = .ok (.getfield 21, 3) := by decide +kernel
theorem dX14_sorts_16 : decode cX14_sorts 16 = .ok (.bipush 16, 2) := by decide +kernel
theorem dX14_sorts_18 : decode cX14_sorts 18 = .ok (.iload_n 1, 1) := by decide +kernel
theorem dX14_sorts_19 : decode cX14_sorts 19 = .ok (.imul, 1) := by decide +kernel
theorem dX14_sorts_20 : decode cX14_sorts 20 = .ok (.iload_n 2, 1) := by decide +kernel
theorem dX14_sorts_21 : decode cX14_sorts 21 = .ok (.iadd, 1) := by decide +kernel
theorem dX14_sorts_22 : decode cX14_sorts 22 = .ok (.iaload, 1) := by decide +kernel
theorem dX14_sorts_23 : decode cX14_sorts 23 = .ok (.istore_n 3, 1) := by decide +kernel
theorem dX14_sorts_24 : decode cX14_sorts 24 = .ok (.iload_n 2, 1) := by decide +kernel
theorem dX14_sorts_25 : decode cX14_sorts 25 = .ok (.istore 4, 2) := by decide +kernel
theorem dX14_sorts_27 : decode cX14_sorts 27 = .ok (.iload 4, 2) := by decide +kernel
theorem dX14_sorts_29 : decode cX14_sorts 29 = .ok (.ifCond .le 53, 3) := by decide +kernel
theorem dX14_sorts_32 : decode cX14_sorts 32 = .ok (.aload_n 0, 1) := by decide +kernel
theorem dX14_sorts_33 : decode cX14_sorts 33 = .ok (.getfield 21, 3) := by decide +kernel
theorem dX14_sorts_36 : decode cX14_sorts 36 = .ok (.bipush 16, 2) := by decide +kernel
theorem dX14_sorts_38 : decode cX14_sorts 38 = .ok (.iload_n 1, 1) := by decide +kernel
theorem dX14_sorts_39 : decode cX14_sorts 39 = .ok (.imul, 1) := by decide +kernel
theorem dX14_sorts_40 : decode cX14_sorts 40 = .ok (.iload 4, 2) := by decide +kernel
theorem dX14_sorts_42 : decode cX14_sorts 42 = .ok (.iadd, 1) := by decide +kernel
theorem dX14_sorts_43 : decode cX14_sorts 43 = .ok (.iconst 1, 1) := by decide +kernel
theorem dX14_sorts_44 : decode cX14_sorts 44 = .ok (.isub, 1) := by decide +kernel
theorem dX14_sorts_45 : decode cX14_sorts 45 = .ok (.iaload, 1) := by decide +kernel
theorem dX14_sorts_46 : decode cX14_sorts 46 = .ok (.iload_n 3, 1) := by decide +kernel
theorem dX14_sorts_47 : decode cX14_sorts 47 = .ok (.if_icmp .le 35, 3) := by decide +kernel
theorem dX14_sorts_50 : decode cX14_sorts 50 = .ok (.aload_n 0, 1) := by decide +kernel
theorem dX14_sorts_51 : decode cX14_sorts 51 = .ok (.getfield 21, 3) := by decide +kernel
theorem dX14_sorts_54 : decode cX14_sorts 54 = .ok (.bipush 16, 2) := by decide +kernel
theorem dX14_sorts_56 : decode cX14_sorts 56 = .ok (.iload_n 1, 1) := by decide +kernel
theorem dX14_sorts_57 : decode cX14_sorts 57 = .ok (.imul, 1) := by decide +kernel
theorem dX14_sorts_58 : decode cX14_sorts 58 = .ok (.iload 4, 2) := by decide +kernel
theorem dX14_sorts_60 : decode cX14_sorts 60 = .ok (.iadd, 1) := by decide +kernel
theorem dX14_sorts_61 : decode cX14_sorts 61 = .ok (.aload_n 0, 1) := by decide +kernel
theorem dX14_sorts_62 : decode cX14_sorts 62 = .ok (.getfield 21, 3) := by decide +kernel
theorem dX14_sorts_65 : decode cX14_sorts 65 = .ok (.bipush 16, 2) := by decide +kernel
theorem dX14_sorts_67 : decode cX14_sorts 67 = .ok (.iload_n 1, 1) := by decide +kernel
theorem dX14_sorts_68 : decode cX14_sorts 68 = .ok (.imul, 1) := by decide +kernel
theorem dX14_sorts_69 : decode cX14_sorts 69 = .ok (.iload 4, 2) := by decide +kernel
theorem dX14_sorts_71 : decode cX14_sorts 71 = .ok (.iadd, 1) := by decide +kernel
theorem dX14_sorts_72 : decode cX14_sorts 72 = .ok (.iconst 1, 1) := by decide +kernel
theorem dX14_sorts_73 : decode cX14_sorts 73 = .ok (.isub, 1) := by decide +kernel
theorem dX14_sorts_74 : decode cX14_sorts 74 = .ok (.iaload, 1) := by decide +kernel
theorem dX14_sorts_75 : decode cX14_sorts 75 = .ok (.iastore, 1) := by decide +kernel
theorem dX14_sorts_76 : decode cX14_sorts 76 = .ok (.iinc 4 (-1), 3) := by decide +kernel
theorem dX14_sorts_79 : decode cX14_sorts 79 = .ok (.goto (-52), 3) := by decide +kernel
theorem dX14_sorts_82 : decode cX14_sorts 82 = .ok (.aload_n 0, 1) := by decide +kernel
theorem dX14_sorts_83 : decode cX14_sorts 83 = .ok (.getfield 21, 3) := by decide +kernel
theorem dX14_sorts_86 : decode cX14_sorts 86 = .ok (.bipush 16, 2) := by decide +kernel
theorem dX14_sorts_88 : decode cX14_sorts 88 = .ok (.iload_n 1, 1) := by decide +kernel
theorem dX14_sorts_89 : decode cX14_sorts 89 = .ok (.imul, 1) := by decide +kernel
theorem dX14_sorts_90 : decode cX14_sorts 90 = .ok (.iload 4, 2) := by decide +kernel
theorem dX14_sorts_92 : decode cX14_sorts 92 = .ok (.iadd, 1) := by decide +kernel
theorem dX14_sorts_93 : decode cX14_sorts 93 = .ok (.iload_n 3, 1) := by decide +kernel
theorem dX14_sorts_94 : decode cX14_sorts 94 = .ok (.iastore, 1) := by decide +kernel
theorem dX14_sorts_95 : decode cX14_sorts 95 = .ok (.iinc 2 1, 3) := by decide +kernel
theorem dX14_sorts_98 : decode cX14_sorts 98 = .ok (.goto (-96), 3) := by decide +kernel
theorem dX14_sorts_101 : decode cX14_sorts 101 = .ok (.return_, 1) := by decide +kernel
theorem dX14_becomes_0 : decode cX14_becomes 0 = .ok (.lload_n 2, 1) := by decide +kernel
theorem dX14_becomes_1 : decode cX14_becomes 1 = .ok (.ldc2_w 167, 3) := by decide +kernel
theorem dX14_becomes_4 : decode cX14_becomes 4 = .ok (.ldc2_w 169, 3) := by decide +kernel
theorem dX14_becomes_7 : decode cX14_becomes 7 = .ok (.invokestatic 155, 3) := by decide +kernel
theorem dX14_becomes_10 : decode cX14_becomes 10 = .ok (.ifCond .ne 5, 3) := by decide +kernel
theorem dX14_becomes_13 : decode cX14_becomes 13 = .ok (.iconst 4, 1) := by decide +kernel
theorem dX14_becomes_14 : decode cX14_becomes 14 = .ok (.ireturn, 1) := by decide +kernel
theorem dX14_becomes_15 : decode cX14_becomes 15 = .ok (.aload_n 0, 1) := by decide +kernel
theorem dX14_becomes_16 : decode cX14_becomes 16 = .ok (.iload_n 1, 1) := by decide +kernel
theorem dX14_becomes_17 : decode cX14_becomes 17 = .ok (.lload_n 2, 1) := by decide +kernel
theorem dX14_becomes_18 : decode cX14_becomes 18 = .ok (.l2i, 1) := by decide +kernel
theorem dX14_becomes_19 : decode cX14_becomes 19 = .ok (.invokevirtual 171, 3) := by decide +kernel
theorem dX14_becomes_22 : decode cX14_becomes 22 = .ok (.iconst 0, 1) := by decide +kernel
theorem dX14_becomes_23 : decode cX14_becomes 23 = .ok (.ireturn, 1) := by decide +kernel
theorem dX14_sums_0 : decode cX14_sums 0 = .ok (.lconst 0, 1) := by decide +kernel
theorem dX14_sums_1 : decode cX14_sums 1 = .ok (.lstore_n 2, 1) := by decide +kernel
theorem dX14_sums_2 : decode cX14_sums 2 = .ok (.iconst 0, 1) := by decide +kernel
theorem dX14_sums_3 : decode cX14_sums 3 = .ok (.istore 4, 2) := by decide +kernel
theorem dX14_sums_5 : decode cX14_sums 5 = .ok (.iload 4, 2) := by decide +kernel
theorem dX14_sums_7 : decode cX14_sums 7 = .ok (.aload_n 0, 1) := by decide +kernel
theorem dX14_sums_8 : decode cX14_sums 8 = .ok (.getfield 18, 3) := by decide +kernel
theorem dX14_sums_11 : decode cX14_sums 11 = .ok (.iload_n 1, 1) := by decide +kernel
theorem dX14_sums_12 : decode cX14_sums 12 = .ok (.iaload, 1) := by decide +kernel
theorem dX14_sums_13 : decode cX14_sums 13 = .ok (.if_icmp .ge 25, 3) := by decide +kernel
theorem dX14_sums_16 : decode cX14_sums 16 = .ok (.lload_n 2, 1) := by decide +kernel
theorem dX14_sums_17 : decode cX14_sums 17 = .ok (.aload_n 0, 1) := by decide +kernel
theorem dX14_sums_18 : decode cX14_sums 18 = .ok (.getfield 21, 3) := by decide +kernel
theorem dX14_sums_21 : decode cX14_sums 21 = .ok (.bipush 16, 2) := by decide +kernel
theorem dX14_sums_23 : decode cX14_sums 23 = .ok (.iload_n 1, 1) := by decide +kernel
theorem dX14_sums_24 : decode cX14_sums 24 = .ok (.imul, 1) := by decide +kernel
theorem dX14_sums_25 : decode cX14_sums 25 = .ok (.iload 4, 2) := by decide +kernel
theorem dX14_sums_27 : decode cX14_sums 27 = .ok (.iadd, 1) := by decide +kernel
theorem dX14_sums_28 : decode cX14_sums 28 = .ok (.iaload, 1) := by decide +kernel
theorem dX14_sums_29 : decode cX14_sums 29 = .ok (.i2l, 1) := by decide +kernel
theorem dX14_sums_30 : decode cX14_sums 30 = .ok (.ladd, 1) := by decide +kernel
theorem dX14_sums_31 : decode cX14_sums 31 = .ok (.lstore_n 2, 1) := by decide +kernel
theorem dX14_sums_32 : decode cX14_sums 32 = .ok (.iinc 4 1, 3) := by decide +kernel
theorem dX14_sums_35 : decode cX14_sums 35 = .ok (.goto (-30), 3) := by decide +kernel
theorem dX14_sums_38 : decode cX14_sums 38 = .ok (.aload_n 0, 1) := by decide +kernel
theorem dX14_sums_39 : decode cX14_sums 39 = .ok (.iload_n 1, 1) := by decide +kernel
theorem dX14_sums_40 : decode cX14_sums 40 = .ok (.lload_n 2, 1) := by decide +kernel
theorem dX14_sums_41 : decode cX14_sums 41 = .ok (.invokevirtual 175, 3) := by decide +kernel
theorem dX14_sums_44 : decode cX14_sums 44 = .ok (.ireturn, 1) := by decide +kernel
theorem dX14_ends_0 : decode cX14_ends 0 = .ok (.aload_n 0, 1) := by decide +kernel
theorem dX14_ends_1 : decode cX14_ends 1 = .ok (.getfield 18, 3) := by decide +kernel
theorem dX14_ends_4 : decode cX14_ends 4 = .ok (.iload_n 1, 1) := by decide +kernel
theorem dX14_ends_5 : decode cX14_ends 5 = .ok (.iaload, 1) := by decide +kernel
theorem dX14_ends_6 : decode cX14_ends 6 = .ok (.ifCond .le 7, 3) := by decide +kernel
theorem dX14_ends_9 : decode cX14_ends 9 = .ok (.iconst 1, 1) := by decide +kernel
theorem dX14_ends_10 : decode cX14_ends 10 = .ok (.goto 4, 3) := by decide +kernel
theorem dX14_ends_13 : decode cX14_ends 13 = .ok (.iconst 0, 1) := by decide +kernel
theorem dX14_ends_14 : decode cX14_ends 14 = .ok (.istore_n 3, 1) := by decide +kernel
theorem dX14_ends_15 : decode cX14_ends 15 = .ok (.iload_n 3, 1) := by decide +kernel
theorem dX14_ends_16 : decode cX14_ends 16 = .ok (.ifCond .eq 17, 3) := by decide +kernel
theorem dX14_ends_19 : decode cX14_ends 19 = .ok (.aload_n 0, 1) := by decide +kernel
theorem dX14_ends_20 : decode cX14_ends 20 = .ok (.getfield 21, 3) := by decide +kernel
theorem dX14_ends_23 : decode cX14_ends 23 = .ok (.bipush 16, 2) := by decide +kernel
theorem dX14_ends_25 : decode cX14_ends 25 = .ok (.iload_n 1, 1) := by decide +kernel
theorem dX14_ends_26 : decode cX14_ends 26 = .ok (.imul, 1) := by decide +kernel
theorem dX14_ends_27 : decode cX14_ends 27 = .ok (.iload_n 2, 1) := by decide +kernel
theorem dX14_ends_28 : decode cX14_ends 28 = .ok (.iadd, 1) := by decide +kernel
theorem dX14_ends_29 : decode cX14_ends 29 = .ok (.iaload, 1) := by decide +kernel
theorem dX14_ends_30 : decode cX14_ends 30 = .ok (.goto 4, 3) := by decide +kernel
theorem dX14_ends_33 : decode cX14_ends 33 = .ok (.iconst 0, 1) := by decide +kernel
theorem dX14_ends_34 : decode cX14_ends 34 = .ok (.istore 4, 2) := by decide +kernel
theorem dX14_ends_36 : decode cX14_ends 36 = .ok (.aload_n 0, 1) := by decide +kernel
theorem dX14_ends_37 : decode cX14_ends 37 = .ok (.getfield 11, 3) := by decide +kernel
theorem dX14_ends_40 : decode cX14_ends 40 = .ok (.iload_n 1, 1) := by decide +kernel
theorem dX14_ends_41 : decode cX14_ends 41 = .ok (.iaload, 1) := by decide +kernel
theorem dX14_ends_42 : decode cX14_ends 42 = .ok (.iconst 3, 1) := by decide +kernel
theorem dX14_ends_43 : decode cX14_ends 43 = .ok (.if_icmp .ne 32, 3) := by decide +kernel
theorem dX14_ends_46 : decode cX14_ends 46 = .ok (.aload_n 0, 1) := by decide +kernel
theorem dX14_ends_47 : decode cX14_ends 47 = .ok (.getfield 21, 3) := by decide +kernel
theorem dX14_ends_50 : decode cX14_ends 50 = .ok (.bipush 16, 2) := by decide +kernel
theorem dX14_ends_52 : decode cX14_ends 52 = .ok (.iload_n 1, 1) := by decide +kernel
theorem dX14_ends_53 : decode cX14_ends 53 = .ok (.imul, 1) := by decide +kernel
theorem dX14_ends_54 : decode cX14_ends 54 = .ok (.iload 4, 2) := by decide +kernel
theorem dX14_ends_56 : decode cX14_ends 56 = .ok (.iastore, 1) := by decide +kernel
theorem dX14_ends_57 : decode cX14_ends 57 = .ok (.aload_n 0, 1) := by decide +kernel
theorem dX14_ends_58 : decode cX14_ends 58 = .ok (.getfield 18, 3) := by decide +kernel
theorem dX14_ends_61 : decode cX14_ends 61 = .ok (.iload_n 1, 1) := by decide +kernel
theorem dX14_ends_62 : decode cX14_ends 62 = .ok (.iload_n 3, 1) := by decide +kernel
theorem dX14_ends_63 : decode cX14_ends 63 = .ok (.ifCond .eq 7, 3) := by decide +kernel
theorem dX14_ends_66 : decode cX14_ends 66 = .ok (.iconst 1, 1) := by decide +kernel
theorem dX14_ends_67 : decode cX14_ends 67 = .ok (.goto 4, 3) := by decide +kernel
theorem dX14_ends_70 : decode cX14_ends 70 = .ok (.iconst 0, 1) := by decide +kernel
theorem dX14_ends_71 : decode cX14_ends 71 = .ok (.iastore, 1) := by decide +kernel
theorem dX14_ends_72 : decode cX14_ends 72 = .ok (.goto 24, 3) := by decide +kernel
theorem dX14_ends_75 : decode cX14_ends 75 = .ok (.iload_n 3, 1) := by decide +kernel
theorem dX14_ends_76 : decode cX14_ends 76 = .ok (.ifCond .eq 13, 3) := by decide +kernel
theorem dX14_ends_79 : decode cX14_ends 79 = .ok (.aload_n 0, 1) := by decide +kernel
theorem dX14_ends_80 : decode cX14_ends 80 = .ok (.iload_n 1, 1) := by decide +kernel
theorem dX14_ends_81 : decode cX14_ends 81 = .ok (.iload 4, 2) := by decide +kernel
theorem dX14_ends_83 : decode cX14_ends 83 = .ok (.invokevirtual 171, 3) := by decide +kernel
theorem dX14_ends_86 : decode cX14_ends 86 = .ok (.goto 10, 3) := by decide +kernel
theorem dX14_ends_89 : decode cX14_ends 89 = .ok (.aload_n 0, 1) := by decide +kernel
theorem dX14_ends_90 : decode cX14_ends 90 = .ok (.getfield 11, 3) := by decide +kernel
theorem dX14_ends_93 : decode cX14_ends 93 = .ok (.iload_n 1, 1) := by decide +kernel
theorem dX14_ends_94 : decode cX14_ends 94 = .ok (.iconst 0, 1) := by decide +kernel
theorem dX14_ends_95 : decode cX14_ends 95 = .ok (.iastore, 1) := by decide +kernel
theorem dX14_ends_96 : decode cX14_ends 96 = .ok (.return_, 1) := by decide +kernel
theorem dX14_bitsOf_0 : decode cX14_bitsOf 0 = .ok (.iload_n 0, 1) := by decide +kernel
theorem dX14_bitsOf_1 : decode cX14_bitsOf 1 = .ok (.i2d, 1) := by decide +kernel
theorem dX14_bitsOf_2 : decode cX14_bitsOf 2 = .ok (.invokestatic 179, 3) := by decide +kernel
theorem dX14_bitsOf_5 : decode cX14_bitsOf 5 = .ok (.bipush 32, 2) := by decide +kernel
theorem dX14_bitsOf_7 : decode cX14_bitsOf 7 = .ok (.lshr, 1) := by decide +kernel
theorem dX14_bitsOf_8 : decode cX14_bitsOf 8 = .ok (.l2i, 1) := by decide +kernel
theorem dX14_bitsOf_9 : decode cX14_bitsOf 9 = .ok (.sipush 4096, 3) := by decide +kernel
theorem dX14_bitsOf_12 : decode cX14_bitsOf 12 = .ok (.idiv, 1) := by decide +kernel
theorem dX14_bitsOf_13 : decode cX14_bitsOf 13 = .ok (.ireturn, 1) := by decide +kernel
theorem dX14_plain_0 : decode cX14_plain 0 = .ok (.aload_n 0, 1) := by decide +kernel
theorem dX14_plain_1 : decode cX14_plain 1 = .ok (.getfield 11, 3) := by decide +kernel
theorem dX14_plain_4 : decode cX14_plain 4 = .ok (.iload_n 1, 1) := by decide +kernel
theorem dX14_plain_5 : decode cX14_plain 5 = .ok (.iaload, 1) := by decide +kernel
theorem dX14_plain_6 : decode cX14_plain 6 = .ok (.istore_n 3, 1) := by decide +kernel
theorem dX14_plain_7 : decode cX14_plain 7 = .ok (.iload_n 3, 1) := by decide +kernel
theorem dX14_plain_8 : decode cX14_plain 8 = .ok (.iconst 3, 1) := by decide +kernel
theorem dX14_plain_9 : decode cX14_plain 9 = .ok (.if_icmp .eq 8, 3) := by decide +kernel
theorem dX14_plain_12 : decode cX14_plain 12 = .ok (.iload_n 3, 1) := by decide +kernel
theorem dX14_plain_13 : decode cX14_plain 13 = .ok (.iconst 4, 1) := by decide +kernel
theorem dX14_plain_14 : decode cX14_plain 14 = .ok (.if_icmp .ne 7, 3) := by decide +kernel
theorem dX14_plain_17 : decode cX14_plain 17 = .ok (.iconst 1, 1) := by decide +kernel
theorem dX14_plain_18 : decode cX14_plain 18 = .ok (.goto 4, 3) := by decide +kernel
theorem dX14_plain_21 : decode cX14_plain 21 = .ok (.iconst 0, 1) := by decide +kernel
theorem dX14_plain_22 : decode cX14_plain 22 = .ok (.istore 4, 2) := by decide +kernel
theorem dX14_plain_24 : decode cX14_plain 24 = .ok (.iload_n 3, 1) := by decide +kernel
theorem dX14_plain_25 : decode cX14_plain 25 = .ok (.iconst 1, 1) := by decide +kernel
theorem dX14_plain_26 : decode cX14_plain 26 = .ok (.if_icmp .eq 8, 3) := by decide +kernel
theorem dX14_plain_29 : decode cX14_plain 29 = .ok (.iload_n 3, 1) := by decide +kernel
theorem dX14_plain_30 : decode cX14_plain 30 = .ok (.iconst 2, 1) := by decide +kernel
theorem dX14_plain_31 : decode cX14_plain 31 = .ok (.if_icmp .ne 7, 3) := by decide +kernel
theorem dX14_plain_34 : decode cX14_plain 34 = .ok (.iconst 1, 1) := by decide +kernel
theorem dX14_plain_35 : decode cX14_plain 35 = .ok (.goto 4, 3) := by decide +kernel
theorem dX14_plain_38 : decode cX14_plain 38 = .ok (.iconst 0, 1) := by decide +kernel
theorem dX14_plain_39 : decode cX14_plain 39 = .ok (.istore 5, 2) := by decide +kernel
theorem dX14_plain_41 : decode cX14_plain 41 = .ok (.iload_n 2, 1) := by decide +kernel
theorem dX14_plain_42 : decode cX14_plain 42 = .ok (.tableswitch 443 0 11 #[62, 87, 112, 133, 160, 205, 250, 298, 326, 377, 399, 428], 62) := by decide +kernel
theorem dX14_plain_104 : decode cX14_plain 104 = .ok (.iload_n 3, 1) := by decide +kernel
theorem dX14_plain_105 : decode cX14_plain 105 = .ok (.iconst 3, 1) := by decide +kernel
theorem dX14_plain_106 : decode cX14_plain 106 = .ok (.if_icmp .ne 12, 3) := by decide +kernel
theorem dX14_plain_109 : decode cX14_plain 109 = .ok (.aload_n 0, 1) := by decide +kernel
theorem dX14_plain_110 : decode cX14_plain 110 = .ok (.iload_n 1, 1) := by decide +kernel
theorem dX14_plain_111 : decode cX14_plain 111 = .ok (.bipush 97, 2) := by decide +kernel
theorem dX14_plain_113 : decode cX14_plain 113 = .ok (.bipush (-32), 2) := by decide +kernel
theorem dX14_plain_115 : decode cX14_plain 115 = .ok (.invokevirtual 185, 3) := by decide +kernel
theorem dX14_plain_118 : decode cX14_plain 118 = .ok (.iload_n 3, 1) := by decide +kernel
theorem dX14_plain_119 : decode cX14_plain 119 = .ok (.iconst 3, 1) := by decide +kernel
theorem dX14_plain_120 : decode cX14_plain 120 = .ok (.if_icmp .ne 7, 3) := by decide +kernel
theorem dX14_plain_123 : decode cX14_plain 123 = .ok (.iconst 0, 1) := by decide +kernel
theorem dX14_plain_124 : decode cX14_plain 124 = .ok (.goto 4, 3) := by decide +kernel
theorem dX14_plain_127 : decode cX14_plain 127 = .ok (.iconst 2, 1) := by decide +kernel
theorem dX14_plain_128 : decode cX14_plain 128 = .ok (.ireturn, 1) := by decide +kernel
theorem dX14_plain_129 : decode cX14_plain 129 = .ok (.iload_n 3, 1) := by decide +kernel
theorem dX14_plain_130 : decode cX14_plain 130 = .ok (.iconst 3, 1) := by decide +kernel
theorem dX14_plain_131 : decode cX14_plain 131 = .ok (.if_icmp .ne 12, 3) := by decide +kernel
theorem dX14_plain_134 : decode cX14_plain 134 = .ok (.aload_n 0, 1) := by decide +kernel
theorem dX14_plain_135 : decode cX14_plain 135 = .ok (.iload_n 1, 1) := by decide +kernel
theorem dX14_plain_136 : decode cX14_plain 136 = .ok (.bipush 65, 2) := by decide +kernel
theorem dX14_plain_138 : decode cX14_plain 138 = .ok (.bipush 32, 2) := by decide +kernel
theorem dX14_plain_140 : decode cX14_plain 140 = .ok (.invokevirtual 185, 3) := by decide +kernel
theorem dX14_plain_143 : decode cX14_plain 143 = .ok (.iload_n 3, 1) := by decide +kernel
theorem dX14_plain_144 : decode cX14_plain 144 = .ok (.iconst 3, 1) := by decide +kernel
theorem dX14_plain_145 : decode cX14_plain 145 = .ok (.if_icmp .ne 7, 3) := by decide +kernel
theorem dX14_plain_148 : decode cX14_plain 148 = .ok (.iconst 0, 1) := by decide +kernel
theorem dX14_plain_149 : decode cX14_plain 149 = .ok (.goto 4, 3) := by decide +kernel
theorem dX14_plain_152 : decode cX14_plain 152 = .ok (.iconst 2, 1) := by decide +kernel
theorem dX14_plain_153 : decode cX14_plain 153 = .ok (.ireturn, 1) := by decide +kernel
theorem dX14_plain_154 : decode cX14_plain 154 = .ok (.iload 4, 2) := by decide +kernel
theorem dX14_plain_156 : decode cX14_plain 156 = .ok (.ifCond .eq 8, 3) := by decide +kernel
theorem dX14_plain_159 : decode cX14_plain 159 = .ok (.aload_n 0, 1) := by decide +kernel
theorem dX14_plain_160 : decode cX14_plain 160 = .ok (.iload_n 1, 1) := by decide +kernel
theorem dX14_plain_161 : decode cX14_plain 161 = .ok (.invokevirtual 189, 3) := by decide +kernel
theorem dX14_plain_164 : decode cX14_plain 164 = .ok (.iload 4, 2) := by decide +kernel
theorem dX14_plain_166 : decode cX14_plain 166 = .ok (.ifCond .eq 7, 3) := by decide +kernel
theorem dX14_plain_169 : decode cX14_plain 169 = .ok (.iconst 0, 1) := by decide +kernel
theorem dX14_plain_170 : decode cX14_plain 170 = .ok (.goto 4, 3) := by decide +kernel
theorem dX14_plain_173 : decode cX14_plain 173 = .ok (.iconst 2, 1) := by decide +kernel
theorem dX14_plain_174 : decode cX14_plain 174 = .ok (.ireturn, 1) := by decide +kernel
theorem dX14_plain_175 : decode cX14_plain 175 = .ok (.iload 4, 2) := by decide +kernel
theorem dX14_plain_177 : decode cX14_plain 177 = .ok (.ifCond .eq 14, 3) := by decide +kernel
theorem dX14_plain_180 : decode cX14_plain 180 = .ok (.aload_n 0, 1) := by decide +kernel
theorem dX14_plain_181 : decode cX14_plain 181 = .ok (.iload_n 1, 1) := by decide +kernel
theorem dX14_plain_182 : decode cX14_plain 182 = .ok (.aload_n 0, 1) := by decide +kernel
theorem dX14_plain_183 : decode cX14_plain 183 = .ok (.getfield 18, 3) := by decide +kernel
theorem dX14_plain_186 : decode cX14_plain 186 = .ok (.iload_n 1, 1) := by decide +kernel
theorem dX14_plain_187 : decode cX14_plain 187 = .ok (.iaload, 1) := by decide +kernel
theorem dX14_plain_188 : decode cX14_plain 188 = .ok (.invokevirtual 171, 3) := by decide +kernel
theorem dX14_plain_191 : decode cX14_plain 191 = .ok (.iload 4, 2) := by decide +kernel
theorem dX14_plain_193 : decode cX14_plain 193 = .ok (.ifCond .eq 7, 3) := by decide +kernel
theorem dX14_plain_196 : decode cX14_plain 196 = .ok (.iconst 0, 1) := by decide +kernel
theorem dX14_plain_197 : decode cX14_plain 197 = .ok (.goto 4, 3) := by decide +kernel
theorem dX14_plain_200 : decode cX14_plain 200 = .ok (.iconst 2, 1) := by decide +kernel
theorem dX14_plain_201 : decode cX14_plain 201 = .ok (.ireturn, 1) := by decide +kernel
theorem dX14_plain_202 : decode cX14_plain 202 = .ok (.iload_n 3, 1) := by decide +kernel
theorem dX14_plain_203 : decode cX14_plain 203 = .ok (.iconst 1, 1) := by decide +kernel
theorem dX14_plain_204 : decode cX14_plain 204 = .ok (.if_icmp .ne 13, 3) := by decide +kernel
theorem dX14_plain_207 : decode cX14_plain 207 = .ok (.aload_n 0, 1) := by decide +kernel
theorem dX14_plain_208 : decode cX14_plain 208 = .ok (.getfield 15, 3) := by decide +kernel
theorem dX14_plain_211 : decode cX14_plain 211 = .ok (.iload_n 1, 1) := by decide +kernel
theorem dX14_plain_212 : decode cX14_plain 212 = .ok (.dup2, 1) := by decide +kernel
theorem dX14_plain_213 : decode cX14_plain 213 = .ok (.iaload, 1) := by decide +kernel
theorem dX14_plain_214 : decode cX14_plain 214 = .ok (.iconst 2, 1) := by decide +kernel
theorem dX14_plain_215 : decode cX14_plain 215 = .ok (.idiv, 1) := by decide +kernel
theorem dX14_plain_216 : decode cX14_plain 216 = .ok (.iastore, 1) := by decide +kernel
theorem dX14_plain_217 : decode cX14_plain 217 = .ok (.iload_n 3, 1) := by decide +kernel
theorem dX14_plain_218 : decode cX14_plain 218 = .ok (.iconst 2, 1) := by decide +kernel
theorem dX14_plain_219 : decode cX14_plain 219 = .ok (.if_icmp .ne 17, 3) := by decide +kernel
theorem dX14_plain_222 : decode cX14_plain 222 = .ok (.aload_n 0, 1) := by decide +kernel
theorem dX14_plain_223 : decode cX14_plain 223 = .ok (.iload_n 1, 1) := by decide +kernel
theorem dX14_plain_224 : decode cX14_plain 224 = .ok (.aload_n 0, 1) := by decide +kernel
theorem dX14_plain_225 : decode cX14_plain 225 = .ok (.getfield 24, 3) := by decide +kernel
theorem dX14_plain_228 : decode cX14_plain 228 = .ok (.iload_n 1, 1) := by decide +kernel
theorem dX14_plain_229 : decode cX14_plain 229 = .ok (.faload, 1) := by decide +kernel
theorem dX14_plain_230 : decode cX14_plain 230 = .ok (.ldc 192, 2) := by decide +kernel
theorem dX14_plain_232 : decode cX14_plain 232 = .ok (.fmul, 1) := by decide +kernel
theorem dX14_plain_233 : decode cX14_plain 233 = .ok (.invokevirtual 193, 3) := by decide +kernel
theorem dX14_plain_236 : decode cX14_plain 236 = .ok (.iload 5, 2) := by decide +kernel
theorem dX14_plain_238 : decode cX14_plain 238 = .ok (.ifCond .eq 7, 3) := by decide +kernel
theorem dX14_plain_241 : decode cX14_plain 241 = .ok (.iconst 0, 1) := by decide +kernel
theorem dX14_plain_242 : decode cX14_plain 242 = .ok (.goto 4, 3) := by decide +kernel
theorem dX14_plain_245 : decode cX14_plain 245 = .ok (.iconst 2, 1) := by decide +kernel
theorem dX14_plain_246 : decode cX14_plain 246 = .ok (.ireturn, 1) := by decide +kernel
theorem dX14_plain_247 : decode cX14_plain 247 = .ok (.iload 5, 2) := by decide +kernel
theorem dX14_plain_249 : decode cX14_plain 249 = .ok (.ifCond .eq 32, 3) := by decide +kernel
theorem dX14_plain_252 : decode cX14_plain 252 = .ok (.aload_n 0, 1) := by decide +kernel
theorem dX14_plain_253 : decode cX14_plain 253 = .ok (.iload_n 1, 1) := by decide +kernel
theorem dX14_plain_254 : decode cX14_plain 254 = .ok (.iload_n 3, 1) := by decide +kernel
theorem dX14_plain_255 : decode cX14_plain 255 = .ok (.iconst 1, 1) := by decide +kernel
theorem dX14_plain_256 : decode cX14_plain 256 = .ok (.if_icmp .ne 13, 3) := by decide +kernel
theorem dX14_plain_259 : decode cX14_plain 259 = .ok (.aload_n 0, 1) := by decide +kernel
theorem dX14_plain_260 : decode cX14_plain 260 = .ok (.getfield 15, 3) := by decide +kernel
theorem dX14_plain_263 : decode cX14_plain 263 = .ok (.iload_n 1, 1) := by decide +kernel
theorem dX14_plain_264 : decode cX14_plain 264 = .ok (.iaload, 1) := by decide +kernel
theorem dX14_plain_265 : decode cX14_plain 265 = .ok (.i2f, 1) := by decide +kernel
theorem dX14_plain_266 : decode cX14_plain 266 = .ok (.goto 9, 3) := by decide +kernel
theorem dX14_plain_269 : decode cX14_plain 269 = .ok (.aload_n 0, 1) := by decide +kernel
theorem dX14_plain_270 : decode cX14_plain 270 = .ok (.getfield 24, 3) := by decide +kernel
theorem dX14_plain_273 : decode cX14_plain 273 = .ok (.iload_n 1, 1) := by decide +kernel
theorem dX14_plain_274 : decode cX14_plain 274 = .ok (.faload, 1) := by decide +kernel
theorem dX14_plain_275 : decode cX14_plain 275 = .ok (.ldc 197, 2) := by decide +kernel
theorem dX14_plain_277 : decode cX14_plain 277 = .ok (.fdiv, 1) := by decide +kernel
theorem dX14_plain_278 : decode cX14_plain 278 = .ok (.invokevirtual 193, 3) := by decide +kernel
theorem dX14_plain_281 : decode cX14_plain 281 = .ok (.iload 5, 2) := by decide +kernel
theorem dX14_plain_283 : decode cX14_plain 283 = .ok (.ifCond .eq 7, 3) := by decide +kernel
theorem dX14_plain_286 : decode cX14_plain 286 = .ok (.iconst 0, 1) := by decide +kernel
theorem dX14_plain_287 : decode cX14_plain 287 = .ok (.goto 4, 3) := by decide +kernel
theorem dX14_plain_290 : decode cX14_plain 290 = .ok (.iconst 2, 1) := by decide +kernel
theorem dX14_plain_291 : decode cX14_plain 291 = .ok (.ireturn, 1) := by decide +kernel
theorem dX14_plain_292 : decode cX14_plain 292 = .ok (.iload_n 3, 1) := by decide +kernel
theorem dX14_plain_293 : decode cX14_plain 293 = .ok (.iconst 2, 1) := by decide +kernel
theorem dX14_plain_294 : decode cX14_plain 294 = .ok (.if_icmp .ne 15, 3) := by decide +kernel
theorem dX14_plain_297 : decode cX14_plain 297 = .ok (.aload_n 0, 1) := by decide +kernel
theorem dX14_plain_298 : decode cX14_plain 298 = .ok (.iload_n 1, 1) := by decide +kernel
theorem dX14_plain_299 : decode cX14_plain 299 = .ok (.aload_n 0, 1) := by decide +kernel
theorem dX14_plain_300 : decode cX14_plain 300 = .ok (.getfield 24, 3) := by decide +kernel
theorem dX14_plain_303 : decode cX14_plain 303 = .ok (.iload_n 1, 1) := by decide +kernel
theorem dX14_plain_304 : decode cX14_plain 304 = .ok (.faload, 1) := by decide +kernel
theorem dX14_plain_305 : decode cX14_plain 305 = .ok (.f2i, 1) := by decide +kernel
theorem dX14_plain_306 : decode cX14_plain 306 = .ok (.invokevirtual 171, 3) := by decide +kernel
theorem dX14_plain_309 : decode cX14_plain 309 = .ok (.iload_n 3, 1) := by decide +kernel
theorem dX14_plain_310 : decode cX14_plain 310 = .ok (.iconst 3, 1) := by decide +kernel
theorem dX14_plain_311 : decode cX14_plain 311 = .ok (.if_icmp .ne 13, 3) := by decide +kernel
theorem dX14_plain_314 : decode cX14_plain 314 = .ok (.aload_n 0, 1) := by decide +kernel
theorem dX14_plain_315 : decode cX14_plain 315 = .ok (.iload_n 1, 1) := by decide +kernel
theorem dX14_plain_316 : decode cX14_plain 316 = .ok (.aload_n 0, 1) := by decide +kernel
theorem dX14_plain_317 : decode cX14_plain 317 = .ok (.iload_n 1, 1) := by decide +kernel
theorem dX14_plain_318 : decode cX14_plain 318 = .ok (.invokevirtual 198, 3) := by decide +kernel
theorem dX14_plain_321 : decode cX14_plain 321 = .ok (.invokevirtual 171, 3) := by decide +kernel
theorem dX14_plain_324 : decode cX14_plain 324 = .ok (.iload 5, 2) := by decide +kernel
theorem dX14_plain_326 : decode cX14_plain 326 = .ok (.ifCond .ne 8, 3) := by decide +kernel
theorem dX14_plain_329 : decode cX14_plain 329 = .ok (.iload_n 3, 1) := by decide +kernel
theorem dX14_plain_330 : decode cX14_plain 330 = .ok (.iconst 3, 1) := by decide +kernel
theorem dX14_plain_331 : decode cX14_plain 331 = .ok (.if_icmp .ne 7, 3) := by decide +kernel
theorem dX14_plain_334 : decode cX14_plain 334 = .ok (.iconst 0, 1) := by decide +kernel
theorem dX14_plain_335 : decode cX14_plain 335 = .ok (.goto 4, 3) := by decide +kernel
theorem dX14_plain_338 : decode cX14_plain 338 = .ok (.iconst 2, 1) := by decide +kernel
theorem dX14_plain_339 : decode cX14_plain 339 = .ok (.ireturn, 1) := by decide +kernel
theorem dX14_plain_340 : decode cX14_plain 340 = .ok (.iload_n 3, 1) := by decide +kernel
theorem dX14_plain_341 : decode cX14_plain 341 = .ok (.iconst 1, 1) := by decide +kernel
theorem dX14_plain_342 : decode cX14_plain 342 = .ok (.if_icmp .ne 15, 3) := by decide +kernel
theorem dX14_plain_345 : decode cX14_plain 345 = .ok (.aload_n 0, 1) := by decide +kernel
theorem dX14_plain_346 : decode cX14_plain 346 = .ok (.iload_n 1, 1) := by decide +kernel
theorem dX14_plain_347 : decode cX14_plain 347 = .ok (.aload_n 0, 1) := by decide +kernel
theorem dX14_plain_348 : decode cX14_plain 348 = .ok (.getfield 15, 3) := by decide +kernel
theorem dX14_plain_351 : decode cX14_plain 351 = .ok (.iload_n 1, 1) := by decide +kernel
theorem dX14_plain_352 : decode cX14_plain 352 = .ok (.iaload, 1) := by decide +kernel
theorem dX14_plain_353 : decode cX14_plain 353 = .ok (.i2f, 1) := by decide +kernel
theorem dX14_plain_354 : decode cX14_plain 354 = .ok (.invokevirtual 193, 3) := by decide +kernel
theorem dX14_plain_357 : decode cX14_plain 357 = .ok (.iload 5, 2) := by decide +kernel
theorem dX14_plain_359 : decode cX14_plain 359 = .ok (.ifCond .eq 7, 3) := by decide +kernel
theorem dX14_plain_362 : decode cX14_plain 362 = .ok (.iconst 0, 1) := by decide +kernel
theorem dX14_plain_363 : decode cX14_plain 363 = .ok (.goto 4, 3) := by decide +kernel
theorem dX14_plain_366 : decode cX14_plain 366 = .ok (.iconst 2, 1) := by decide +kernel
theorem dX14_plain_367 : decode cX14_plain 367 = .ok (.ireturn, 1) := by decide +kernel
theorem dX14_plain_368 : decode cX14_plain 368 = .ok (.iload 5, 2) := by decide +kernel
theorem dX14_plain_370 : decode cX14_plain 370 = .ok (.ifCond .eq 38, 3) := by decide +kernel
theorem dX14_plain_373 : decode cX14_plain 373 = .ok (.aload_n 0, 1) := by decide +kernel
theorem dX14_plain_374 : decode cX14_plain 374 = .ok (.iload_n 1, 1) := by decide +kernel
theorem dX14_plain_375 : decode cX14_plain 375 = .ok (.iload_n 3, 1) := by decide +kernel
theorem dX14_plain_376 : decode cX14_plain 376 = .ok (.iconst 2, 1) := by decide +kernel
theorem dX14_plain_377 : decode cX14_plain 377 = .ok (.if_icmp .ne 19, 3) := by decide +kernel
theorem dX14_plain_380 : decode cX14_plain 380 = .ok (.aload_n 0, 1) := by decide +kernel
theorem dX14_plain_381 : decode cX14_plain 381 = .ok (.getfield 24, 3) := by decide +kernel
theorem dX14_plain_384 : decode cX14_plain 384 = .ok (.iload_n 1, 1) := by decide +kernel
theorem dX14_plain_385 : decode cX14_plain 385 = .ok (.faload, 1) := by decide +kernel
theorem dX14_plain_386 : decode cX14_plain 386 = .ok (.invokestatic 202, 3) := by decide +kernel
theorem dX14_plain_389 : decode cX14_plain 389 = .ok (.sipush 4096, 3) := by decide +kernel
theorem dX14_plain_392 : decode cX14_plain 392 = .ok (.idiv, 1) := by decide +kernel
theorem dX14_plain_393 : decode cX14_plain 393 = .ok (.goto 12, 3) := by decide +kernel
theorem dX14_plain_396 : decode cX14_plain 396 = .ok (.aload_n 0, 1) := by decide +kernel
theorem dX14_plain_397 : decode cX14_plain 397 = .ok (.getfield 15, 3) := by decide +kernel
theorem dX14_plain_400 : decode cX14_plain 400 = .ok (.iload_n 1, 1) := by decide +kernel
theorem dX14_plain_401 : decode cX14_plain 401 = .ok (.iaload, 1) := by decide +kernel
theorem dX14_plain_402 : decode cX14_plain 402 = .ok (.invokestatic 208, 3) := by decide +kernel
theorem dX14_plain_405 : decode cX14_plain 405 = .ok (.invokevirtual 171, 3) := by decide +kernel
theorem dX14_plain_408 : decode cX14_plain 408 = .ok (.iload 5, 2) := by decide +kernel
theorem dX14_plain_410 : decode cX14_plain 410 = .ok (.ifCond .eq 7, 3) := by decide +kernel
theorem dX14_plain_413 : decode cX14_plain 413 = .ok (.iconst 0, 1) := by decide +kernel
theorem dX14_plain_414 : decode cX14_plain 414 = .ok (.goto 4, 3) := by decide +kernel
theorem dX14_plain_417 : decode cX14_plain 417 = .ok (.iconst 2, 1) := by decide +kernel
theorem dX14_plain_418 : decode cX14_plain 418 = .ok (.ireturn, 1) := by decide +kernel
theorem dX14_plain_419 : decode cX14_plain 419 = .ok (.iload 4, 2) := by decide +kernel
theorem dX14_plain_421 : decode cX14_plain 421 = .ok (.ifCond .eq 9, 3) := by decide +kernel
theorem dX14_plain_424 : decode cX14_plain 424 = .ok (.aload_n 0, 1) := by decide +kernel
theorem dX14_plain_425 : decode cX14_plain 425 = .ok (.iload_n 1, 1) := by decide +kernel
theorem dX14_plain_426 : decode cX14_plain 426 = .ok (.iconst 0, 1) := by decide +kernel
theorem dX14_plain_427 : decode cX14_plain 427 = .ok (.invokevirtual 211, 3) := by decide +kernel
theorem dX14_plain_430 : decode cX14_plain 430 = .ok (.iload 4, 2) := by decide +kernel
theorem dX14_plain_432 : decode cX14_plain 432 = .ok (.ifCond .eq 7, 3) := by decide +kernel
theorem dX14_plain_435 : decode cX14_plain 435 = .ok (.iconst 0, 1) := by decide +kernel
theorem dX14_plain_436 : decode cX14_plain 436 = .ok (.goto 4, 3) := by decide +kernel
theorem dX14_plain_439 : decode cX14_plain 439 = .ok (.iconst 2, 1) := by decide +kernel
theorem dX14_plain_440 : decode cX14_plain 440 = .ok (.ireturn, 1) := by decide +kernel
theorem dX14_plain_441 : decode cX14_plain 441 = .ok (.iload 4, 2) := by decide +kernel
theorem dX14_plain_443 : decode cX14_plain 443 = .ok (.ifCond .eq 16, 3) := by decide +kernel
theorem dX14_plain_446 : decode cX14_plain 446 = .ok (.aload_n 0, 1) := by decide +kernel
theorem dX14_plain_447 : decode cX14_plain 447 = .ok (.iload_n 1, 1) := by decide +kernel
theorem dX14_plain_448 : decode cX14_plain 448 = .ok (.aload_n 0, 1) := by decide +kernel
theorem dX14_plain_449 : decode cX14_plain 449 = .ok (.getfield 18, 3) := by decide +kernel
theorem dX14_plain_452 : decode cX14_plain 452 = .ok (.iload_n 1, 1) := by decide +kernel
theorem dX14_plain_453 : decode cX14_plain 453 = .ok (.iaload, 1) := by decide +kernel
theorem dX14_plain_454 : decode cX14_plain 454 = .ok (.iconst 1, 1) := by decide +kernel
theorem dX14_plain_455 : decode cX14_plain 455 = .ok (.isub, 1) := by decide +kernel
theorem dX14_plain_456 : decode cX14_plain 456 = .ok (.invokevirtual 211, 3) := by decide +kernel
theorem dX14_plain_459 : decode cX14_plain 459 = .ok (.iload 4, 2) := by decide +kernel
theorem dX14_plain_461 : decode cX14_plain 461 = .ok (.ifCond .eq 7, 3) := by decide +kernel
theorem dX14_plain_464 : decode cX14_plain 464 = .ok (.iconst 0, 1) := by decide +kernel
theorem dX14_plain_465 : decode cX14_plain 465 = .ok (.goto 4, 3) := by decide +kernel
theorem dX14_plain_468 : decode cX14_plain 468 = .ok (.iconst 2, 1) := by decide +kernel
theorem dX14_plain_469 : decode cX14_plain 469 = .ok (.ireturn, 1) := by decide +kernel
theorem dX14_plain_470 : decode cX14_plain 470 = .ok (.iload_n 3, 1) := by decide +kernel
theorem dX14_plain_471 : decode cX14_plain 471 = .ok (.iconst 4, 1) := by decide +kernel
theorem dX14_plain_472 : decode cX14_plain 472 = .ok (.if_icmp .ne 11, 3) := by decide +kernel
theorem dX14_plain_475 : decode cX14_plain 475 = .ok (.aload_n 0, 1) := by decide +kernel
