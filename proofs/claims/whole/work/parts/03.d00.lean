theorem dX1_init_0 : decode cX1_init 0 = .ok (.aload_n 0, 1) := by decide +kernel
theorem dX1_init_1 : decode cX1_init 1 = .ok (.invokespecial 3, 3) := by decide +kernel
theorem dX1_init_4 : decode cX1_init 4 = .ok (.aload_n 0, 1) := by decide +kernel
theorem dX1_init_5 : decode cX1_init 5 = .ok (.bipush 6, 2) := by decide +kernel
theorem dX1_init_7 : decode cX1_init 7 = .ok (.newarray .int, 2) := by decide +kernel
theorem dX1_init_9 : decode cX1_init 9 = .ok (.putfield 9, 3) := by decide +kernel
theorem dX1_init_12 : decode cX1_init 12 = .ok (.return_, 1) := by decide +kernel
theorem dX1_begin_0 : decode cX1_begin 0 = .ok (.aload_n 0, 1) := by decide +kernel
theorem dX1_begin_1 : decode cX1_begin 1 = .ok (.iconst 0, 1) := by decide +kernel
theorem dX1_begin_2 : decode cX1_begin 2 = .ok (.putfield 15, 3) := by decide +kernel
theorem dX1_begin_5 : decode cX1_begin 5 = .ok (.aload_n 0, 1) := by decide +kernel
theorem dX1_begin_6 : decode cX1_begin 6 = .ok (.iconst 0, 1) := by decide +kernel
theorem dX1_begin_7 : decode cX1_begin 7 = .ok (.putfield 19, 3) := by decide +kernel
theorem dX1_begin_10 : decode cX1_begin 10 = .ok (.aload_n 0, 1) := by decide +kernel
theorem dX1_begin_11 : decode cX1_begin 11 = .ok (.iconst (-1), 1) := by decide +kernel
theorem dX1_begin_12 : decode cX1_begin 12 = .ok (.putfield 22, 3) := by decide +kernel
theorem dX1_begin_15 : decode cX1_begin 15 = .ok (.return_, 1) := by decide +kernel
theorem dX1_add_0 : decode cX1_add 0 = .ok (.aload_n 0, 1) := by decide +kernel
theorem dX1_add_1 : decode cX1_add 1 = .ok (.getfield 15, 3) := by decide +kernel
theorem dX1_add_4 : decode cX1_add 4 = .ok (.bipush 6, 2) := by decide +kernel
theorem dX1_add_6 : decode cX1_add 6 = .ok (.invokestatic 25, 3) := by decide +kernel
theorem dX1_add_9 : decode cX1_add 9 = .ok (.ifCond .ne 4, 3) := by decide +kernel
theorem dX1_add_12 : decode cX1_add 12 = .ok (.return_, 1) := by decide +kernel
theorem dX1_add_13 : decode cX1_add 13 = .ok (.aload_n 0, 1) := by decide +kernel
theorem dX1_add_14 : decode cX1_add 14 = .ok (.getfield 9, 3) := by decide +kernel
theorem dX1_add_17 : decode cX1_add 17 = .ok (.aload_n 0, 1) := by decide +kernel
theorem dX1_add_18 : decode cX1_add 18 = .ok (.getfield 15, 3) := by decide +kernel
theorem dX1_add_21 : decode cX1_add 21 = .ok (.iload_n 1, 1) := by decide +kernel
theorem dX1_add_22 : decode cX1_add 22 = .ok (.iastore, 1) := by decide +kernel
theorem dX1_add_23 : decode cX1_add 23 = .ok (.aload_n 0, 1) := by decide +kernel
theorem dX1_add_24 : decode cX1_add 24 = .ok (.aload_n 0, 1) := by decide +kernel
theorem dX1_add_25 : decode cX1_add 25 = .ok (.getfield 15, 3) := by decide +kernel
theorem dX1_add_28 : decode cX1_add 28 = .ok (.putfield 19, 3) := by decide +kernel
theorem dX1_add_31 : decode cX1_add 31 = .ok (.aload_n 0, 1) := by decide +kernel
theorem dX1_add_32 : decode cX1_add 32 = .ok (.aload_n 0, 1) := by decide +kernel
theorem dX1_add_33 : decode cX1_add 33 = .ok (.getfield 15, 3) := by decide +kernel
theorem dX1_add_36 : decode cX1_add 36 = .ok (.iconst 1, 1) := by decide +kernel
theorem dX1_add_37 : decode cX1_add 37 = .ok (.iadd, 1) := by decide +kernel
theorem dX1_add_38 : decode cX1_add 38 = .ok (.putfield 15, 3) := by decide +kernel
theorem dX1_add_41 : decode cX1_add 41 = .ok (.return_, 1) := by decide +kernel
theorem dX1_at_0 : decode cX1_at 0 = .ok (.iload_n 1, 1) := by decide +kernel
theorem dX1_at_1 : decode cX1_at 1 = .ok (.ifCond .lt 21, 3) := by decide +kernel
theorem dX1_at_4 : decode cX1_at 4 = .ok (.iload_n 1, 1) := by decide +kernel
theorem dX1_at_5 : decode cX1_at 5 = .ok (.aload_n 0, 1) := by decide +kernel
theorem dX1_at_6 : decode cX1_at 6 = .ok (.getfield 9, 3) := by decide +kernel
theorem dX1_at_9 : decode cX1_at 9 = .ok (.arraylength, 1) := by decide +kernel
theorem dX1_at_10 : decode cX1_at 10 = .ok (.if_icmp .ge 12, 3) := by decide +kernel
theorem dX1_at_13 : decode cX1_at 13 = .ok (.aload_n 0, 1) := by decide +kernel
theorem dX1_at_14 : decode cX1_at 14 = .ok (.getfield 9, 3) := by decide +kernel
theorem dX1_at_17 : decode cX1_at 17 = .ok (.iload_n 1, 1) := by decide +kernel
theorem dX1_at_18 : decode cX1_at 18 = .ok (.iaload, 1) := by decide +kernel
theorem dX1_at_19 : decode cX1_at 19 = .ok (.goto 4, 3) := by decide +kernel
theorem dX1_at_22 : decode cX1_at 22 = .ok (.iconst (-1), 1) := by decide +kernel
theorem dX1_at_23 : decode cX1_at 23 = .ok (.ireturn, 1) := by decide +kernel
theorem dX1_tell_0 : decode cX1_tell 0 = .ok (.iconst 0, 1) := by decide +kernel
theorem dX1_tell_1 : decode cX1_tell 1 = .ok (.istore 4, 2) := by decide +kernel
theorem dX1_tell_3 : decode cX1_tell 3 = .ok (.iload 4, 2) := by decide +kernel
theorem dX1_tell_5 : decode cX1_tell 5 = .ok (.aload_n 0, 1) := by decide +kernel
theorem dX1_tell_6 : decode cX1_tell 6 = .ok (.getfield 19, 3) := by decide +kernel
theorem dX1_tell_9 : decode cX1_tell 9 = .ok (.if_icmp .ge 22, 3) := by decide +kernel
theorem dX1_tell_12 : decode cX1_tell 12 = .ok (.aload_n 1, 1) := by decide +kernel
theorem dX1_tell_13 : decode cX1_tell 13 = .ok (.aload_n 0, 1) := by decide +kernel
theorem dX1_tell_14 : decode cX1_tell 14 = .ok (.iload 4, 2) := by decide +kernel
theorem dX1_tell_16 : decode cX1_tell 16 = .ok (.invokevirtual 29, 3) := by decide +kernel
theorem dX1_tell_19 : decode cX1_tell 19 = .ok (.iconst 1, 1) := by decide +kernel
theorem dX1_tell_20 : decode cX1_tell 20 = .ok (.bipush 11, 2) := by decide +kernel
theorem dX1_tell_22 : decode cX1_tell 22 = .ok (.invokevirtual 33, 3) := by decide +kernel
theorem dX1_tell_25 : decode cX1_tell 25 = .ok (.iinc 4 1, 3) := by decide +kernel
theorem dX1_tell_28 : decode cX1_tell 28 = .ok (.goto (-25), 3) := by decide +kernel
theorem dX1_tell_31 : decode cX1_tell 31 = .ok (.aload_n 1, 1) := by decide +kernel
theorem dX1_tell_32 : decode cX1_tell 32 = .ok (.aload_n 0, 1) := by decide +kernel
theorem dX1_tell_33 : decode cX1_tell 33 = .ok (.aload_n 0, 1) := by decide +kernel
theorem dX1_tell_34 : decode cX1_tell 34 = .ok (.getfield 19, 3) := by decide +kernel
theorem dX1_tell_37 : decode cX1_tell 37 = .ok (.invokevirtual 29, 3) := by decide +kernel
theorem dX1_tell_40 : decode cX1_tell 40 = .ok (.iload_n 2, 1) := by decide +kernel
theorem dX1_tell_41 : decode cX1_tell 41 = .ok (.iload_n 3, 1) := by decide +kernel
theorem dX1_tell_42 : decode cX1_tell 42 = .ok (.invokevirtual 33, 3) := by decide +kernel
theorem dX1_tell_45 : decode cX1_tell 45 = .ok (.return_, 1) := by decide +kernel
theorem dX2_init_0 : decode cX2_init 0 = .ok (.aload_n 0, 1) := by decide +kernel
theorem dX2_init_1 : decode cX2_init 1 = .ok (.invokespecial 1, 3) := by decide +kernel
theorem dX2_init_4 : decode cX2_init 4 = .ok (.return_, 1) := by decide +kernel
theorem dX3_stands_0 : decode cX3_stands 0 = .ok (.aload_n 0, 1) := by decide +kernel
theorem dX3_stands_1 : decode cX3_stands 1 = .ok (.getfield 77, 3) := by decide +kernel
theorem dX3_stands_4 : decode cX3_stands 4 = .ok (.invokevirtual 85, 3) := by decide +kernel
theorem dX3_stands_7 : decode cX3_stands 7 = .ok (.iload_n 3, 1) := by decide +kernel
theorem dX3_stands_8 : decode cX3_stands 8 = .ok (.if_icmp .ne 18, 3) := by decide +kernel
theorem dX3_stands_11 : decode cX3_stands 11 = .ok (.iload_n 2, 1) := by decide +kernel
theorem dX3_stands_12 : decode cX3_stands 12 = .ok (.ifCond .lt 14, 3) := by decide +kernel
theorem dX3_stands_15 : decode cX3_stands 15 = .ok (.iload_n 2, 1) := by decide +kernel
theorem dX3_stands_16 : decode cX3_stands 16 = .ok (.aload_n 1, 1) := by decide +kernel
theorem dX3_stands_17 : decode cX3_stands 17 = .ok (.getfield 91, 3) := by decide +kernel
theorem dX3_stands_20 : decode cX3_stands 20 = .ok (.arraylength, 1) := by decide +kernel
theorem dX3_stands_21 : decode cX3_stands 21 = .ok (.iload_n 3, 1) := by decide +kernel
theorem dX3_stands_22 : decode cX3_stands 22 = .ok (.isub, 1) := by decide +kernel
theorem dX3_stands_23 : decode cX3_stands 23 = .ok (.if_icmp .le 5, 3) := by decide +kernel
theorem dX3_stands_26 : decode cX3_stands 26 = .ok (.iconst 0, 1) := by decide +kernel
theorem dX3_stands_27 : decode cX3_stands 27 = .ok (.ireturn, 1) := by decide +kernel
theorem dX3_stands_28 : decode cX3_stands 28 = .ok (.iconst 0, 1) := by decide +kernel
theorem dX3_stands_29 : decode cX3_stands 29 = .ok (.istore 4, 2) := by decide +kernel
theorem dX3_stands_31 : decode cX3_stands 31 = .ok (.iload 4, 2) := by decide +kernel
theorem dX3_stands_33 : decode cX3_stands 33 = .ok (.iload_n 3, 1) := by decide +kernel
theorem dX3_stands_34 : decode cX3_stands 34 = .ok (.if_icmp .ge 44, 3) := by decide +kernel
theorem dX3_stands_37 : decode cX3_stands 37 = .ok (.iload 4, 2) := by decide +kernel
theorem dX3_stands_39 : decode cX3_stands 39 = .ok (.aload_n 0, 1) := by decide +kernel
theorem dX3_stands_40 : decode cX3_stands 40 = .ok (.getfield 77, 3) := by decide +kernel
theorem dX3_stands_43 : decode cX3_stands 43 = .ok (.invokevirtual 85, 3) := by decide +kernel
theorem dX3_stands_46 : decode cX3_stands 46 = .ok (.if_icmp .ge 32, 3) := by decide +kernel
theorem dX3_stands_49 : decode cX3_stands 49 = .ok (.aload_n 1, 1) := by decide +kernel
theorem dX3_stands_50 : decode cX3_stands 50 = .ok (.getfield 91, 3) := by decide +kernel
theorem dX3_stands_53 : decode cX3_stands 53 = .ok (.iload_n 2, 1) := by decide +kernel
theorem dX3_stands_54 : decode cX3_stands 54 = .ok (.iload 4, 2) := by decide +kernel
theorem dX3_stands_56 : decode cX3_stands 56 = .ok (.iadd, 1) := by decide +kernel
theorem dX3_stands_57 : decode cX3_stands 57 = .ok (.iaload, 1) := by decide +kernel
theorem dX3_stands_58 : decode cX3_stands 58 = .ok (.aload_n 0, 1) := by decide +kernel
theorem dX3_stands_59 : decode cX3_stands 59 = .ok (.getfield 77, 3) := by decide +kernel
theorem dX3_stands_62 : decode cX3_stands 62 = .ok (.iload 4, 2) := by decide +kernel
theorem dX3_stands_64 : decode cX3_stands 64 = .ok (.invokevirtual 97, 3) := by decide +kernel
theorem dX3_stands_67 : decode cX3_stands 67 = .ok (.if_icmp .eq 5, 3) := by decide +kernel
theorem dX3_stands_70 : decode cX3_stands 70 = .ok (.iconst 0, 1) := by decide +kernel
theorem dX3_stands_71 : decode cX3_stands 71 = .ok (.ireturn, 1) := by decide +kernel
theorem dX3_stands_72 : decode cX3_stands 72 = .ok (.iinc 4 1, 3) := by decide +kernel
theorem dX3_stands_75 : decode cX3_stands 75 = .ok (.goto (-44), 3) := by decide +kernel
theorem dX3_stands_78 : decode cX3_stands 78 = .ok (.iconst 1, 1) := by decide +kernel
theorem dX3_stands_79 : decode cX3_stands 79 = .ok (.ireturn, 1) := by decide +kernel
theorem dX3_called_0 : decode cX3_called 0 = .ok (.iconst 0, 1) := by decide +kernel
theorem dX3_called_1 : decode cX3_called 1 = .ok (.istore_n 3, 1) := by decide +kernel
theorem dX3_called_2 : decode cX3_called 2 = .ok (.iload_n 3, 1) := by decide +kernel
theorem dX3_called_3 : decode cX3_called 3 = .ok (.getstatic 101, 3) := by decide +kernel
theorem dX3_called_6 : decode cX3_called 6 = .ok (.arraylength, 1) := by decide +kernel
theorem dX3_called_7 : decode cX3_called 7 = .ok (.if_icmp .ge 29, 3) := by decide +kernel
theorem dX3_called_10 : decode cX3_called 10 = .ok (.getstatic 101, 3) := by decide +kernel
theorem dX3_called_13 : decode cX3_called 13 = .ok (.iload_n 3, 1) := by decide +kernel
theorem dX3_called_14 : decode cX3_called 14 = .ok (.aaload, 1) := by decide +kernel
theorem dX3_called_15 : decode cX3_called 15 = .ok (.aload_n 0, 1) := by decide +kernel
theorem dX3_called_16 : decode cX3_called 16 = .ok (.iload_n 1, 1) := by decide +kernel
theorem dX3_called_17 : decode cX3_called 17 = .ok (.iload_n 2, 1) := by decide +kernel
theorem dX3_called_18 : decode cX3_called 18 = .ok (.invokevirtual 104, 3) := by decide +kernel
theorem dX3_called_21 : decode cX3_called 21 = .ok (.ifCond .eq 9, 3) := by decide +kernel
theorem dX3_called_24 : decode cX3_called 24 = .ok (.getstatic 101, 3) := by decide +kernel
theorem dX3_called_27 : decode cX3_called 27 = .ok (.iload_n 3, 1) := by decide +kernel
theorem dX3_called_28 : decode cX3_called 28 = .ok (.aaload, 1) := by decide +kernel
theorem dX3_called_29 : decode cX3_called 29 = .ok (.areturn, 1) := by decide +kernel
theorem dX3_called_30 : decode cX3_called 30 = .ok (.iinc 3 1, 3) := by decide +kernel
theorem dX3_called_33 : decode cX3_called 33 = .ok (.goto (-31), 3) := by decide +kernel
theorem dX3_called_36 : decode cX3_called 36 = .ok (.aconst_null, 1) := by decide +kernel
theorem dX3_called_37 : decode cX3_called 37 = .ok (.areturn, 1) := by decide +kernel
theorem dX4_init_0 : decode cX4_init 0 = .ok (.aload_n 0, 1) := by decide +kernel
theorem dX4_init_1 : decode cX4_init 1 = .ok (.invokespecial 1, 3) := by decide +kernel
theorem dX4_init_4 : decode cX4_init 4 = .ok (.aload_n 0, 1) := by decide +kernel
theorem dX4_init_5 : decode cX4_init 5 = .ok (.aload_n 1, 1) := by decide +kernel
theorem dX4_init_6 : decode cX4_init 6 = .ok (.putfield 7, 3) := by decide +kernel
theorem dX4_init_9 : decode cX4_init 9 = .ok (.return_, 1) := by decide +kernel
theorem dX5_init_0 : decode cX5_init 0 = .ok (.aload_n 0, 1) := by decide +kernel
theorem dX5_init_1 : decode cX5_init 1 = .ok (.invokespecial 3, 3) := by decide +kernel
theorem dX5_init_4 : decode cX5_init 4 = .ok (.aload_n 0, 1) := by decide +kernel
theorem dX5_init_5 : decode cX5_init 5 = .ok (.iload_n 1, 1) := by decide +kernel
theorem dX5_init_6 : decode cX5_init 6 = .ok (.ifCond .le 7, 3) := by decide +kernel
theorem dX5_init_9 : decode cX5_init 9 = .ok (.iload_n 1, 1) := by decide +kernel
theorem dX5_init_10 : decode cX5_init 10 = .ok (.goto 4, 3) := by decide +kernel
theorem dX5_init_13 : decode cX5_init 13 = .ok (.iconst 0, 1) := by decide +kernel
theorem dX5_init_14 : decode cX5_init 14 = .ok (.newarray .int, 2) := by decide +kernel
theorem dX5_init_16 : decode cX5_init 16 = .ok (.putfield 9, 3) := by decide +kernel
theorem dX5_init_19 : decode cX5_init 19 = .ok (.return_, 1) := by decide +kernel
theorem dX5_empty_0 : decode cX5_empty 0 = .ok (.aload_n 0, 1) := by decide +kernel
theorem dX5_empty_1 : decode cX5_empty 1 = .ok (.iconst 0, 1) := by decide +kernel
theorem dX5_empty_2 : decode cX5_empty 2 = .ok (.putfield 15, 3) := by decide +kernel
theorem dX5_empty_5 : decode cX5_empty 5 = .ok (.return_, 1) := by decide +kernel
theorem dX5_add_0 : decode cX5_add 0 = .ok (.aload_n 0, 1) := by decide +kernel
theorem dX5_add_1 : decode cX5_add 1 = .ok (.getfield 15, 3) := by decide +kernel
theorem dX5_add_4 : decode cX5_add 4 = .ok (.ifCond .lt 15, 3) := by decide +kernel
theorem dX5_add_7 : decode cX5_add 7 = .ok (.aload_n 0, 1) := by decide +kernel
theorem dX5_add_8 : decode cX5_add 8 = .ok (.getfield 15, 3) := by decide +kernel
theorem dX5_add_11 : decode cX5_add 11 = .ok (.aload_n 0, 1) := by decide +kernel
theorem dX5_add_12 : decode cX5_add 12 = .ok (.getfield 9, 3) := by decide +kernel
theorem dX5_add_15 : decode cX5_add 15 = .ok (.arraylength, 1) := by decide +kernel
theorem dX5_add_16 : decode cX5_add 16 = .ok (.if_icmp .lt 5, 3) := by decide +kernel
theorem dX5_add_19 : decode cX5_add 19 = .ok (.iconst 0, 1) := by decide +kernel
theorem dX5_add_20 : decode cX5_add 20 = .ok (.ireturn, 1) := by decide +kernel
theorem dX5_add_21 : decode cX5_add 21 = .ok (.aload_n 0, 1) := by decide +kernel
theorem dX5_add_22 : decode cX5_add 22 = .ok (.getfield 9, 3) := by decide +kernel
theorem dX5_add_25 : decode cX5_add 25 = .ok (.aload_n 0, 1) := by decide +kernel
theorem dX5_add_26 : decode cX5_add 26 = .ok (.getfield 15, 3) := by decide +kernel
theorem dX5_add_29 : decode cX5_add 29 = .ok (.iload_n 1, 1) := by decide +kernel
theorem dX5_add_30 : decode cX5_add 30 = .ok (.iastore, 1) := by decide +kernel
theorem dX5_add_31 : decode cX5_add 31 = .ok (.aload_n 0, 1) := by decide +kernel
theorem dX5_add_32 : decode cX5_add 32 = .ok (.aload_n 0, 1) := by decide +kernel
theorem dX5_add_33 : decode cX5_add 33 = .ok (.getfield 15, 3) := by decide +kernel
theorem dX5_add_36 : decode cX5_add 36 = .ok (.iconst 1, 1) := by decide +kernel
theorem dX5_add_37 : decode cX5_add 37 = .ok (.iadd, 1) := by decide +kernel
theorem dX5_add_38 : decode cX5_add 38 = .ok (.putfield 15, 3) := by decide +kernel
theorem dX5_add_41 : decode cX5_add 41 = .ok (.iconst 1, 1) := by decide +kernel
theorem dX5_add_42 : decode cX5_add 42 = .ok (.ireturn, 1) := by decide +kernel
theorem dX5_addLink_0 : decode cX5_addLink 0 = .ok (.aload_n 0, 1) := by decide +kernel
theorem dX5_addLink_1 : decode cX5_addLink 1 = .ok (.getfield 15, 3) := by decide +kernel
theorem dX5_addLink_4 : decode cX5_addLink 4 = .ok (.ifCond .lt 17, 3) := by decide +kernel
theorem dX5_addLink_7 : decode cX5_addLink 7 = .ok (.aload_n 0, 1) := by decide +kernel
theorem dX5_addLink_8 : decode cX5_addLink 8 = .ok (.getfield 15, 3) := by decide +kernel
theorem dX5_addLink_11 : decode cX5_addLink 11 = .ok (.aload_n 0, 1) := by decide +kernel
theorem dX5_addLink_12 : decode cX5_addLink 12 = .ok (.getfield 9, 3) := by decide +kernel
theorem dX5_addLink_15 : decode cX5_addLink 15 = .ok (.arraylength, 1) := by decide +kernel
theorem dX5_addLink_16 : decode cX5_addLink 16 = .ok (.iconst 3, 1) := by decide +kernel
theorem dX5_addLink_17 : decode cX5_addLink 17 = .ok (.isub, 1) := by decide +kernel
theorem dX5_addLink_18 : decode cX5_addLink 18 = .ok (.if_icmp .le 4, 3) := by decide +kernel
theorem dX5_addLink_21 : decode cX5_addLink 21 = .ok (.return_, 1) := by decide +kernel
theorem dX5_addLink_22 : decode cX5_addLink 22 = .ok (.aload_n 0, 1) := by decide +kernel
theorem dX5_addLink_23 : decode cX5_addLink 23 = .ok (.getfield 9, 3) := by decide +kernel
theorem dX5_addLink_26 : decode cX5_addLink 26 = .ok (.aload_n 0, 1) := by decide +kernel
theorem dX5_addLink_27 : decode cX5_addLink 27 = .ok (.getfield 15, 3) := by decide +kernel
theorem dX5_addLink_30 : decode cX5_addLink 30 = .ok (.iload_n 1, 1) := by decide +kernel
theorem dX5_addLink_31 : decode cX5_addLink 31 = .ok (.iastore, 1) := by decide +kernel
theorem dX5_addLink_32 : decode cX5_addLink 32 = .ok (.aload_n 0, 1) := by decide +kernel
theorem dX5_addLink_33 : decode cX5_addLink 33 = .ok (.getfield 9, 3) := by decide +kernel
theorem dX5_addLink_36 : decode cX5_addLink 36 = .ok (.aload_n 0, 1) := by decide +kernel
theorem dX5_addLink_37 : decode cX5_addLink 37 = .ok (.getfield 15, 3) := by decide +kernel
theorem dX5_addLink_40 : decode cX5_addLink 40 = .ok (.iconst 1, 1) := by decide +kernel
theorem dX5_addLink_41 : decode cX5_addLink 41 = .ok (.iadd, 1) := by decide +kernel
theorem dX5_addLink_42 : decode cX5_addLink 42 = .ok (.iload_n 2, 1) := by decide +kernel
theorem dX5_addLink_43 : decode cX5_addLink 43 = .ok (.iastore, 1) := by decide +kernel
theorem dX5_addLink_44 : decode cX5_addLink 44 = .ok (.aload_n 0, 1) := by decide +kernel
theorem dX5_addLink_45 : decode cX5_addLink 45 = .ok (.getfield 9, 3) := by decide +kernel
theorem dX5_addLink_48 : decode cX5_addLink 48 = .ok (.aload_n 0, 1) := by decide +kernel
theorem dX5_addLink_49 : decode cX5_addLink 49 = .ok (.getfield 15, 3) := by decide +kernel
theorem dX5_addLink_52 : decode cX5_addLink 52 = .ok (.iconst 2, 1) := by decide +kernel
theorem dX5_addLink_53 : decode cX5_addLink 53 = .ok (.iadd, 1) := by decide +kernel
theorem dX5_addLink_54 : decode cX5_addLink 54 = .ok (.iload_n 3, 1) := by decide +kernel
theorem dX5_addLink_55 : decode cX5_addLink 55 = .ok (.iastore, 1) := by decide +kernel
theorem dX5_addLink_56 : decode cX5_addLink 56 = .ok (.aload_n 0, 1) := by decide +kernel
theorem dX5_addLink_57 : decode cX5_addLink 57 = .ok (.aload_n 0, 1) := by decide +kernel
theorem dX5_addLink_58 : decode cX5_addLink 58 = .ok (.getfield 15, 3) := by decide +kernel
theorem dX5_addLink_61 : decode cX5_addLink 61 = .ok (.iconst 3, 1) := by decide +kernel
theorem dX5_addLink_62 : decode cX5_addLink 62 = .ok (.iadd, 1) := by decide +kernel
theorem dX5_addLink_63 : decode cX5_addLink 63 = .ok (.putfield 15, 3) := by decide +kernel
theorem dX5_addLink_66 : decode cX5_addLink 66 = .ok (.return_, 1) := by decide +kernel
theorem dX5_at_0 : decode cX5_at 0 = .ok (.iload_n 1, 1) := by decide +kernel
theorem dX5_at_1 : decode cX5_at 1 = .ok (.ifCond .lt 29, 3) := by decide +kernel
theorem dX5_at_4 : decode cX5_at 4 = .ok (.iload_n 1, 1) := by decide +kernel
theorem dX5_at_5 : decode cX5_at 5 = .ok (.aload_n 0, 1) := by decide +kernel
theorem dX5_at_6 : decode cX5_at 6 = .ok (.getfield 15, 3) := by decide +kernel
theorem dX5_at_9 : decode cX5_at 9 = .ok (.if_icmp .ge 21, 3) := by decide +kernel
theorem dX5_at_12 : decode cX5_at 12 = .ok (.iload_n 1, 1) := by decide +kernel
theorem dX5_at_13 : decode cX5_at 13 = .ok (.aload_n 0, 1) := by decide +kernel
theorem dX5_at_14 : decode cX5_at 14 = .ok (.getfield 9, 3) := by decide +kernel
theorem dX5_at_17 : decode cX5_at 17 = .ok (.arraylength, 1) := by decide +kernel
theorem dX5_at_18 : decode cX5_at 18 = .ok (.if_icmp .ge 12, 3) := by decide +kernel
theorem dX5_at_21 : decode cX5_at 21 = .ok (.aload_n 0, 1) := by decide +kernel
theorem dX5_at_22 : decode cX5_at 22 = .ok (.getfield 9, 3) := by decide +kernel
theorem dX5_at_25 : decode cX5_at 25 = .ok (.iload_n 1, 1) := by decide +kernel
theorem dX5_at_26 : decode cX5_at 26 = .ok (.iaload, 1) := by decide +kernel
theorem dX5_at_27 : decode cX5_at 27 = .ok (.goto 4, 3) := by decide +kernel
theorem dX5_at_30 : decode cX5_at 30 = .ok (.iconst (-1), 1) := by decide +kernel
theorem dX5_at_31 : decode cX5_at 31 = .ok (.ireturn, 1) := by decide +kernel
theorem dX5_copy_0 : decode cX5_copy 0 = .ok (.aload_n 1, 1) := by decide +kernel
theorem dX5_copy_1 : decode cX5_copy 1 = .ok (.getfield 15, 3) := by decide +kernel
theorem dX5_copy_4 : decode cX5_copy 4 = .ok (.aload_n 0, 1) := by decide +kernel
theorem dX5_copy_5 : decode cX5_copy 5 = .ok (.getfield 9, 3) := by decide +kernel
theorem dX5_copy_8 : decode cX5_copy 8 = .ok (.arraylength, 1) := by decide +kernel
theorem dX5_copy_9 : decode cX5_copy 9 = .ok (.invokestatic 19, 3) := by decide +kernel
theorem dX5_copy_12 : decode cX5_copy 12 = .ok (.istore_n 2, 1) := by decide +kernel
theorem dX5_copy_13 : decode cX5_copy 13 = .ok (.aload_n 1, 1) := by decide +kernel
theorem dX5_copy_14 : decode cX5_copy 14 = .ok (.getfield 9, 3) := by decide +kernel
theorem dX5_copy_17 : decode cX5_copy 17 = .ok (.iconst 0, 1) := by decide +kernel
theorem dX5_copy_18 : decode cX5_copy 18 = .ok (.aload_n 0, 1) := by decide +kernel
theorem dX5_copy_19 : decode cX5_copy 19 = .ok (.getfield 9, 3) := by decide +kernel
theorem dX5_copy_22 : decode cX5_copy 22 = .ok (.iconst 0, 1) := by decide +kernel
theorem dX5_copy_23 : decode cX5_copy 23 = .ok (.iload_n 2, 1) := by decide +kernel
theorem dX5_copy_24 : decode cX5_copy 24 = .ok (.invokestatic 25, 3) := by decide +kernel
theorem dX5_copy_27 : decode cX5_copy 27 = .ok (.aload_n 0, 1) := by decide +kernel
theorem dX5_copy_28 : decode cX5_copy 28 = .ok (.iload_n 2, 1) := by decide +kernel
theorem dX5_copy_29 : decode cX5_copy 29 = .ok (.putfield 15, 3) := by decide +kernel
theorem dX5_copy_32 : decode cX5_copy 32 = .ok (.return_, 1) := by decide +kernel
theorem dX5_sum_0 : decode cX5_sum 0 = .ok (.iconst 0, 1) := by decide +kernel
theorem dX5_sum_1 : decode cX5_sum 1 = .ok (.istore_n 1, 1) := by decide +kernel
theorem dX5_sum_2 : decode cX5_sum 2 = .ok (.iconst 0, 1) := by decide +kernel
theorem dX5_sum_3 : decode cX5_sum 3 = .ok (.istore_n 2, 1) := by decide +kernel
theorem dX5_sum_4 : decode cX5_sum 4 = .ok (.iload_n 2, 1) := by decide +kernel
theorem dX5_sum_5 : decode cX5_sum 5 = .ok (.aload_n 0, 1) := by decide +kernel
theorem dX5_sum_6 : decode cX5_sum 6 = .ok (.getfield 15, 3) := by decide +kernel
theorem dX5_sum_9 : decode cX5_sum 9 = .ok (.if_icmp .ge 27, 3) := by decide +kernel
theorem dX5_sum_12 : decode cX5_sum 12 = .ok (.iload_n 2, 1) := by decide +kernel
theorem dX5_sum_13 : decode cX5_sum 13 = .ok (.aload_n 0, 1) := by decide +kernel
theorem dX5_sum_14 : decode cX5_sum 14 = .ok (.getfield 9, 3) := by decide +kernel
theorem dX5_sum_17 : decode cX5_sum 17 = .ok (.arraylength, 1) := by decide +kernel
theorem dX5_sum_18 : decode cX5_sum 18 = .ok (.if_icmp .ge 18, 3) := by decide +kernel
theorem dX5_sum_21 : decode cX5_sum 21 = .ok (.iload_n 1, 1) := by decide +kernel
theorem dX5_sum_22 : decode cX5_sum 22 = .ok (.aload_n 0, 1) := by decide +kernel
theorem dX5_sum_23 : decode cX5_sum 23 = .ok (.getfield 9, 3) := by decide +kernel
theorem dX5_sum_26 : decode cX5_sum 26 = .ok (.iload_n 2, 1) := by decide +kernel
theorem dX5_sum_27 : decode cX5_sum 27 = .ok (.iaload, 1) := by decide +kernel
theorem dX5_sum_28 : decode cX5_sum 28 = .ok (.iadd, 1) := by decide +kernel
theorem dX5_sum_29 : decode cX5_sum 29 = .ok (.istore_n 1, 1) := by decide +kernel
theorem dX5_sum_30 : decode cX5_sum 30 = .ok (.iinc 2 1, 3) := by decide +kernel
theorem dX5_sum_33 : decode cX5_sum 33 = .ok (.goto (-29), 3) := by decide +kernel
theorem dX5_sum_36 : decode cX5_sum 36 = .ok (.iload_n 1, 1) := by decide +kernel
theorem dX5_sum_37 : decode cX5_sum 37 = .ok (.ireturn, 1) := by decide +kernel
theorem dX5_count_0 : decode cX5_count 0 = .ok (.iconst 0, 1) := by decide +kernel
theorem dX5_count_1 : decode cX5_count 1 = .ok (.istore_n 2, 1) := by decide +kernel
theorem dX5_count_2 : decode cX5_count 2 = .ok (.iconst 0, 1) := by decide +kernel
theorem dX5_count_3 : decode cX5_count 3 = .ok (.istore_n 3, 1) := by decide +kernel
theorem dX5_count_4 : decode cX5_count 4 = .ok (.iload_n 3, 1) := by decide +kernel
theorem dX5_count_5 : decode cX5_count 5 = .ok (.aload_n 0, 1) := by decide +kernel
theorem dX5_count_6 : decode cX5_count 6 = .ok (.getfield 15, 3) := by decide +kernel
theorem dX5_count_9 : decode cX5_count 9 = .ok (.if_icmp .ge 32, 3) := by decide +kernel
theorem dX5_count_12 : decode cX5_count 12 = .ok (.iload_n 3, 1) := by decide +kernel
theorem dX5_count_13 : decode cX5_count 13 = .ok (.aload_n 0, 1) := by decide +kernel
theorem dX5_count_14 : decode cX5_count 14 = .ok (.getfield 9, 3) := by decide +kernel
theorem dX5_count_17 : decode cX5_count 17 = .ok (.arraylength, 1) := by decide +kernel
theorem dX5_count_18 : decode cX5_count 18 = .ok (.if_icmp .ge 23, 3) := by decide +kernel
theorem dX5_count_21 : decode cX5_count 21 = .ok (.aload_n 0, 1) := by decide +kernel
theorem dX5_count_22 : decode cX5_count 22 = .ok (.getfield 9, 3) := by decide +kernel
theorem dX5_count_25 : decode cX5_count 25 = .ok (.iload_n 3, 1) := by decide +kernel
theorem dX5_count_26 : decode cX5_count 26 = .ok (.iaload, 1) := by decide +kernel
theorem dX5_count_27 : decode cX5_count 27 = .ok (.iload_n 1, 1) := by decide +kernel
theorem dX5_count_28 : decode cX5_count 28 = .ok (.if_icmp .ne 7, 3) := by decide +kernel
theorem dX5_count_31 : decode cX5_count 31 = .ok (.iload_n 2, 1) := by decide +kernel
theorem dX5_count_32 : decode cX5_count 32 = .ok (.iconst 1, 1) := by decide +kernel
theorem dX5_count_33 : decode cX5_count 33 = .ok (.iadd, 1) := by decide +kernel
theorem dX5_count_34 : decode cX5_count 34 = .ok (.istore_n 2, 1) := by decide +kernel
theorem dX5_count_35 : decode cX5_count 35 = .ok (.iinc 3 1, 3) := by decide +kernel
theorem dX5_count_38 : decode cX5_count 38 = .ok (.goto (-34), 3) := by decide +kernel
theorem dX5_count_41 : decode cX5_count 41 = .ok (.iload_n 2, 1) := by decide +kernel
theorem dX5_count_42 : decode cX5_count 42 = .ok (.ireturn, 1) := by decide +kernel
theorem dX6_init_0 : decode cX6_init 0 = .ok (.aload_n 0, 1) := by decide +kernel
theorem dX6_init_1 : decode cX6_init 1 = .ok (.invokespecial 1, 3) := by decide +kernel
theorem dX6_init_4 : decode cX6_init 4 = .ok (.aload_n 0, 1) := by decide +kernel
theorem dX6_init_5 : decode cX6_init 5 = .ok (.iload_n 1, 1) := by decide +kernel
theorem dX6_init_6 : decode cX6_init 6 = .ok (.putfield 7, 3) := by decide +kernel
theorem dX6_init_9 : decode cX6_init 9 = .ok (.aload_n 0, 1) := by decide +kernel
theorem dX6_init_10 : decode cX6_init 10 = .ok (.iload_n 2, 1) := by decide +kernel
theorem dX6_init_11 : decode cX6_init 11 = .ok (.putfield 13, 3) := by decide +kernel
theorem dX6_init_14 : decode cX6_init 14 = .ok (.return_, 1) := by decide +kernel
theorem dX7_init_0 : decode cX7_init 0 = .ok (.aload_n 0, 1) := by decide +kernel
theorem dX7_init_1 : decode cX7_init 1 = .ok (.invokespecial 3, 3) := by decide +kernel
theorem dX7_init_4 : decode cX7_init 4 = .ok (.aload_n 0, 1) := by decide +kernel
theorem dX7_init_5 : decode cX7_init 5 = .ok (.iconst 1, 1) := by decide +kernel
theorem dX7_init_6 : decode cX7_init 6 = .ok (.putfield 9, 3) := by decide +kernel
theorem dX7_init_9 : decode cX7_init 9 = .ok (.aload_n 0, 1) := by decide +kernel
theorem dX7_init_10 : decode cX7_init 10 = .ok (.iconst (-1), 1) := by decide +kernel
theorem dX7_init_11 : decode cX7_init 11 = .ok (.putfield 15, 3) := by decide +kernel
theorem dX7_init_14 : decode cX7_init 14 = .ok (.aload_n 0, 1) := by decide +kernel
theorem dX7_init_15 : decode cX7_init 15 = .ok (.aload_n 1, 1) := by decide +kernel
theorem dX7_init_16 : decode cX7_init 16 = .ok (.putfield 18, 3) := by decide +kernel
theorem dX7_init_19 : decode cX7_init 19 = .ok (.aload_n 0, 1) := by decide +kernel
theorem dX7_init_20 : decode cX7_init 20 = .ok (.new 22, 3) := by decide +kernel
theorem dX7_init_23 : decode cX7_init 23 = .ok (.dup, 1) := by decide +kernel
theorem dX7_init_24 : decode cX7_init 24 = .ok (.aload_n 1, 1) := by decide +kernel
theorem dX7_init_25 : decode cX7_init 25 = .ok (.getfield 24, 3) := by decide +kernel
theorem dX7_init_28 : decode cX7_init 28 = .ok (.invokespecial 29, 3) := by decide +kernel
theorem dX7_init_31 : decode cX7_init 31 = .ok (.putfield 32, 3) := by decide +kernel
theorem dX7_init_34 : decode cX7_init 34 = .ok (.return_, 1) := by decide +kernel
theorem dX7_readTemplate_0 : decode cX7_readTemplate 0 = .ok (.aload_n 0, 1) := by decide +kernel
theorem dX7_readTemplate_1 : decode cX7_readTemplate 1 = .ok (.getfield 18, 3) := by decide +kernel
theorem dX7_readTemplate_4 : decode cX7_readTemplate 4 = .ok (.iconst 0, 1) := by decide +kernel
theorem dX7_readTemplate_5 : decode cX7_readTemplate 5 = .ok (.invokevirtual 36, 3) := by decide +kernel
theorem dX7_readTemplate_8 : decode cX7_readTemplate 8 = .ok (.bipush 123, 2) := by decide +kernel
theorem dX7_readTemplate_10 : decode cX7_readTemplate 10 = .ok (.if_icmp .ne 50, 3) := by decide +kernel
theorem dX7_readTemplate_13 : decode cX7_readTemplate 13 = .ok (.aload_n 0, 1) := by decide +kernel
theorem dX7_readTemplate_14 : decode cX7_readTemplate 14 = .ok (.getfield 18, 3) := by decide +kernel
theorem dX7_readTemplate_17 : decode cX7_readTemplate 17 = .ok (.iconst 1, 1) := by decide +kernel
theorem dX7_readTemplate_18 : decode cX7_readTemplate 18 = .ok (.invokevirtual 36, 3) := by decide +kernel
theorem dX7_readTemplate_21 : decode cX7_readTemplate 21 = .ok (.bipush 60, 2) := by decide +kernel
theorem dX7_readTemplate_23 : decode cX7_readTemplate 23 = .ok (.if_icmp .ne 37, 3) := by decide +kernel
theorem dX7_readTemplate_26 : decode cX7_readTemplate 26 = .ok (.aload_n 0, 1) := by decide +kernel
theorem dX7_readTemplate_27 : decode cX7_readTemplate 27 = .ok (.iconst 2, 1) := by decide +kernel
theorem dX7_readTemplate_28 : decode cX7_readTemplate 28 = .ok (.putfield 40, 3) := by decide +kernel
theorem dX7_readTemplate_31 : decode cX7_readTemplate 31 = .ok (.aload_n 0, 1) := by decide +kernel
theorem dX7_readTemplate_32 : decode cX7_readTemplate 32 = .ok (.getfield 32, 3) := by decide +kernel
theorem dX7_readTemplate_35 : decode cX7_readTemplate 35 = .ok (.iconst 1, 1) := by decide +kernel
theorem dX7_readTemplate_36 : decode cX7_readTemplate 36 = .ok (.putfield 42, 3) := by decide +kernel
theorem dX7_readTemplate_39 : decode cX7_readTemplate 39 = .ok (.aload_n 0, 1) := by decide +kernel
theorem dX7_readTemplate_40 : decode cX7_readTemplate 40 = .ok (.getfield 32, 3) := by decide +kernel
theorem dX7_readTemplate_43 : decode cX7_readTemplate 43 = .ok (.aload_n 0, 1) := by decide +kernel
theorem dX7_readTemplate_44 : decode cX7_readTemplate 44 = .ok (.bipush 48, 2) := by decide +kernel
theorem dX7_readTemplate_46 : decode cX7_readTemplate 46 = .ok (.bipush 6, 2) := by decide +kernel
theorem dX7_readTemplate_48 : decode cX7_readTemplate 48 = .ok (.invokevirtual 45, 3) := by decide +kernel
theorem dX7_readTemplate_51 : decode cX7_readTemplate 51 = .ok (.putfield 49, 3) := by decide +kernel
theorem dX7_readTemplate_54 : decode cX7_readTemplate 54 = .ok (.aload_n 0, 1) := by decide +kernel
theorem dX7_readTemplate_55 : decode cX7_readTemplate 55 = .ok (.bipush 125, 2) := by decide +kernel
theorem dX7_readTemplate_57 : decode cX7_readTemplate 57 = .ok (.invokevirtual 52, 3) := by decide +kernel
theorem dX7_readTemplate_60 : decode cX7_readTemplate 60 = .ok (.aload_n 0, 1) := by decide +kernel
theorem dX7_readTemplate_61 : decode cX7_readTemplate 61 = .ok (.getfield 32, 3) := by decide +kernel
theorem dX7_readTemplate_64 : decode cX7_readTemplate 64 = .ok (.aload_n 0, 1) := by decide +kernel
theorem dX7_readTemplate_65 : decode cX7_readTemplate 65 = .ok (.iconst 0, 1) := by decide +kernel
theorem dX7_readTemplate_66 : decode cX7_readTemplate 66 = .ok (.iconst 0, 1) := by decide +kernel
theorem dX7_readTemplate_67 : decode cX7_readTemplate 67 = .ok (.iconst 0, 1) := by decide +kernel
theorem dX7_readTemplate_68 : decode cX7_readTemplate 68 = .ok (.invokevirtual 55, 3) := by decide +kernel
theorem dX7_readTemplate_71 : decode cX7_readTemplate 71 = .ok (.putfield 59, 3) := by decide +kernel
theorem dX7_readTemplate_74 : decode cX7_readTemplate 74 = .ok (.aload_n 0, 1) := by decide +kernel
theorem dX7_readTemplate_75 : decode cX7_readTemplate 75 = .ok (.getfield 32, 3) := by decide +kernel
theorem dX7_readTemplate_78 : decode cX7_readTemplate 78 = .ok (.aload_n 0, 1) := by decide +kernel
theorem dX7_readTemplate_79 : decode cX7_readTemplate 79 = .ok (.getfield 9, 3) := by decide +kernel
theorem dX7_readTemplate_82 : decode cX7_readTemplate 82 = .ok (.putfield 63, 3) := by decide +kernel
theorem dX7_readTemplate_85 : decode cX7_readTemplate 85 = .ok (.aload_n 0, 1) := by decide +kernel
theorem dX7_readTemplate_86 : decode cX7_readTemplate 86 = .ok (.getfield 15, 3) := by decide +kernel
theorem dX7_readTemplate_89 : decode cX7_readTemplate 89 = .ok (.ifCond .ge 10, 3) := by decide +kernel
theorem dX7_readTemplate_92 : decode cX7_readTemplate 92 = .ok (.aload_n 0, 1) := by decide +kernel
theorem dX7_readTemplate_93 : decode cX7_readTemplate 93 = .ok (.getfield 32, 3) := by decide +kernel
theorem dX7_readTemplate_96 : decode cX7_readTemplate 96 = .ok (.goto 4, 3) := by decide +kernel
theorem dX7_readTemplate_99 : decode cX7_readTemplate 99 = .ok (.aconst_null, 1) := by decide +kernel
theorem dX7_readTemplate_100 : decode cX7_readTemplate 100 = .ok (.areturn, 1) := by decide +kernel
theorem dX7_readWholeFilters_0 : decode cX7_readWholeFilters 0 = .ok (.aload_n 0, 1) := by decide +kernel
theorem dX7_readWholeFilters_1 : decode cX7_readWholeFilters 1 = .ok (.invokevirtual 66, 3) := by decide +kernel
theorem dX7_readWholeFilters_4 : decode cX7_readWholeFilters 4 = .ok (.astore_n 1, 1) := by decide +kernel
theorem dX7_readWholeFilters_5 : decode cX7_readWholeFilters 5 = .ok (.aload_n 0, 1) := by decide +kernel
theorem dX7_readWholeFilters_6 : decode cX7_readWholeFilters 6 = .ok (.getfield 40, 3) := by decide +kernel
theorem dX7_readWholeFilters_9 : decode cX7_readWholeFilters 9 = .ok (.aload_n 0, 1) := by decide +kernel
theorem dX7_readWholeFilters_10 : decode cX7_readWholeFilters 10 = .ok (.getfield 18, 3) := by decide +kernel
theorem dX7_readWholeFilters_13 : decode cX7_readWholeFilters 13 = .ok (.getfield 24, 3) := by decide +kernel
theorem dX7_readWholeFilters_16 : decode cX7_readWholeFilters 16 = .ok (.if_icmp .ge 7, 3) := by decide +kernel
theorem dX7_readWholeFilters_19 : decode cX7_readWholeFilters 19 = .ok (.aload_n 0, 1) := by decide +kernel
theorem dX7_readWholeFilters_20 : decode cX7_readWholeFilters 20 = .ok (.invokevirtual 70, 3) := by decide +kernel
theorem dX7_readWholeFilters_23 : decode cX7_readWholeFilters 23 = .ok (.aload_n 0, 1) := by decide +kernel
theorem dX7_readWholeFilters_24 : decode cX7_readWholeFilters 24 = .ok (.getfield 15, 3) := by decide +kernel
theorem dX7_readWholeFilters_27 : decode cX7_readWholeFilters 27 = .ok (.ifCond .ge 7, 3) := by decide +kernel
theorem dX7_readWholeFilters_30 : decode cX7_readWholeFilters 30 = .ok (.aload_n 1, 1) := by decide +kernel
theorem dX7_readWholeFilters_31 : decode cX7_readWholeFilters 31 = .ok (.goto 4, 3) := by decide +kernel
theorem dX7_readWholeFilters_34 : decode cX7_readWholeFilters 34 = .ok (.aconst_null, 1) := by decide +kernel
theorem dX7_readWholeFilters_35 : decode cX7_readWholeFilters 35 = .ok (.areturn, 1) := by decide +kernel
theorem dX7_peek_0 : decode cX7_peek 0 = .ok (.aload_n 0, 1) := by decide +kernel
theorem dX7_peek_1 : decode cX7_peek 1 = .ok (.getfield 40, 3) := by decide +kernel
theorem dX7_peek_4 : decode cX7_peek 4 = .ok (.ifCond .lt 47, 3) := by decide +kernel
theorem dX7_peek_7 : decode cX7_peek 7 = .ok (.aload_n 0, 1) := by decide +kernel
theorem dX7_peek_8 : decode cX7_peek 8 = .ok (.getfield 40, 3) := by decide +kernel
theorem dX7_peek_11 : decode cX7_peek 11 = .ok (.aload_n 0, 1) := by decide +kernel
theorem dX7_peek_12 : decode cX7_peek 12 = .ok (.getfield 18, 3) := by decide +kernel
theorem dX7_peek_15 : decode cX7_peek 15 = .ok (.getfield 24, 3) := by decide +kernel
theorem dX7_peek_18 : decode cX7_peek 18 = .ok (.if_icmp .ge 33, 3) := by decide +kernel
theorem dX7_peek_21 : decode cX7_peek 21 = .ok (.aload_n 0, 1) := by decide +kernel
theorem dX7_peek_22 : decode cX7_peek 22 = .ok (.getfield 40, 3) := by decide +kernel
theorem dX7_peek_25 : decode cX7_peek 25 = .ok (.aload_n 0, 1) := by decide +kernel
theorem dX7_peek_26 : decode cX7_peek 26 = .ok (.getfield 18, 3) := by decide +kernel
theorem dX7_peek_29 : decode cX7_peek 29 = .ok (.getfield 73, 3) := by decide +kernel
theorem dX7_peek_32 : decode cX7_peek 32 = .ok (.arraylength, 1) := by decide +kernel
theorem dX7_peek_33 : decode cX7_peek 33 = .ok (.if_icmp .ge 18, 3) := by decide +kernel
theorem dX7_peek_36 : decode cX7_peek 36 = .ok (.aload_n 0, 1) := by decide +kernel
theorem dX7_peek_37 : decode cX7_peek 37 = .ok (.getfield 18, 3) := by decide +kernel
theorem dX7_peek_40 : decode cX7_peek 40 = .ok (.getfield 73, 3) := by decide +kernel
theorem dX7_peek_43 : decode cX7_peek 43 = .ok (.aload_n 0, 1) := by decide +kernel
theorem dX7_peek_44 : decode cX7_peek 44 = .ok (.getfield 40, 3) := by decide +kernel
theorem dX7_peek_47 : decode cX7_peek 47 = .ok (.iaload, 1) := by decide +kernel
theorem dX7_peek_48 : decode cX7_peek 48 = .ok (.goto 4, 3) := by decide +kernel
theorem dX7_peek_51 : decode cX7_peek 51 = .ok (.iconst (-1), 1) := by decide +kernel
theorem dX7_peek_52 : decode cX7_peek 52 = .ok (.ireturn, 1) := by decide +kernel
theorem dX7_refuse_0 : decode cX7_refuse 0 = .ok (.aload_n 0, 1) := by decide +kernel
theorem dX7_refuse_1 : decode cX7_refuse 1 = .ok (.getfield 15, 3) := by decide +kernel
theorem dX7_refuse_4 : decode cX7_refuse 4 = .ok (.ifCond .ge 11, 3) := by decide +kernel
theorem dX7_refuse_7 : decode cX7_refuse 7 = .ok (.aload_n 0, 1) := by decide +kernel
theorem dX7_refuse_8 : decode cX7_refuse 8 = .ok (.aload_n 0, 1) := by decide +kernel
theorem dX7_refuse_9 : decode cX7_refuse 9 = .ok (.getfield 40, 3) := by decide +kernel
theorem dX7_refuse_12 : decode cX7_refuse 12 = .ok (.putfield 15, 3) := by decide +kernel
theorem dX7_refuse_15 : decode cX7_refuse 15 = .ok (.return_, 1) := by decide +kernel
theorem dX7_expect_0 : decode cX7_expect 0 = .ok (.aload_n 0, 1) := by decide +kernel
theorem dX7_expect_1 : decode cX7_expect 1 = .ok (.invokevirtual 77, 3) := by decide +kernel
theorem dX7_expect_4 : decode cX7_expect 4 = .ok (.iload_n 1, 1) := by decide +kernel
theorem dX7_expect_5 : decode cX7_expect 5 = .ok (.if_icmp .ne 16, 3) := by decide +kernel
theorem dX7_expect_8 : decode cX7_expect 8 = .ok (.aload_n 0, 1) := by decide +kernel
theorem dX7_expect_9 : decode cX7_expect 9 = .ok (.aload_n 0, 1) := by decide +kernel
theorem dX7_expect_10 : decode cX7_expect 10 = .ok (.getfield 40, 3) := by decide +kernel
theorem dX7_expect_13 : decode cX7_expect 13 = .ok (.iconst 1, 1) := by decide +kernel
theorem dX7_expect_14 : decode cX7_expect 14 = .ok (.iadd, 1) := by decide +kernel
theorem dX7_expect_15 : decode cX7_expect 15 = .ok (.putfield 40, 3) := by decide +kernel
theorem dX7_expect_18 : decode cX7_expect 18 = .ok (.goto 7, 3) := by decide +kernel
theorem dX7_expect_21 : decode cX7_expect 21 = .ok (.aload_n 0, 1) := by decide +kernel
theorem dX7_expect_22 : decode cX7_expect 22 = .ok (.invokevirtual 70, 3) := by decide +kernel
theorem dX7_expect_25 : decode cX7_expect 25 = .ok (.return_, 1) := by decide +kernel
theorem dX7_readOneOf_0 : decode cX7_readOneOf 0 = .ok (.aload_n 0, 1) := by decide +kernel
theorem dX7_readOneOf_1 : decode cX7_readOneOf 1 = .ok (.invokevirtual 77, 3) := by decide +kernel
theorem dX7_readOneOf_4 : decode cX7_readOneOf 4 = .ok (.iload_n 1, 1) := by decide +kernel
theorem dX7_readOneOf_5 : decode cX7_readOneOf 5 = .ok (.isub, 1) := by decide +kernel
theorem dX7_readOneOf_6 : decode cX7_readOneOf 6 = .ok (.istore_n 3, 1) := by decide +kernel
theorem dX7_readOneOf_7 : decode cX7_readOneOf 7 = .ok (.iload_n 3, 1) := by decide +kernel
theorem dX7_readOneOf_8 : decode cX7_readOneOf 8 = .ok (.iload_n 2, 1) := by decide +kernel
theorem dX7_readOneOf_9 : decode cX7_readOneOf 9 = .ok (.invokestatic 81, 3) := by decide +kernel
theorem dX7_readOneOf_12 : decode cX7_readOneOf 12 = .ok (.ifCond .ne 9, 3) := by decide +kernel
theorem dX7_readOneOf_15 : decode cX7_readOneOf 15 = .ok (.aload_n 0, 1) := by decide +kernel
theorem dX7_readOneOf_16 : decode cX7_readOneOf 16 = .ok (.invokevirtual 70, 3) := by decide +kernel
theorem dX7_readOneOf_19 : decode cX7_readOneOf 19 = .ok (.iconst 0, 1) := by decide +kernel
theorem dX7_readOneOf_20 : decode cX7_readOneOf 20 = .ok (.ireturn, 1) := by decide +kernel
theorem dX7_readOneOf_21 : decode cX7_readOneOf 21 = .ok (.aload_n 0, 1) := by decide +kernel
theorem dX7_readOneOf_22 : decode cX7_readOneOf 22 = .ok (.aload_n 0, 1) := by decide +kernel
theorem dX7_readOneOf_23 : decode cX7_readOneOf 23 = .ok (.getfield 40, 3) := by decide +kernel
theorem dX7_readOneOf_26 : decode cX7_readOneOf 26 = .ok (.iconst 1, 1) := by decide +kernel
theorem dX7_readOneOf_27 : decode cX7_readOneOf 27 = .ok (.iadd, 1) := by decide +kernel
theorem dX7_readOneOf_28 : decode cX7_readOneOf 28 = .ok (.putfield 40, 3) := by decide +kernel
theorem dX7_readOneOf_31 : decode cX7_readOneOf 31 = .ok (.iload_n 3, 1) := by decide +kernel
theorem dX7_readOneOf_32 : decode cX7_readOneOf 32 = .ok (.ireturn, 1) := by decide +kernel
theorem dX7_readVariable_0 : decode cX7_readVariable 0 = .ok (.aload_n 0, 1) := by decide +kernel
theorem dX7_readVariable_1 : decode cX7_readVariable 1 = .ok (.bipush 97, 2) := by decide +kernel
theorem dX7_readVariable_3 : decode cX7_readVariable 3 = .ok (.bipush 8, 2) := by decide +kernel
theorem dX7_readVariable_5 : decode cX7_readVariable 5 = .ok (.invokevirtual 45, 3) := by decide +kernel
theorem dX7_readVariable_8 : decode cX7_readVariable 8 = .ok (.istore_n 1, 1) := by decide +kernel
theorem dX7_readVariable_9 : decode cX7_readVariable 9 = .ok (.aload_n 0, 1) := by decide +kernel
theorem dX7_readVariable_10 : decode cX7_readVariable 10 = .ok (.getfield 32, 3) := by decide +kernel
theorem dX7_readVariable_13 : decode cX7_readVariable 13 = .ok (.aload_n 0, 1) := by decide +kernel
theorem dX7_readVariable_14 : decode cX7_readVariable 14 = .ok (.getfield 32, 3) := by decide +kernel
theorem dX7_readVariable_17 : decode cX7_readVariable 17 = .ok (.getfield 85, 3) := by decide +kernel
theorem dX7_readVariable_20 : decode cX7_readVariable 20 = .ok (.iconst 1, 1) := by decide +kernel
theorem dX7_readVariable_21 : decode cX7_readVariable 21 = .ok (.iload_n 1, 1) := by decide +kernel
theorem dX7_readVariable_22 : decode cX7_readVariable 22 = .ok (.ishl, 1) := by decide +kernel
theorem dX7_readVariable_23 : decode cX7_readVariable 23 = .ok (.ior, 1) := by decide +kernel
theorem dX7_readVariable_24 : decode cX7_readVariable 24 = .ok (.putfield 85, 3) := by decide +kernel
theorem dX7_readVariable_27 : decode cX7_readVariable 27 = .ok (.iload_n 1, 1) := by decide +kernel
theorem dX7_readVariable_28 : decode cX7_readVariable 28 = .ok (.ireturn, 1) := by decide +kernel
theorem dX7_readFigures_0 : decode cX7_readFigures 0 = .ok (.iconst 0, 1) := by decide +kernel
theorem dX7_readFigures_1 : decode cX7_readFigures 1 = .ok (.istore_n 1, 1) := by decide +kernel
theorem dX7_readFigures_2 : decode cX7_readFigures 2 = .ok (.aload_n 0, 1) := by decide +kernel
theorem dX7_readFigures_3 : decode cX7_readFigures 3 = .ok (.getfield 40, 3) := by decide +kernel
theorem dX7_readFigures_6 : decode cX7_readFigures 6 = .ok (.istore_n 2, 1) := by decide +kernel
theorem dX7_readFigures_7 : decode cX7_readFigures 7 = .ok (.iconst 0, 1) := by decide +kernel
theorem dX7_readFigures_8 : decode cX7_readFigures 8 = .ok (.istore_n 3, 1) := by decide +kernel
theorem dX7_readFigures_9 : decode cX7_readFigures 9 = .ok (.iload_n 3, 1) := by decide +kernel
theorem dX7_readFigures_10 : decode cX7_readFigures 10 = .ok (.iconst 5, 1) := by decide +kernel
theorem dX7_readFigures_11 : decode cX7_readFigures 11 = .ok (.if_icmp .ge 42, 3) := by decide +kernel
theorem dX7_readFigures_14 : decode cX7_readFigures 14 = .ok (.aload_n 0, 1) := by decide +kernel
theorem dX7_readFigures_15 : decode cX7_readFigures 15 = .ok (.invokevirtual 77, 3) := by decide +kernel
theorem dX7_readFigures_18 : decode cX7_readFigures 18 = .ok (.invokestatic 88, 3) := by decide +kernel
theorem dX7_readFigures_21 : decode cX7_readFigures 21 = .ok (.ifCond .eq 32, 3) := by decide +kernel
theorem dX7_readFigures_24 : decode cX7_readFigures 24 = .ok (.iload_n 1, 1) := by decide +kernel
theorem dX7_readFigures_25 : decode cX7_readFigures 25 = .ok (.bipush 10, 2) := by decide +kernel
theorem dX7_readFigures_27 : decode cX7_readFigures 27 = .ok (.imul, 1) := by decide +kernel
theorem dX7_readFigures_28 : decode cX7_readFigures 28 = .ok (.aload_n 0, 1) := by decide +kernel
theorem dX7_readFigures_29 : decode cX7_readFigures 29 = .ok (.invokevirtual 77, 3) := by decide +kernel
theorem dX7_readFigures_32 : decode cX7_readFigures 32 = .ok (.iadd, 1) := by decide +kernel
theorem dX7_readFigures_33 : decode cX7_readFigures 33 = .ok (.bipush 48, 2) := by decide +kernel
theorem dX7_readFigures_35 : decode cX7_readFigures 35 = .ok (.isub, 1) := by decide +kernel
theorem dX7_readFigures_36 : decode cX7_readFigures 36 = .ok (.istore_n 1, 1) := by decide +kernel
theorem dX7_readFigures_37 : decode cX7_readFigures 37 = .ok (.aload_n 0, 1) := by decide +kernel
theorem dX7_readFigures_38 : decode cX7_readFigures 38 = .ok (.aload_n 0, 1) := by decide +kernel
theorem dX7_readFigures_39 : decode cX7_readFigures 39 = .ok (.getfield 40, 3) := by decide +kernel
theorem dX7_readFigures_42 : decode cX7_readFigures 42 = .ok (.iconst 1, 1) := by decide +kernel
theorem dX7_readFigures_43 : decode cX7_readFigures 43 = .ok (.iadd, 1) := by decide +kernel
theorem dX7_readFigures_44 : decode cX7_readFigures 44 = .ok (.putfield 40, 3) := by decide +kernel
theorem dX7_readFigures_47 : decode cX7_readFigures 47 = .ok (.iinc 3 1, 3) := by decide +kernel
theorem dX7_readFigures_50 : decode cX7_readFigures 50 = .ok (.goto (-41), 3) := by decide +kernel
theorem dX7_readFigures_53 : decode cX7_readFigures 53 = .ok (.aload_n 0, 1) := by decide +kernel
theorem dX7_readFigures_54 : decode cX7_readFigures 54 = .ok (.getfield 40, 3) := by decide +kernel
theorem dX7_readFigures_57 : decode cX7_readFigures 57 = .ok (.iload_n 2, 1) := by decide +kernel
theorem dX7_readFigures_58 : decode cX7_readFigures 58 = .ok (.if_icmp .ne 7, 3) := by decide +kernel
theorem dX7_readFigures_61 : decode cX7_readFigures 61 = .ok (.aload_n 0, 1) := by decide +kernel
theorem dX7_readFigures_62 : decode cX7_readFigures 62 = .ok (.invokevirtual 70, 3) := by decide +kernel
theorem dX7_readFigures_65 : decode cX7_readFigures 65 = .ok (.iload_n 1, 1) := by decide +kernel
theorem dX7_readFigures_66 : decode cX7_readFigures 66 = .ok (.ireturn, 1) := by decide +kernel
theorem dX7_readAll_0 : decode cX7_readAll 0 = .ok (.aconst_null, 1) := by decide +kernel
theorem dX7_readAll_1 : decode cX7_readAll 1 = .ok (.astore 4, 2) := by decide +kernel
theorem dX7_readAll_3 : decode cX7_readAll 3 = .ok (.aconst_null, 1) := by decide +kernel
theorem dX7_readAll_4 : decode cX7_readAll 4 = .ok (.astore 5, 2) := by decide +kernel
theorem dX7_readAll_6 : decode cX7_readAll 6 = .ok (.aload_n 0, 1) := by decide +kernel
theorem dX7_readAll_7 : decode cX7_readAll 7 = .ok (.iconst 0, 1) := by decide +kernel
theorem dX7_readAll_8 : decode cX7_readAll 8 = .ok (.putfield 92, 3) := by decide +kernel
theorem dX7_readAll_11 : decode cX7_readAll 11 = .ok (.iconst 0, 1) := by decide +kernel
theorem dX7_readAll_12 : decode cX7_readAll 12 = .ok (.istore 6, 2) := by decide +kernel
theorem dX7_readAll_14 : decode cX7_readAll 14 = .ok (.iload 6, 2) := by decide +kernel
theorem dX7_readAll_16 : decode cX7_readAll 16 = .ok (.sipush 160, 3) := by decide +kernel
theorem dX7_readAll_19 : decode cX7_readAll 19 = .ok (.if_icmp .gt 106, 3) := by decide +kernel
theorem dX7_readAll_22 : decode cX7_readAll 22 = .ok (.aload_n 0, 1) := by decide +kernel
theorem dX7_readAll_23 : decode cX7_readAll 23 = .ok (.getfield 15, 3) := by decide +kernel
theorem dX7_readAll_26 : decode cX7_readAll 26 = .ok (.ifCond .ge 99, 3) := by decide +kernel
theorem dX7_readAll_29 : decode cX7_readAll 29 = .ok (.aload_n 0, 1) := by decide +kernel
theorem dX7_readAll_30 : decode cX7_readAll 30 = .ok (.getfield 40, 3) := by decide +kernel
theorem dX7_readAll_33 : decode cX7_readAll 33 = .ok (.aload_n 0, 1) := by decide +kernel
theorem dX7_readAll_34 : decode cX7_readAll 34 = .ok (.getfield 18, 3) := by decide +kernel
theorem dX7_readAll_37 : decode cX7_readAll 37 = .ok (.getfield 24, 3) := by decide +kernel
theorem dX7_readAll_40 : decode cX7_readAll 40 = .ok (.if_icmp .lt 14, 3) := by decide +kernel
theorem dX7_readAll_43 : decode cX7_readAll 43 = .ok (.iload_n 1, 1) := by decide +kernel
theorem dX7_readAll_44 : decode cX7_readAll 44 = .ok (.ifCond .le 7, 3) := by decide +kernel
theorem dX7_readAll_47 : decode cX7_readAll 47 = .ok (.aload_n 0, 1) := by decide +kernel
theorem dX7_readAll_48 : decode cX7_readAll 48 = .ok (.invokevirtual 70, 3) := by decide +kernel
theorem dX7_readAll_51 : decode cX7_readAll 51 = .ok (.aload 4, 2) := by decide +kernel
theorem dX7_readAll_53 : decode cX7_readAll 53 = .ok (.areturn, 1) := by decide +kernel
theorem dX7_readAll_54 : decode cX7_readAll 54 = .ok (.aload_n 0, 1) := by decide +kernel
theorem dX7_readAll_55 : decode cX7_readAll 55 = .ok (.invokevirtual 77, 3) := by decide +kernel
theorem dX7_readAll_58 : decode cX7_readAll 58 = .ok (.bipush 123, 2) := by decide +kernel
theorem dX7_readAll_60 : decode cX7_readAll 60 = .ok (.if_icmp .ne 28, 3) := by decide +kernel
theorem dX7_readAll_63 : decode cX7_readAll 63 = .ok (.aload_n 0, 1) := by decide +kernel
theorem dX7_readAll_64 : decode cX7_readAll 64 = .ok (.aload_n 0, 1) := by decide +kernel
theorem dX7_readAll_65 : decode cX7_readAll 65 = .ok (.getfield 18, 3) := by decide +kernel
theorem dX7_readAll_68 : decode cX7_readAll 68 = .ok (.aload_n 0, 1) := by decide +kernel
theorem dX7_readAll_69 : decode cX7_readAll 69 = .ok (.getfield 40, 3) := by decide +kernel
theorem dX7_readAll_72 : decode cX7_readAll 72 = .ok (.iconst 1, 1) := by decide +kernel
theorem dX7_readAll_73 : decode cX7_readAll 73 = .ok (.iadd, 1) := by decide +kernel
theorem dX7_readAll_74 : decode cX7_readAll 74 = .ok (.invokevirtual 36, 3) := by decide +kernel
theorem dX7_readAll_77 : decode cX7_readAll 77 = .ok (.iload_n 1, 1) := by decide +kernel
theorem dX7_readAll_78 : decode cX7_readAll 78 = .ok (.iload_n 3, 1) := by decide +kernel
theorem dX7_readAll_79 : decode cX7_readAll 79 = .ok (.invokevirtual 96, 3) := by decide +kernel
theorem dX7_readAll_82 : decode cX7_readAll 82 = .ok (.ifCond .eq 6, 3) := by decide +kernel
theorem dX7_readAll_85 : decode cX7_readAll 85 = .ok (.aload 4, 2) := by decide +kernel
theorem dX7_readAll_87 : decode cX7_readAll 87 = .ok (.areturn, 1) := by decide +kernel
theorem dX7_readAll_88 : decode cX7_readAll 88 = .ok (.aload_n 0, 1) := by decide +kernel
theorem dX7_readAll_89 : decode cX7_readAll 89 = .ok (.iload_n 1, 1) := by decide +kernel
theorem dX7_readAll_90 : decode cX7_readAll 90 = .ok (.iload_n 2, 1) := by decide +kernel
theorem dX7_readAll_91 : decode cX7_readAll 91 = .ok (.invokevirtual 100, 3) := by decide +kernel
theorem dX7_readAll_94 : decode cX7_readAll 94 = .ok (.astore 7, 2) := by decide +kernel
theorem dX7_readAll_96 : decode cX7_readAll 96 = .ok (.aload 5, 2) := by decide +kernel
theorem dX7_readAll_98 : decode cX7_readAll 98 = .ok (.ifnonnull 10, 3) := by decide +kernel
theorem dX7_readAll_101 : decode cX7_readAll 101 = .ok (.aload 7, 2) := by decide +kernel
theorem dX7_readAll_103 : decode cX7_readAll 103 = .ok (.astore 4, 2) := by decide +kernel
theorem dX7_readAll_105 : decode cX7_readAll 105 = .ok (.goto 10, 3) := by decide +kernel
theorem dX7_readAll_108 : decode cX7_readAll 108 = .ok (.aload 5, 2) := by decide +kernel
theorem dX7_readAll_110 : decode cX7_readAll 110 = .ok (.aload 7, 2) := by decide +kernel
theorem dX7_readAll_112 : decode cX7_readAll 112 = .ok (.putfield 104, 3) := by decide +kernel
theorem dX7_readAll_115 : decode cX7_readAll 115 = .ok (.aload 7, 2) := by decide +kernel
theorem dX7_readAll_117 : decode cX7_readAll 117 = .ok (.astore 5, 2) := by decide +kernel
theorem dX7_readAll_119 : decode cX7_readAll 119 = .ok (.iinc 6 1, 3) := by decide +kernel
theorem dX7_readAll_122 : decode cX7_readAll 122 = .ok (.goto (-108), 3) := by decide +kernel
theorem dX7_readAll_125 : decode cX7_readAll 125 = .ok (.aload 4, 2) := by decide +kernel
theorem dX7_readAll_127 : decode cX7_readAll 127 = .ok (.areturn, 1) := by decide +kernel
theorem dX7_endsHere_0 : decode cX7_endsHere 0 = .ok (.iload_n 1, 1) := by decide +kernel
theorem dX7_endsHere_1 : decode cX7_endsHere 1 = .ok (.bipush 47, 2) := by decide +kernel
theorem dX7_endsHere_3 : decode cX7_endsHere 3 = .ok (.if_icmp .ne 11, 3) := by decide +kernel
theorem dX7_endsHere_6 : decode cX7_endsHere 6 = .ok (.iload_n 2, 1) := by decide +kernel
theorem dX7_endsHere_7 : decode cX7_endsHere 7 = .ok (.ifCond .le 7, 3) := by decide +kernel
theorem dX7_endsHere_10 : decode cX7_endsHere 10 = .ok (.iconst 1, 1) := by decide +kernel
theorem dX7_endsHere_11 : decode cX7_endsHere 11 = .ok (.goto 4, 3) := by decide +kernel
theorem dX7_endsHere_14 : decode cX7_endsHere 14 = .ok (.iconst 0, 1) := by decide +kernel
theorem dX7_endsHere_15 : decode cX7_endsHere 15 = .ok (.istore 4, 2) := by decide +kernel
theorem dX7_endsHere_17 : decode cX7_endsHere 17 = .ok (.iload_n 1, 1) := by decide +kernel
theorem dX7_endsHere_18 : decode cX7_endsHere 18 = .ok (.bipush 58, 2) := by decide +kernel
theorem dX7_endsHere_20 : decode cX7_endsHere 20 = .ok (.if_icmp .ne 11, 3) := by decide +kernel
theorem dX7_endsHere_23 : decode cX7_endsHere 23 = .ok (.iload_n 3, 1) := by decide +kernel
theorem dX7_endsHere_24 : decode cX7_endsHere 24 = .ok (.ifCond .eq 7, 3) := by decide +kernel
theorem dX7_endsHere_27 : decode cX7_endsHere 27 = .ok (.iconst 1, 1) := by decide +kernel
theorem dX7_endsHere_28 : decode cX7_endsHere 28 = .ok (.goto 4, 3) := by decide +kernel
theorem dX7_endsHere_31 : decode cX7_endsHere 31 = .ok (.iconst 0, 1) := by decide +kernel
theorem dX7_endsHere_32 : decode cX7_endsHere 32 = .ok (.istore 5, 2) := by decide +kernel
theorem dX7_endsHere_34 : decode cX7_endsHere 34 = .ok (.iload 4, 2) := by decide +kernel
theorem dX7_endsHere_36 : decode cX7_endsHere 36 = .ok (.ifCond .ne 10, 3) := by decide +kernel
theorem dX7_endsHere_39 : decode cX7_endsHere 39 = .ok (.iload 5, 2) := by decide +kernel
theorem dX7_endsHere_41 : decode cX7_endsHere 41 = .ok (.ifCond .ne 5, 3) := by decide +kernel
theorem dX7_endsHere_44 : decode cX7_endsHere 44 = .ok (.iconst 0, 1) := by decide +kernel
theorem dX7_endsHere_45 : decode cX7_endsHere 45 = .ok (.ireturn, 1) := by decide +kernel
theorem dX7_endsHere_46 : decode cX7_endsHere 46 = .ok (.aload_n 0, 1) := by decide +kernel
theorem dX7_endsHere_47 : decode cX7_endsHere 47 = .ok (.aload_n 0, 1) := by decide +kernel
theorem dX7_endsHere_48 : decode cX7_endsHere 48 = .ok (.getfield 40, 3) := by decide +kernel
theorem dX7_endsHere_51 : decode cX7_endsHere 51 = .ok (.iconst 2, 1) := by decide +kernel
theorem dX7_endsHere_52 : decode cX7_endsHere 52 = .ok (.iadd, 1) := by decide +kernel
theorem dX7_endsHere_53 : decode cX7_endsHere 53 = .ok (.putfield 40, 3) := by decide +kernel
theorem dX7_endsHere_56 : decode cX7_endsHere 56 = .ok (.aload_n 0, 1) := by decide +kernel
theorem dX7_endsHere_57 : decode cX7_endsHere 57 = .ok (.bipush 125, 2) := by decide +kernel
theorem dX7_endsHere_59 : decode cX7_endsHere 59 = .ok (.invokevirtual 52, 3) := by decide +kernel
theorem dX7_endsHere_62 : decode cX7_endsHere 62 = .ok (.aload_n 0, 1) := by decide +kernel
theorem dX7_endsHere_63 : decode cX7_endsHere 63 = .ok (.iload 5, 2) := by decide +kernel
theorem dX7_endsHere_65 : decode cX7_endsHere 65 = .ok (.putfield 92, 3) := by decide +kernel
theorem dX7_endsHere_68 : decode cX7_endsHere 68 = .ok (.iconst 1, 1) := by decide +kernel
theorem dX7_endsHere_69 : decode cX7_endsHere 69 = .ok (.ireturn, 1) := by decide +kernel
theorem dX7_readPiece_0 : decode cX7_readPiece 0 = .ok (.aload_n 0, 1) := by decide +kernel
theorem dX7_readPiece_1 : decode cX7_readPiece 1 = .ok (.invokevirtual 77, 3) := by decide +kernel
theorem dX7_readPiece_4 : decode cX7_readPiece 4 = .ok (.bipush 123, 2) := by decide +kernel
theorem dX7_readPiece_6 : decode cX7_readPiece 6 = .ok (.if_icmp .eq 8, 3) := by decide +kernel
theorem dX7_readPiece_9 : decode cX7_readPiece 9 = .ok (.aload_n 0, 1) := by decide +kernel
theorem dX7_readPiece_10 : decode cX7_readPiece 10 = .ok (.invokevirtual 109, 3) := by decide +kernel
theorem dX7_readPiece_13 : decode cX7_readPiece 13 = .ok (.areturn, 1) := by decide +kernel
theorem dX7_readPiece_14 : decode cX7_readPiece 14 = .ok (.aload_n 0, 1) := by decide +kernel
theorem dX7_readPiece_15 : decode cX7_readPiece 15 = .ok (.aload_n 0, 1) := by decide +kernel
theorem dX7_readPiece_16 : decode cX7_readPiece 16 = .ok (.getfield 40, 3) := by decide +kernel
theorem dX7_readPiece_19 : decode cX7_readPiece 19 = .ok (.iconst 1, 1) := by decide +kernel
theorem dX7_readPiece_20 : decode cX7_readPiece 20 = .ok (.iadd, 1) := by decide +kernel
theorem dX7_readPiece_21 : decode cX7_readPiece 21 = .ok (.putfield 40, 3) := by decide +kernel
theorem dX7_readPiece_24 : decode cX7_readPiece 24 = .ok (.aload_n 0, 1) := by decide +kernel
theorem dX7_readPiece_25 : decode cX7_readPiece 25 = .ok (.getfield 32, 3) := by decide +kernel
theorem dX7_readPiece_28 : decode cX7_readPiece 28 = .ok (.aload_n 0, 1) := by decide +kernel
theorem dX7_readPiece_29 : decode cX7_readPiece 29 = .ok (.getfield 32, 3) := by decide +kernel
theorem dX7_readPiece_32 : decode cX7_readPiece 32 = .ok (.getfield 42, 3) := by decide +kernel
theorem dX7_readPiece_35 : decode cX7_readPiece 35 = .ok (.iconst 1, 1) := by decide +kernel
theorem dX7_readPiece_36 : decode cX7_readPiece 36 = .ok (.iadd, 1) := by decide +kernel
theorem dX7_readPiece_37 : decode cX7_readPiece 37 = .ok (.putfield 42, 3) := by decide +kernel
theorem dX7_readPiece_40 : decode cX7_readPiece 40 = .ok (.aload_n 0, 1) := by decide +kernel
theorem dX7_readPiece_41 : decode cX7_readPiece 41 = .ok (.invokevirtual 77, 3) := by decide +kernel
theorem dX7_readPiece_44 : decode cX7_readPiece 44 = .ok (.lookupswitch 96 #[(42, 67), (61, 74), (62, 86), (63, 60), (64, 91), (94, 80)], 60) := by decide +kernel
theorem dX7_readPiece_104 : decode cX7_readPiece 104 = .ok (.aload_n 0, 1) := by decide +kernel
theorem dX7_readPiece_105 : decode cX7_readPiece 105 = .ok (.iload_n 1, 1) := by decide +kernel
theorem dX7_readPiece_106 : decode cX7_readPiece 106 = .ok (.iload_n 2, 1) := by decide +kernel
theorem dX7_readPiece_107 : decode cX7_readPiece 107 = .ok (.invokevirtual 113, 3) := by decide +kernel
theorem dX7_readPiece_110 : decode cX7_readPiece 110 = .ok (.areturn, 1) := by decide +kernel
theorem dX7_readPiece_111 : decode cX7_readPiece 111 = .ok (.aload_n 0, 1) := by decide +kernel
theorem dX7_readPiece_112 : decode cX7_readPiece 112 = .ok (.iload_n 1, 1) := by decide +kernel
theorem dX7_readPiece_113 : decode cX7_readPiece 113 = .ok (.iload_n 2, 1) := by decide +kernel
theorem dX7_readPiece_114 : decode cX7_readPiece 114 = .ok (.invokevirtual 116, 3) := by decide +kernel
theorem dX7_readPiece_117 : decode cX7_readPiece 117 = .ok (.areturn, 1) := by decide +kernel
theorem dX7_readPiece_118 : decode cX7_readPiece 118 = .ok (.aload_n 0, 1) := by decide +kernel
theorem dX7_readPiece_119 : decode cX7_readPiece 119 = .ok (.iload_n 1, 1) := by decide +kernel
theorem dX7_readPiece_120 : decode cX7_readPiece 120 = .ok (.invokevirtual 119, 3) := by decide +kernel
theorem dX7_readPiece_123 : decode cX7_readPiece 123 = .ok (.areturn, 1) := by decide +kernel
theorem dX7_readPiece_124 : decode cX7_readPiece 124 = .ok (.aload_n 0, 1) := by decide +kernel
theorem dX7_readPiece_125 : decode cX7_readPiece 125 = .ok (.iload_n 2, 1) := by decide +kernel
theorem dX7_readPiece_126 : decode cX7_readPiece 126 = .ok (.invokevirtual 123, 3) := by decide +kernel
theorem dX7_readPiece_129 : decode cX7_readPiece 129 = .ok (.areturn, 1) := by decide +kernel
theorem dX7_readPiece_130 : decode cX7_readPiece 130 = .ok (.aload_n 0, 1) := by decide +kernel
theorem dX7_readPiece_131 : decode cX7_readPiece 131 = .ok (.invokevirtual 127, 3) := by decide +kernel
theorem dX7_readPiece_134 : decode cX7_readPiece 134 = .ok (.areturn, 1) := by decide +kernel
theorem dX7_readPiece_135 : decode cX7_readPiece 135 = .ok (.aload_n 0, 1) := by decide +kernel
theorem dX7_readPiece_136 : decode cX7_readPiece 136 = .ok (.invokevirtual 130, 3) := by decide +kernel
theorem dX7_readPiece_139 : decode cX7_readPiece 139 = .ok (.areturn, 1) := by decide +kernel
theorem dX7_readPiece_140 : decode cX7_readPiece 140 = .ok (.aload_n 0, 1) := by decide +kernel
theorem dX7_readPiece_141 : decode cX7_readPiece 141 = .ok (.invokevirtual 133, 3) := by decide +kernel
theorem dX7_readPiece_144 : decode cX7_readPiece 144 = .ok (.areturn, 1) := by decide +kernel
theorem dX7_readShow_0 : decode cX7_readShow 0 = .ok (.new 105, 3) := by decide +kernel
theorem dX7_readShow_3 : decode cX7_readShow 3 = .ok (.dup, 1) := by decide +kernel
theorem dX7_readShow_4 : decode cX7_readShow 4 = .ok (.iconst 1, 1) := by decide +kernel
theorem dX7_readShow_5 : decode cX7_readShow 5 = .ok (.aload_n 0, 1) := by decide +kernel
theorem dX7_readShow_6 : decode cX7_readShow 6 = .ok (.getfield 9, 3) := by decide +kernel
theorem dX7_readShow_9 : decode cX7_readShow 9 = .ok (.invokespecial 136, 3) := by decide +kernel
theorem dX7_readShow_12 : decode cX7_readShow 12 = .ok (.astore_n 1, 1) := by decide +kernel
theorem dX7_readShow_13 : decode cX7_readShow 13 = .ok (.aload_n 1, 1) := by decide +kernel
theorem dX7_readShow_14 : decode cX7_readShow 14 = .ok (.aload_n 0, 1) := by decide +kernel
theorem dX7_readShow_15 : decode cX7_readShow 15 = .ok (.invokevirtual 139, 3) := by decide +kernel
theorem dX7_readShow_18 : decode cX7_readShow 18 = .ok (.putfield 143, 3) := by decide +kernel
theorem dX7_readShow_21 : decode cX7_readShow 21 = .ok (.aload_n 0, 1) := by decide +kernel
theorem dX7_readShow_22 : decode cX7_readShow 22 = .ok (.bipush 125, 2) := by decide +kernel
theorem dX7_readShow_24 : decode cX7_readShow 24 = .ok (.invokevirtual 52, 3) := by decide +kernel
theorem dX7_readShow_27 : decode cX7_readShow 27 = .ok (.aload_n 1, 1) := by decide +kernel
theorem dX7_readShow_28 : decode cX7_readShow 28 = .ok (.areturn, 1) := by decide +kernel
theorem dX7_readByte_0 : decode cX7_readByte 0 = .ok (.new 105, 3) := by decide +kernel
theorem dX7_readByte_3 : decode cX7_readByte 3 = .ok (.dup, 1) := by decide +kernel
theorem dX7_readByte_4 : decode cX7_readByte 4 = .ok (.iconst 0, 1) := by decide +kernel
theorem dX7_readByte_5 : decode cX7_readByte 5 = .ok (.aload_n 0, 1) := by decide +kernel
theorem dX7_readByte_6 : decode cX7_readByte 6 = .ok (.getfield 9, 3) := by decide +kernel
theorem dX7_readByte_9 : decode cX7_readByte 9 = .ok (.invokespecial 136, 3) := by decide +kernel
theorem dX7_readByte_12 : decode cX7_readByte 12 = .ok (.astore_n 1, 1) := by decide +kernel
theorem dX7_readByte_13 : decode cX7_readByte 13 = .ok (.aload_n 1, 1) := by decide +kernel
theorem dX7_readByte_14 : decode cX7_readByte 14 = .ok (.aload_n 0, 1) := by decide +kernel
theorem dX7_readByte_15 : decode cX7_readByte 15 = .ok (.invokevirtual 77, 3) := by decide +kernel
theorem dX7_readByte_18 : decode cX7_readByte 18 = .ok (.putfield 147, 3) := by decide +kernel
theorem dX7_readByte_21 : decode cX7_readByte 21 = .ok (.aload_n 0, 1) := by decide +kernel
theorem dX7_readByte_22 : decode cX7_readByte 22 = .ok (.invokevirtual 77, 3) := by decide +kernel
theorem dX7_readByte_25 : decode cX7_readByte 25 = .ok (.bipush 125, 2) := by decide +kernel
theorem dX7_readByte_27 : decode cX7_readByte 27 = .ok (.if_icmp .ne 7, 3) := by decide +kernel
theorem dX7_readByte_30 : decode cX7_readByte 30 = .ok (.aload_n 0, 1) := by decide +kernel
theorem dX7_readByte_31 : decode cX7_readByte 31 = .ok (.invokevirtual 70, 3) := by decide +kernel
theorem dX7_readByte_34 : decode cX7_readByte 34 = .ok (.aload_n 0, 1) := by decide +kernel
theorem dX7_readByte_35 : decode cX7_readByte 35 = .ok (.invokevirtual 77, 3) := by decide +kernel
theorem dX7_readByte_38 : decode cX7_readByte 38 = .ok (.bipush 10, 2) := by decide +kernel
theorem dX7_readByte_40 : decode cX7_readByte 40 = .ok (.if_icmp .ne 13, 3) := by decide +kernel
theorem dX7_readByte_43 : decode cX7_readByte 43 = .ok (.aload_n 0, 1) := by decide +kernel
theorem dX7_readByte_44 : decode cX7_readByte 44 = .ok (.aload_n 0, 1) := by decide +kernel
theorem dX7_readByte_45 : decode cX7_readByte 45 = .ok (.getfield 9, 3) := by decide +kernel
theorem dX7_readByte_48 : decode cX7_readByte 48 = .ok (.iconst 1, 1) := by decide +kernel
theorem dX7_readByte_49 : decode cX7_readByte 49 = .ok (.iadd, 1) := by decide +kernel
theorem dX7_readByte_50 : decode cX7_readByte 50 = .ok (.putfield 9, 3) := by decide +kernel
theorem dX7_readByte_53 : decode cX7_readByte 53 = .ok (.aload_n 0, 1) := by decide +kernel
theorem dX7_readByte_54 : decode cX7_readByte 54 = .ok (.aload_n 0, 1) := by decide +kernel
theorem dX7_readByte_55 : decode cX7_readByte 55 = .ok (.getfield 40, 3) := by decide +kernel
theorem dX7_readByte_58 : decode cX7_readByte 58 = .ok (.iconst 1, 1) := by decide +kernel
theorem dX7_readByte_59 : decode cX7_readByte 59 = .ok (.iadd, 1) := by decide +kernel
theorem dX7_readByte_60 : decode cX7_readByte 60 = .ok (.putfield 40, 3) := by decide +kernel
theorem dX7_readByte_63 : decode cX7_readByte 63 = .ok (.aload_n 1, 1) := by decide +kernel
theorem dX7_readByte_64 : decode cX7_readByte 64 = .ok (.areturn, 1) := by decide +kernel
theorem dX7_readNested_0 : decode cX7_readNested 0 = .ok (.iload_n 1, 1) := by decide +kernel
theorem dX7_readNested_1 : decode cX7_readNested 1 = .ok (.iconst 4, 1) := by decide +kernel
theorem dX7_readNested_2 : decode cX7_readNested 2 = .ok (.if_icmp .lt 7, 3) := by decide +kernel
theorem dX7_readNested_5 : decode cX7_readNested 5 = .ok (.aload_n 0, 1) := by decide +kernel
theorem dX7_readNested_6 : decode cX7_readNested 6 = .ok (.invokevirtual 70, 3) := by decide +kernel
theorem dX7_readNested_9 : decode cX7_readNested 9 = .ok (.aload_n 0, 1) := by decide +kernel
theorem dX7_readNested_10 : decode cX7_readNested 10 = .ok (.aload_n 0, 1) := by decide +kernel
theorem dX7_readNested_11 : decode cX7_readNested 11 = .ok (.getfield 40, 3) := by decide +kernel
theorem dX7_readNested_14 : decode cX7_readNested 14 = .ok (.iconst 1, 1) := by decide +kernel
theorem dX7_readNested_15 : decode cX7_readNested 15 = .ok (.iadd, 1) := by decide +kernel
theorem dX7_readNested_16 : decode cX7_readNested 16 = .ok (.putfield 40, 3) := by decide +kernel
theorem dX7_readNested_19 : decode cX7_readNested 19 = .ok (.return_, 1) := by decide +kernel
theorem dX7_readBranch_0 : decode cX7_readBranch 0 = .ok (.new 105, 3) := by decide +kernel
theorem dX7_readBranch_3 : decode cX7_readBranch 3 = .ok (.dup, 1) := by decide +kernel
theorem dX7_readBranch_4 : decode cX7_readBranch 4 = .ok (.iconst 2, 1) := by decide +kernel
theorem dX7_readBranch_5 : decode cX7_readBranch 5 = .ok (.aload_n 0, 1) := by decide +kernel
theorem dX7_readBranch_6 : decode cX7_readBranch 6 = .ok (.getfield 9, 3) := by decide +kernel
theorem dX7_readBranch_9 : decode cX7_readBranch 9 = .ok (.invokespecial 136, 3) := by decide +kernel
theorem dX7_readBranch_12 : decode cX7_readBranch 12 = .ok (.astore_n 3, 1) := by decide +kernel
theorem dX7_readBranch_13 : decode cX7_readBranch 13 = .ok (.aload_n 0, 1) := by decide +kernel
theorem dX7_readBranch_14 : decode cX7_readBranch 14 = .ok (.iload_n 1, 1) := by decide +kernel
theorem dX7_readBranch_15 : decode cX7_readBranch 15 = .ok (.invokevirtual 150, 3) := by decide +kernel
theorem dX7_readBranch_18 : decode cX7_readBranch 18 = .ok (.aload_n 0, 1) := by decide +kernel
theorem dX7_readBranch_19 : decode cX7_readBranch 19 = .ok (.invokevirtual 77, 3) := by decide +kernel
theorem dX7_readBranch_22 : decode cX7_readBranch 22 = .ok (.bipush 33, 2) := by decide +kernel
theorem dX7_readBranch_24 : decode cX7_readBranch 24 = .ok (.if_icmp .ne 18, 3) := by decide +kernel
theorem dX7_readBranch_27 : decode cX7_readBranch 27 = .ok (.aload_n 3, 1) := by decide +kernel
theorem dX7_readBranch_28 : decode cX7_readBranch 28 = .ok (.iconst 1, 1) := by decide +kernel
theorem dX7_readBranch_29 : decode cX7_readBranch 29 = .ok (.putfield 153, 3) := by decide +kernel
theorem dX7_readBranch_32 : decode cX7_readBranch 32 = .ok (.aload_n 0, 1) := by decide +kernel
theorem dX7_readBranch_33 : decode cX7_readBranch 33 = .ok (.aload_n 0, 1) := by decide +kernel
theorem dX7_readBranch_34 : decode cX7_readBranch 34 = .ok (.getfield 40, 3) := by decide +kernel
theorem dX7_readBranch_37 : decode cX7_readBranch 37 = .ok (.iconst 1, 1) := by decide +kernel
theorem dX7_readBranch_38 : decode cX7_readBranch 38 = .ok (.iadd, 1) := by decide +kernel
theorem dX7_readBranch_39 : decode cX7_readBranch 39 = .ok (.putfield 40, 3) := by decide +kernel
theorem dX7_readBranch_42 : decode cX7_readBranch 42 = .ok (.aload_n 3, 1) := by decide +kernel
theorem dX7_readBranch_43 : decode cX7_readBranch 43 = .ok (.aload_n 0, 1) := by decide +kernel
theorem dX7_readBranch_44 : decode cX7_readBranch 44 = .ok (.invokevirtual 139, 3) := by decide +kernel
theorem dX7_readBranch_47 : decode cX7_readBranch 47 = .ok (.putfield 143, 3) := by decide +kernel
theorem dX7_readBranch_50 : decode cX7_readBranch 50 = .ok (.aload_n 3, 1) := by decide +kernel
theorem dX7_readBranch_51 : decode cX7_readBranch 51 = .ok (.getfield 153, 3) := by decide +kernel
theorem dX7_readBranch_54 : decode cX7_readBranch 54 = .ok (.ifCond .ne 57, 3) := by decide +kernel
theorem dX7_readBranch_57 : decode cX7_readBranch 57 = .ok (.aload_n 0, 1) := by decide +kernel
theorem dX7_readBranch_58 : decode cX7_readBranch 58 = .ok (.invokevirtual 77, 3) := by decide +kernel
theorem dX7_readBranch_61 : decode cX7_readBranch 61 = .ok (.bipush 60, 2) := by decide +kernel
theorem dX7_readBranch_63 : decode cX7_readBranch 63 = .ok (.if_icmp .eq 12, 3) := by decide +kernel
theorem dX7_readBranch_66 : decode cX7_readBranch 66 = .ok (.aload_n 0, 1) := by decide +kernel
theorem dX7_readBranch_67 : decode cX7_readBranch 67 = .ok (.invokevirtual 77, 3) := by decide +kernel
theorem dX7_readBranch_70 : decode cX7_readBranch 70 = .ok (.bipush 61, 2) := by decide +kernel
theorem dX7_readBranch_72 : decode cX7_readBranch 72 = .ok (.if_icmp .ne 39, 3) := by decide +kernel
theorem dX7_readBranch_75 : decode cX7_readBranch 75 = .ok (.aload_n 3, 1) := by decide +kernel
theorem dX7_readBranch_76 : decode cX7_readBranch 76 = .ok (.aload_n 0, 1) := by decide +kernel
theorem dX7_readBranch_77 : decode cX7_readBranch 77 = .ok (.invokevirtual 77, 3) := by decide +kernel
theorem dX7_readBranch_80 : decode cX7_readBranch 80 = .ok (.bipush 60, 2) := by decide +kernel
theorem dX7_readBranch_82 : decode cX7_readBranch 82 = .ok (.if_icmp .ne 7, 3) := by decide +kernel
theorem dX7_readBranch_85 : decode cX7_readBranch 85 = .ok (.iconst 2, 1) := by decide +kernel
theorem dX7_readBranch_86 : decode cX7_readBranch 86 = .ok (.goto 4, 3) := by decide +kernel
theorem dX7_readBranch_89 : decode cX7_readBranch 89 = .ok (.iconst 3, 1) := by decide +kernel
theorem dX7_readBranch_90 : decode cX7_readBranch 90 = .ok (.putfield 153, 3) := by decide +kernel
theorem dX7_readBranch_93 : decode cX7_readBranch 93 = .ok (.aload_n 0, 1) := by decide +kernel
theorem dX7_readBranch_94 : decode cX7_readBranch 94 = .ok (.aload_n 0, 1) := by decide +kernel
theorem dX7_readBranch_95 : decode cX7_readBranch 95 = .ok (.getfield 40, 3) := by decide +kernel
theorem dX7_readBranch_98 : decode cX7_readBranch 98 = .ok (.iconst 1, 1) := by decide +kernel
theorem dX7_readBranch_99 : decode cX7_readBranch 99 = .ok (.iadd, 1) := by decide +kernel
theorem dX7_readBranch_100 : decode cX7_readBranch 100 = .ok (.putfield 40, 3) := by decide +kernel
theorem dX7_readBranch_103 : decode cX7_readBranch 103 = .ok (.aload_n 3, 1) := by decide +kernel
theorem dX7_readBranch_104 : decode cX7_readBranch 104 = .ok (.aload_n 0, 1) := by decide +kernel
theorem dX7_readBranch_105 : decode cX7_readBranch 105 = .ok (.invokevirtual 139, 3) := by decide +kernel
theorem dX7_readBranch_108 : decode cX7_readBranch 108 = .ok (.putfield 156, 3) := by decide +kernel
theorem dX7_readBranch_111 : decode cX7_readBranch 111 = .ok (.aload_n 0, 1) := by decide +kernel
theorem dX7_readBranch_112 : decode cX7_readBranch 112 = .ok (.bipush 125, 2) := by decide +kernel
theorem dX7_readBranch_114 : decode cX7_readBranch 114 = .ok (.invokevirtual 52, 3) := by decide +kernel
theorem dX7_readBranch_117 : decode cX7_readBranch 117 = .ok (.aload_n 0, 1) := by decide +kernel
theorem dX7_readBranch_118 : decode cX7_readBranch 118 = .ok (.aload_n 3, 1) := by decide +kernel
theorem dX7_readBranch_119 : decode cX7_readBranch 119 = .ok (.iload_n 1, 1) := by decide +kernel
theorem dX7_readBranch_120 : decode cX7_readBranch 120 = .ok (.iload_n 2, 1) := by decide +kernel
theorem dX7_readBranch_121 : decode cX7_readBranch 121 = .ok (.invokevirtual 159, 3) := by decide +kernel
theorem dX7_readBranch_124 : decode cX7_readBranch 124 = .ok (.aload_n 3, 1) := by decide +kernel
theorem dX7_readBranch_125 : decode cX7_readBranch 125 = .ok (.areturn, 1) := by decide +kernel
theorem dX7_readLoop_0 : decode cX7_readLoop 0 = .ok (.new 105, 3) := by decide +kernel
theorem dX7_readLoop_3 : decode cX7_readLoop 3 = .ok (.dup, 1) := by decide +kernel
theorem dX7_readLoop_4 : decode cX7_readLoop 4 = .ok (.iconst 3, 1) := by decide +kernel
theorem dX7_readLoop_5 : decode cX7_readLoop 5 = .ok (.aload_n 0, 1) := by decide +kernel
theorem dX7_readLoop_6 : decode cX7_readLoop 6 = .ok (.getfield 9, 3) := by decide +kernel
theorem dX7_readLoop_9 : decode cX7_readLoop 9 = .ok (.invokespecial 136, 3) := by decide +kernel
theorem dX7_readLoop_12 : decode cX7_readLoop 12 = .ok (.astore_n 3, 1) := by decide +kernel
theorem dX7_readLoop_13 : decode cX7_readLoop 13 = .ok (.aload_n 0, 1) := by decide +kernel
theorem dX7_readLoop_14 : decode cX7_readLoop 14 = .ok (.iload_n 1, 1) := by decide +kernel
theorem dX7_readLoop_15 : decode cX7_readLoop 15 = .ok (.invokevirtual 150, 3) := by decide +kernel
theorem dX7_readLoop_18 : decode cX7_readLoop 18 = .ok (.aload_n 3, 1) := by decide +kernel
theorem dX7_readLoop_19 : decode cX7_readLoop 19 = .ok (.aload_n 0, 1) := by decide +kernel
theorem dX7_readLoop_20 : decode cX7_readLoop 20 = .ok (.invokevirtual 163, 3) := by decide +kernel
theorem dX7_readLoop_23 : decode cX7_readLoop 23 = .ok (.putfield 147, 3) := by decide +kernel
theorem dX7_readLoop_26 : decode cX7_readLoop 26 = .ok (.aload_n 0, 1) := by decide +kernel
theorem dX7_readLoop_27 : decode cX7_readLoop 27 = .ok (.bipush 32, 2) := by decide +kernel
theorem dX7_readLoop_29 : decode cX7_readLoop 29 = .ok (.invokevirtual 52, 3) := by decide +kernel
theorem dX7_readLoop_32 : decode cX7_readLoop 32 = .ok (.aload_n 3, 1) := by decide +kernel
theorem dX7_readLoop_33 : decode cX7_readLoop 33 = .ok (.aload_n 0, 1) := by decide +kernel
theorem dX7_readLoop_34 : decode cX7_readLoop 34 = .ok (.invokevirtual 139, 3) := by decide +kernel
theorem dX7_readLoop_37 : decode cX7_readLoop 37 = .ok (.putfield 143, 3) := by decide +kernel
theorem dX7_readLoop_40 : decode cX7_readLoop 40 = .ok (.aload_n 0, 1) := by decide +kernel
theorem dX7_readLoop_41 : decode cX7_readLoop 41 = .ok (.bipush 125, 2) := by decide +kernel
theorem dX7_readLoop_43 : decode cX7_readLoop 43 = .ok (.invokevirtual 52, 3) := by decide +kernel
theorem dX7_readLoop_46 : decode cX7_readLoop 46 = .ok (.aload_n 0, 1) := by decide +kernel
theorem dX7_readLoop_47 : decode cX7_readLoop 47 = .ok (.aload_n 3, 1) := by decide +kernel
theorem dX7_readLoop_48 : decode cX7_readLoop 48 = .ok (.iload_n 1, 1) := by decide +kernel
theorem dX7_readLoop_49 : decode cX7_readLoop 49 = .ok (.iload_n 2, 1) := by decide +kernel
theorem dX7_readLoop_50 : decode cX7_readLoop 50 = .ok (.invokevirtual 159, 3) := by decide +kernel
theorem dX7_readLoop_53 : decode cX7_readLoop 53 = .ok (.aload_n 3, 1) := by decide +kernel
theorem dX7_readLoop_54 : decode cX7_readLoop 54 = .ok (.areturn, 1) := by decide +kernel
theorem dX7_readBoth_0 : decode cX7_readBoth 0 = .ok (.aload_n 0, 1) := by decide +kernel
theorem dX7_readBoth_1 : decode cX7_readBoth 1 = .ok (.getfield 15, 3) := by decide +kernel
theorem dX7_readBoth_4 : decode cX7_readBoth 4 = .ok (.ifCond .lt 4, 3) := by decide +kernel
theorem dX7_readBoth_7 : decode cX7_readBoth 7 = .ok (.return_, 1) := by decide +kernel
theorem dX7_readBoth_8 : decode cX7_readBoth 8 = .ok (.aload_n 1, 1) := by decide +kernel
theorem dX7_readBoth_9 : decode cX7_readBoth 9 = .ok (.aload_n 0, 1) := by decide +kernel
theorem dX7_readBoth_10 : decode cX7_readBoth 10 = .ok (.iload_n 2, 1) := by decide +kernel
theorem dX7_readBoth_11 : decode cX7_readBoth 11 = .ok (.iconst 1, 1) := by decide +kernel
theorem dX7_readBoth_12 : decode cX7_readBoth 12 = .ok (.iadd, 1) := by decide +kernel
theorem dX7_readBoth_13 : decode cX7_readBoth 13 = .ok (.iload_n 3, 1) := by decide +kernel
theorem dX7_readBoth_14 : decode cX7_readBoth 14 = .ok (.iconst 1, 1) := by decide +kernel
theorem dX7_readBoth_15 : decode cX7_readBoth 15 = .ok (.invokevirtual 55, 3) := by decide +kernel
theorem dX7_readBoth_18 : decode cX7_readBoth 18 = .ok (.putfield 166, 3) := by decide +kernel
theorem dX7_readBoth_21 : decode cX7_readBoth 21 = .ok (.aload_n 0, 1) := by decide +kernel
theorem dX7_readBoth_22 : decode cX7_readBoth 22 = .ok (.getfield 15, 3) := by decide +kernel
theorem dX7_readBoth_25 : decode cX7_readBoth 25 = .ok (.ifCond .ge 23, 3) := by decide +kernel
theorem dX7_readBoth_28 : decode cX7_readBoth 28 = .ok (.aload_n 0, 1) := by decide +kernel
theorem dX7_readBoth_29 : decode cX7_readBoth 29 = .ok (.getfield 92, 3) := by decide +kernel
theorem dX7_readBoth_32 : decode cX7_readBoth 32 = .ok (.ifCond .eq 16, 3) := by decide +kernel
theorem dX7_readBoth_35 : decode cX7_readBoth 35 = .ok (.aload_n 1, 1) := by decide +kernel
theorem dX7_readBoth_36 : decode cX7_readBoth 36 = .ok (.aload_n 0, 1) := by decide +kernel
theorem dX7_readBoth_37 : decode cX7_readBoth 37 = .ok (.iload_n 2, 1) := by decide +kernel
theorem dX7_readBoth_38 : decode cX7_readBoth 38 = .ok (.iconst 1, 1) := by decide +kernel
theorem dX7_readBoth_39 : decode cX7_readBoth 39 = .ok (.iadd, 1) := by decide +kernel
theorem dX7_readBoth_40 : decode cX7_readBoth 40 = .ok (.iload_n 3, 1) := by decide +kernel
theorem dX7_readBoth_41 : decode cX7_readBoth 41 = .ok (.iconst 0, 1) := by decide +kernel
theorem dX7_readBoth_42 : decode cX7_readBoth 42 = .ok (.invokevirtual 55, 3) := by decide +kernel
theorem dX7_readBoth_45 : decode cX7_readBoth 45 = .ok (.putfield 169, 3) := by decide +kernel
theorem dX7_readBoth_48 : decode cX7_readBoth 48 = .ok (.return_, 1) := by decide +kernel
theorem dX7_readBlock_0 : decode cX7_readBlock 0 = .ok (.new 105, 3) := by decide +kernel
theorem dX7_readBlock_3 : decode cX7_readBlock 3 = .ok (.dup, 1) := by decide +kernel
theorem dX7_readBlock_4 : decode cX7_readBlock 4 = .ok (.iconst 4, 1) := by decide +kernel
theorem dX7_readBlock_5 : decode cX7_readBlock 5 = .ok (.aload_n 0, 1) := by decide +kernel
theorem dX7_readBlock_6 : decode cX7_readBlock 6 = .ok (.getfield 9, 3) := by decide +kernel
theorem dX7_readBlock_9 : decode cX7_readBlock 9 = .ok (.invokespecial 136, 3) := by decide +kernel
theorem dX7_readBlock_12 : decode cX7_readBlock 12 = .ok (.astore_n 2, 1) := by decide +kernel
theorem dX7_readBlock_13 : decode cX7_readBlock 13 = .ok (.aload_n 0, 1) := by decide +kernel
theorem dX7_readBlock_14 : decode cX7_readBlock 14 = .ok (.iload_n 1, 1) := by decide +kernel
theorem dX7_readBlock_15 : decode cX7_readBlock 15 = .ok (.invokevirtual 150, 3) := by decide +kernel
theorem dX7_readBlock_18 : decode cX7_readBlock 18 = .ok (.aload_n 2, 1) := by decide +kernel
theorem dX7_readBlock_19 : decode cX7_readBlock 19 = .ok (.aload_n 0, 1) := by decide +kernel
theorem dX7_readBlock_20 : decode cX7_readBlock 20 = .ok (.bipush 65, 2) := by decide +kernel
theorem dX7_readBlock_22 : decode cX7_readBlock 22 = .ok (.iconst 4, 1) := by decide +kernel
theorem dX7_readBlock_23 : decode cX7_readBlock 23 = .ok (.invokevirtual 45, 3) := by decide +kernel
theorem dX7_readBlock_26 : decode cX7_readBlock 26 = .ok (.putfield 147, 3) := by decide +kernel
theorem dX7_readBlock_29 : decode cX7_readBlock 29 = .ok (.aload_n 0, 1) := by decide +kernel
theorem dX7_readBlock_30 : decode cX7_readBlock 30 = .ok (.bipush 125, 2) := by decide +kernel
theorem dX7_readBlock_32 : decode cX7_readBlock 32 = .ok (.invokevirtual 52, 3) := by decide +kernel
theorem dX7_readBlock_35 : decode cX7_readBlock 35 = .ok (.aload_n 0, 1) := by decide +kernel
theorem dX7_readBlock_36 : decode cX7_readBlock 36 = .ok (.getfield 15, 3) := by decide +kernel
theorem dX7_readBlock_39 : decode cX7_readBlock 39 = .ok (.ifCond .lt 5, 3) := by decide +kernel
theorem dX7_readBlock_42 : decode cX7_readBlock 42 = .ok (.aload_n 2, 1) := by decide +kernel
theorem dX7_readBlock_43 : decode cX7_readBlock 43 = .ok (.areturn, 1) := by decide +kernel
theorem dX7_readBlock_44 : decode cX7_readBlock 44 = .ok (.aload_n 0, 1) := by decide +kernel
theorem dX7_readBlock_45 : decode cX7_readBlock 45 = .ok (.getfield 32, 3) := by decide +kernel
theorem dX7_readBlock_48 : decode cX7_readBlock 48 = .ok (.aload_n 2, 1) := by decide +kernel
theorem dX7_readBlock_49 : decode cX7_readBlock 49 = .ok (.getfield 147, 3) := by decide +kernel
theorem dX7_readBlock_52 : decode cX7_readBlock 52 = .ok (.aload_n 2, 1) := by decide +kernel
theorem dX7_readBlock_53 : decode cX7_readBlock 53 = .ok (.invokevirtual 172, 3) := by decide +kernel
theorem dX7_readBlock_56 : decode cX7_readBlock 56 = .ok (.aload_n 2, 1) := by decide +kernel
theorem dX7_readBlock_57 : decode cX7_readBlock 57 = .ok (.aload_n 0, 1) := by decide +kernel
theorem dX7_readBlock_58 : decode cX7_readBlock 58 = .ok (.iload_n 1, 1) := by decide +kernel
theorem dX7_readBlock_59 : decode cX7_readBlock 59 = .ok (.iconst 1, 1) := by decide +kernel
theorem dX7_readBlock_60 : decode cX7_readBlock 60 = .ok (.iadd, 1) := by decide +kernel
theorem dX7_readBlock_61 : decode cX7_readBlock 61 = .ok (.iconst 1, 1) := by decide +kernel
theorem dX7_readBlock_62 : decode cX7_readBlock 62 = .ok (.iconst 0, 1) := by decide +kernel
theorem dX7_readBlock_63 : decode cX7_readBlock 63 = .ok (.invokevirtual 55, 3) := by decide +kernel
theorem dX7_readBlock_66 : decode cX7_readBlock 66 = .ok (.putfield 166, 3) := by decide +kernel
theorem dX7_readBlock_69 : decode cX7_readBlock 69 = .ok (.aload_n 2, 1) := by decide +kernel
theorem dX7_readBlock_70 : decode cX7_readBlock 70 = .ok (.areturn, 1) := by decide +kernel
theorem dX7_readAbove_0 : decode cX7_readAbove 0 = .ok (.new 105, 3) := by decide +kernel
theorem dX7_readAbove_3 : decode cX7_readAbove 3 = .ok (.dup, 1) := by decide +kernel
theorem dX7_readAbove_4 : decode cX7_readAbove 4 = .ok (.iconst 5, 1) := by decide +kernel
theorem dX7_readAbove_5 : decode cX7_readAbove 5 = .ok (.aload_n 0, 1) := by decide +kernel
theorem dX7_readAbove_6 : decode cX7_readAbove 6 = .ok (.getfield 9, 3) := by decide +kernel
theorem dX7_readAbove_9 : decode cX7_readAbove 9 = .ok (.invokespecial 136, 3) := by decide +kernel
theorem dX7_readAbove_12 : decode cX7_readAbove 12 = .ok (.astore_n 2, 1) := by decide +kernel
theorem dX7_readAbove_13 : decode cX7_readAbove 13 = .ok (.iload_n 1, 1) := by decide +kernel
theorem dX7_readAbove_14 : decode cX7_readAbove 14 = .ok (.ifCond .ne 7, 3) := by decide +kernel
theorem dX7_readAbove_17 : decode cX7_readAbove 17 = .ok (.aload_n 0, 1) := by decide +kernel
theorem dX7_readAbove_18 : decode cX7_readAbove 18 = .ok (.invokevirtual 70, 3) := by decide +kernel
theorem dX7_readAbove_21 : decode cX7_readAbove 21 = .ok (.aload_n 0, 1) := by decide +kernel
theorem dX7_readAbove_22 : decode cX7_readAbove 22 = .ok (.aload_n 0, 1) := by decide +kernel
theorem dX7_readAbove_23 : decode cX7_readAbove 23 = .ok (.getfield 40, 3) := by decide +kernel
theorem dX7_readAbove_26 : decode cX7_readAbove 26 = .ok (.iconst 1, 1) := by decide +kernel
theorem dX7_readAbove_27 : decode cX7_readAbove 27 = .ok (.iadd, 1) := by decide +kernel
theorem dX7_readAbove_28 : decode cX7_readAbove 28 = .ok (.putfield 40, 3) := by decide +kernel
theorem dX7_readAbove_31 : decode cX7_readAbove 31 = .ok (.aload_n 0, 1) := by decide +kernel
theorem dX7_readAbove_32 : decode cX7_readAbove 32 = .ok (.bipush 125, 2) := by decide +kernel
theorem dX7_readAbove_34 : decode cX7_readAbove 34 = .ok (.invokevirtual 52, 3) := by decide +kernel
theorem dX7_readAbove_37 : decode cX7_readAbove 37 = .ok (.aload_n 2, 1) := by decide +kernel
theorem dX7_readAbove_38 : decode cX7_readAbove 38 = .ok (.areturn, 1) := by decide +kernel
theorem dX7_readPart_0 : decode cX7_readPart 0 = .ok (.new 105, 3) := by decide +kernel
theorem dX7_readPart_3 : decode cX7_readPart 3 = .ok (.dup, 1) := by decide +kernel
theorem dX7_readPart_4 : decode cX7_readPart 4 = .ok (.bipush 6, 2) := by decide +kernel
theorem dX7_readPart_6 : decode cX7_readPart 6 = .ok (.aload_n 0, 1) := by decide +kernel
theorem dX7_readPart_7 : decode cX7_readPart 7 = .ok (.getfield 9, 3) := by decide +kernel
theorem dX7_readPart_10 : decode cX7_readPart 10 = .ok (.invokespecial 136, 3) := by decide +kernel
theorem dX7_readPart_13 : decode cX7_readPart 13 = .ok (.astore_n 1, 1) := by decide +kernel
theorem dX7_readPart_14 : decode cX7_readPart 14 = .ok (.aload_n 0, 1) := by decide +kernel
theorem dX7_readPart_15 : decode cX7_readPart 15 = .ok (.aload_n 0, 1) := by decide +kernel
theorem dX7_readPart_16 : decode cX7_readPart 16 = .ok (.getfield 40, 3) := by decide +kernel
theorem dX7_readPart_19 : decode cX7_readPart 19 = .ok (.iconst 1, 1) := by decide +kernel
theorem dX7_readPart_20 : decode cX7_readPart 20 = .ok (.iadd, 1) := by decide +kernel
theorem dX7_readPart_21 : decode cX7_readPart 21 = .ok (.putfield 40, 3) := by decide +kernel
theorem dX7_readPart_24 : decode cX7_readPart 24 = .ok (.aload_n 1, 1) := by decide +kernel
theorem dX7_readPart_25 : decode cX7_readPart 25 = .ok (.aload_n 0, 1) := by decide +kernel
theorem dX7_readPart_26 : decode cX7_readPart 26 = .ok (.bipush 48, 2) := by decide +kernel
theorem dX7_readPart_28 : decode cX7_readPart 28 = .ok (.bipush 6, 2) := by decide +kernel
theorem dX7_readPart_30 : decode cX7_readPart 30 = .ok (.invokevirtual 45, 3) := by decide +kernel
theorem dX7_readPart_33 : decode cX7_readPart 33 = .ok (.putfield 147, 3) := by decide +kernel
theorem dX7_readPart_36 : decode cX7_readPart 36 = .ok (.aload_n 0, 1) := by decide +kernel
theorem dX7_readPart_37 : decode cX7_readPart 37 = .ok (.getfield 32, 3) := by decide +kernel
theorem dX7_readPart_40 : decode cX7_readPart 40 = .ok (.aload_n 0, 1) := by decide +kernel
theorem dX7_readPart_41 : decode cX7_readPart 41 = .ok (.getfield 32, 3) := by decide +kernel
theorem dX7_readPart_44 : decode cX7_readPart 44 = .ok (.getfield 176, 3) := by decide +kernel
theorem dX7_readPart_47 : decode cX7_readPart 47 = .ok (.iconst 1, 1) := by decide +kernel
theorem dX7_readPart_48 : decode cX7_readPart 48 = .ok (.aload_n 1, 1) := by decide +kernel
theorem dX7_readPart_49 : decode cX7_readPart 49 = .ok (.getfield 147, 3) := by decide +kernel
theorem dX7_readPart_52 : decode cX7_readPart 52 = .ok (.ishl, 1) := by decide +kernel
theorem dX7_readPart_53 : decode cX7_readPart 53 = .ok (.ior, 1) := by decide +kernel
theorem dX7_readPart_54 : decode cX7_readPart 54 = .ok (.putfield 176, 3) := by decide +kernel
theorem dX7_readPart_57 : decode cX7_readPart 57 = .ok (.aload_n 0, 1) := by decide +kernel
theorem dX7_readPart_58 : decode cX7_readPart 58 = .ok (.bipush 125, 2) := by decide +kernel
theorem dX7_readPart_60 : decode cX7_readPart 60 = .ok (.invokevirtual 52, 3) := by decide +kernel
theorem dX7_readPart_63 : decode cX7_readPart 63 = .ok (.aload_n 1, 1) := by decide +kernel
theorem dX7_readPart_64 : decode cX7_readPart 64 = .ok (.areturn, 1) := by decide +kernel
theorem dX7_readName_0 : decode cX7_readName 0 = .ok (.new 105, 3) := by decide +kernel
theorem dX7_readName_3 : decode cX7_readName 3 = .ok (.dup, 1) := by decide +kernel
theorem dX7_readName_4 : decode cX7_readName 4 = .ok (.bipush 7, 2) := by decide +kernel
theorem dX7_readName_6 : decode cX7_readName 6 = .ok (.aload_n 0, 1) := by decide +kernel
theorem dX7_readName_7 : decode cX7_readName 7 = .ok (.getfield 9, 3) := by decide +kernel
theorem dX7_readName_10 : decode cX7_readName 10 = .ok (.invokespecial 136, 3) := by decide +kernel
theorem dX7_readName_13 : decode cX7_readName 13 = .ok (.astore_n 1, 1) := by decide +kernel
theorem dX7_readName_14 : decode cX7_readName 14 = .ok (.aload_n 0, 1) := by decide +kernel
theorem dX7_readName_15 : decode cX7_readName 15 = .ok (.aload_n 0, 1) := by decide +kernel
theorem dX7_readName_16 : decode cX7_readName 16 = .ok (.getfield 40, 3) := by decide +kernel
theorem dX7_readName_19 : decode cX7_readName 19 = .ok (.iconst 1, 1) := by decide +kernel
theorem dX7_readName_20 : decode cX7_readName 20 = .ok (.iadd, 1) := by decide +kernel
theorem dX7_readName_21 : decode cX7_readName 21 = .ok (.putfield 40, 3) := by decide +kernel
theorem dX7_readName_24 : decode cX7_readName 24 = .ok (.aload_n 1, 1) := by decide +kernel
theorem dX7_readName_25 : decode cX7_readName 25 = .ok (.aload_n 0, 1) := by decide +kernel
theorem dX7_readName_26 : decode cX7_readName 26 = .ok (.invokevirtual 163, 3) := by decide +kernel
theorem dX7_readName_29 : decode cX7_readName 29 = .ok (.putfield 147, 3) := by decide +kernel
theorem dX7_readName_32 : decode cX7_readName 32 = .ok (.aload_n 0, 1) := by decide +kernel
theorem dX7_readName_33 : decode cX7_readName 33 = .ok (.bipush 61, 2) := by decide +kernel
theorem dX7_readName_35 : decode cX7_readName 35 = .ok (.invokevirtual 52, 3) := by decide +kernel
theorem dX7_readName_38 : decode cX7_readName 38 = .ok (.aload_n 1, 1) := by decide +kernel
theorem dX7_readName_39 : decode cX7_readName 39 = .ok (.aload_n 0, 1) := by decide +kernel
theorem dX7_readName_40 : decode cX7_readName 40 = .ok (.invokevirtual 139, 3) := by decide +kernel
theorem dX7_readName_43 : decode cX7_readName 43 = .ok (.putfield 143, 3) := by decide +kernel
theorem dX7_readName_46 : decode cX7_readName 46 = .ok (.aload_n 0, 1) := by decide +kernel
theorem dX7_readName_47 : decode cX7_readName 47 = .ok (.bipush 125, 2) := by decide +kernel
theorem dX7_readName_49 : decode cX7_readName 49 = .ok (.invokevirtual 52, 3) := by decide +kernel
theorem dX7_readName_52 : decode cX7_readName 52 = .ok (.aload_n 1, 1) := by decide +kernel
theorem dX7_readName_53 : decode cX7_readName 53 = .ok (.areturn, 1) := by decide +kernel
theorem dX7_readExpression_0 : decode cX7_readExpression 0 = .ok (.new 179, 3) := by decide +kernel
theorem dX7_readExpression_3 : decode cX7_readExpression 3 = .ok (.dup, 1) := by decide +kernel
theorem dX7_readExpression_4 : decode cX7_readExpression 4 = .ok (.invokespecial 181, 3) := by decide +kernel
theorem dX7_readExpression_7 : decode cX7_readExpression 7 = .ok (.astore_n 1, 1) := by decide +kernel
theorem dX7_readExpression_8 : decode cX7_readExpression 8 = .ok (.aload_n 0, 1) := by decide +kernel
theorem dX7_readExpression_9 : decode cX7_readExpression 9 = .ok (.invokevirtual 77, 3) := by decide +kernel
theorem dX7_readExpression_12 : decode cX7_readExpression 12 = .ok (.bipush 97, 2) := by decide +kernel
theorem dX7_readExpression_14 : decode cX7_readExpression 14 = .ok (.isub, 1) := by decide +kernel
theorem dX7_readExpression_15 : decode cX7_readExpression 15 = .ok (.bipush 8, 2) := by decide +kernel
theorem dX7_readExpression_17 : decode cX7_readExpression 17 = .ok (.invokestatic 81, 3) := by decide +kernel
theorem dX7_readExpression_20 : decode cX7_readExpression 20 = .ok (.ifCond .eq 19, 3) := by decide +kernel
theorem dX7_readExpression_23 : decode cX7_readExpression 23 = .ok (.aload_n 1, 1) := by decide +kernel
theorem dX7_readExpression_24 : decode cX7_readExpression 24 = .ok (.iconst 1, 1) := by decide +kernel
theorem dX7_readExpression_25 : decode cX7_readExpression 25 = .ok (.putfield 182, 3) := by decide +kernel
theorem dX7_readExpression_28 : decode cX7_readExpression 28 = .ok (.aload_n 1, 1) := by decide +kernel
theorem dX7_readExpression_29 : decode cX7_readExpression 29 = .ok (.aload_n 0, 1) := by decide +kernel
theorem dX7_readExpression_30 : decode cX7_readExpression 30 = .ok (.invokevirtual 163, 3) := by decide +kernel
theorem dX7_readExpression_33 : decode cX7_readExpression 33 = .ok (.putfield 185, 3) := by decide +kernel
theorem dX7_readExpression_36 : decode cX7_readExpression 36 = .ok (.goto 58, 3) := by decide +kernel
theorem dX7_readExpression_39 : decode cX7_readExpression 39 = .ok (.aload_n 0, 1) := by decide +kernel
theorem dX7_readExpression_40 : decode cX7_readExpression 40 = .ok (.invokevirtual 77, 3) := by decide +kernel
theorem dX7_readExpression_43 : decode cX7_readExpression 43 = .ok (.bipush 35, 2) := by decide +kernel
theorem dX7_readExpression_45 : decode cX7_readExpression 45 = .ok (.if_icmp .ne 21, 3) := by decide +kernel
theorem dX7_readExpression_48 : decode cX7_readExpression 48 = .ok (.aload_n 1, 1) := by decide +kernel
theorem dX7_readExpression_49 : decode cX7_readExpression 49 = .ok (.iconst 2, 1) := by decide +kernel
theorem dX7_readExpression_50 : decode cX7_readExpression 50 = .ok (.putfield 182, 3) := by decide +kernel
theorem dX7_readExpression_53 : decode cX7_readExpression 53 = .ok (.aload_n 0, 1) := by decide +kernel
theorem dX7_readExpression_54 : decode cX7_readExpression 54 = .ok (.aload_n 0, 1) := by decide +kernel
theorem dX7_readExpression_55 : decode cX7_readExpression 55 = .ok (.getfield 40, 3) := by decide +kernel
theorem dX7_readExpression_58 : decode cX7_readExpression 58 = .ok (.iconst 1, 1) := by decide +kernel
theorem dX7_readExpression_59 : decode cX7_readExpression 59 = .ok (.iadd, 1) := by decide +kernel
theorem dX7_readExpression_60 : decode cX7_readExpression 60 = .ok (.putfield 40, 3) := by decide +kernel
theorem dX7_readExpression_63 : decode cX7_readExpression 63 = .ok (.goto 31, 3) := by decide +kernel
theorem dX7_readExpression_66 : decode cX7_readExpression 66 = .ok (.aload_n 0, 1) := by decide +kernel
theorem dX7_readExpression_67 : decode cX7_readExpression 67 = .ok (.invokevirtual 77, 3) := by decide +kernel
theorem dX7_readExpression_70 : decode cX7_readExpression 70 = .ok (.bipush 39, 2) := by decide +kernel
theorem dX7_readExpression_72 : decode cX7_readExpression 72 = .ok (.if_icmp .ne 14, 3) := by decide +kernel
theorem dX7_readExpression_75 : decode cX7_readExpression 75 = .ok (.aload_n 1, 1) := by decide +kernel
theorem dX7_readExpression_76 : decode cX7_readExpression 76 = .ok (.aload_n 0, 1) := by decide +kernel
theorem dX7_readExpression_77 : decode cX7_readExpression 77 = .ok (.invokevirtual 188, 3) := by decide +kernel
theorem dX7_readExpression_80 : decode cX7_readExpression 80 = .ok (.putfield 192, 3) := by decide +kernel
theorem dX7_readExpression_83 : decode cX7_readExpression 83 = .ok (.goto 11, 3) := by decide +kernel
theorem dX7_readExpression_86 : decode cX7_readExpression 86 = .ok (.aload_n 1, 1) := by decide +kernel
theorem dX7_readExpression_87 : decode cX7_readExpression 87 = .ok (.aload_n 0, 1) := by decide +kernel
theorem dX7_readExpression_88 : decode cX7_readExpression 88 = .ok (.invokevirtual 196, 3) := by decide +kernel
theorem dX7_readExpression_91 : decode cX7_readExpression 91 = .ok (.putfield 192, 3) := by decide +kernel
theorem dX7_readExpression_94 : decode cX7_readExpression 94 = .ok (.aload_n 0, 1) := by decide +kernel
theorem dX7_readExpression_95 : decode cX7_readExpression 95 = .ok (.getfield 15, 3) := by decide +kernel
theorem dX7_readExpression_98 : decode cX7_readExpression 98 = .ok (.ifCond .ge 30, 3) := by decide +kernel
theorem dX7_readExpression_101 : decode cX7_readExpression 101 = .ok (.aload_n 0, 1) := by decide +kernel
theorem dX7_readExpression_102 : decode cX7_readExpression 102 = .ok (.invokevirtual 77, 3) := by decide +kernel
theorem dX7_readExpression_105 : decode cX7_readExpression 105 = .ok (.bipush 124, 2) := by decide +kernel
theorem dX7_readExpression_107 : decode cX7_readExpression 107 = .ok (.if_icmp .ne 21, 3) := by decide +kernel
theorem dX7_readExpression_110 : decode cX7_readExpression 110 = .ok (.aload_n 0, 1) := by decide +kernel
theorem dX7_readExpression_111 : decode cX7_readExpression 111 = .ok (.aload_n 0, 1) := by decide +kernel
theorem dX7_readExpression_112 : decode cX7_readExpression 112 = .ok (.getfield 40, 3) := by decide +kernel
theorem dX7_readExpression_115 : decode cX7_readExpression 115 = .ok (.iconst 1, 1) := by decide +kernel
theorem dX7_readExpression_116 : decode cX7_readExpression 116 = .ok (.iadd, 1) := by decide +kernel
theorem dX7_readExpression_117 : decode cX7_readExpression 117 = .ok (.putfield 40, 3) := by decide +kernel
theorem dX7_readExpression_120 : decode cX7_readExpression 120 = .ok (.aload_n 1, 1) := by decide +kernel
theorem dX7_readExpression_121 : decode cX7_readExpression 121 = .ok (.aload_n 0, 1) := by decide +kernel
theorem dX7_readExpression_122 : decode cX7_readExpression 122 = .ok (.invokevirtual 66, 3) := by decide +kernel
theorem dX7_readExpression_125 : decode cX7_readExpression 125 = .ok (.putfield 199, 3) := by decide +kernel
theorem dX7_readExpression_128 : decode cX7_readExpression 128 = .ok (.aload_n 1, 1) := by decide +kernel
theorem dX7_readExpression_129 : decode cX7_readExpression 129 = .ok (.areturn, 1) := by decide +kernel
theorem dX7_readNumber_0 : decode cX7_readNumber 0 = .ok (.new 202, 3) := by decide +kernel
theorem dX7_readNumber_3 : decode cX7_readNumber 3 = .ok (.dup, 1) := by decide +kernel
theorem dX7_readNumber_4 : decode cX7_readNumber 4 = .ok (.invokespecial 204, 3) := by decide +kernel
theorem dX7_readNumber_7 : decode cX7_readNumber 7 = .ok (.astore_n 1, 1) := by decide +kernel
theorem dX7_readNumber_8 : decode cX7_readNumber 8 = .ok (.aload_n 0, 1) := by decide +kernel
theorem dX7_readNumber_9 : decode cX7_readNumber 9 = .ok (.invokevirtual 77, 3) := by decide +kernel
theorem dX7_readNumber_12 : decode cX7_readNumber 12 = .ok (.bipush 45, 2) := by decide +kernel
theorem dX7_readNumber_14 : decode cX7_readNumber 14 = .ok (.if_icmp .ne 7, 3) := by decide +kernel
theorem dX7_readNumber_17 : decode cX7_readNumber 17 = .ok (.iconst 1, 1) := by decide +kernel
theorem dX7_readNumber_18 : decode cX7_readNumber 18 = .ok (.goto 4, 3) := by decide +kernel
theorem dX7_readNumber_21 : decode cX7_readNumber 21 = .ok (.iconst 0, 1) := by decide +kernel
theorem dX7_readNumber_22 : decode cX7_readNumber 22 = .ok (.istore_n 2, 1) := by decide +kernel
theorem dX7_readNumber_23 : decode cX7_readNumber 23 = .ok (.iload_n 2, 1) := by decide +kernel
theorem dX7_readNumber_24 : decode cX7_readNumber 24 = .ok (.ifCond .eq 13, 3) := by decide +kernel
theorem dX7_readNumber_27 : decode cX7_readNumber 27 = .ok (.aload_n 0, 1) := by decide +kernel
theorem dX7_readNumber_28 : decode cX7_readNumber 28 = .ok (.aload_n 0, 1) := by decide +kernel
theorem dX7_readNumber_29 : decode cX7_readNumber 29 = .ok (.getfield 40, 3) := by decide +kernel
theorem dX7_readNumber_32 : decode cX7_readNumber 32 = .ok (.iconst 1, 1) := by decide +kernel
theorem dX7_readNumber_33 : decode cX7_readNumber 33 = .ok (.iadd, 1) := by decide +kernel
theorem dX7_readNumber_34 : decode cX7_readNumber 34 = .ok (.putfield 40, 3) := by decide +kernel
theorem dX7_readNumber_37 : decode cX7_readNumber 37 = .ok (.aload_n 0, 1) := by decide +kernel
theorem dX7_readNumber_38 : decode cX7_readNumber 38 = .ok (.invokevirtual 205, 3) := by decide +kernel
theorem dX7_readNumber_41 : decode cX7_readNumber 41 = .ok (.istore_n 3, 1) := by decide +kernel
theorem dX7_readNumber_42 : decode cX7_readNumber 42 = .ok (.aload_n 1, 1) := by decide +kernel
theorem dX7_readNumber_43 : decode cX7_readNumber 43 = .ok (.iload_n 2, 1) := by decide +kernel
theorem dX7_readNumber_44 : decode cX7_readNumber 44 = .ok (.ifCond .eq 8, 3) := by decide +kernel
theorem dX7_readNumber_47 : decode cX7_readNumber 47 = .ok (.iload_n 3, 1) := by decide +kernel
theorem dX7_readNumber_48 : decode cX7_readNumber 48 = .ok (.ineg, 1) := by decide +kernel
theorem dX7_readNumber_49 : decode cX7_readNumber 49 = .ok (.goto 4, 3) := by decide +kernel
theorem dX7_readNumber_52 : decode cX7_readNumber 52 = .ok (.iload_n 3, 1) := by decide +kernel
theorem dX7_readNumber_53 : decode cX7_readNumber 53 = .ok (.invokevirtual 208, 3) := by decide +kernel
theorem dX7_readNumber_56 : decode cX7_readNumber 56 = .ok (.aload_n 1, 1) := by decide +kernel
theorem dX7_readNumber_57 : decode cX7_readNumber 57 = .ok (.areturn, 1) := by decide +kernel
theorem dX7_readText_0 : decode cX7_readText 0 = .ok (.new 202, 3) := by decide +kernel
theorem dX7_readText_3 : decode cX7_readText 3 = .ok (.dup, 1) := by decide +kernel
theorem dX7_readText_4 : decode cX7_readText 4 = .ok (.invokespecial 204, 3) := by decide +kernel
theorem dX7_readText_7 : decode cX7_readText 7 = .ok (.astore_n 1, 1) := by decide +kernel
theorem dX7_readText_8 : decode cX7_readText 8 = .ok (.new 25, 3) := by decide +kernel
theorem dX7_readText_11 : decode cX7_readText 11 = .ok (.dup, 1) := by decide +kernel
theorem dX7_readText_12 : decode cX7_readText 12 = .ok (.bipush 16, 2) := by decide +kernel
theorem dX7_readText_14 : decode cX7_readText 14 = .ok (.invokespecial 211, 3) := by decide +kernel
theorem dX7_readText_17 : decode cX7_readText 17 = .ok (.astore_n 2, 1) := by decide +kernel
theorem dX7_readText_18 : decode cX7_readText 18 = .ok (.aload_n 0, 1) := by decide +kernel
theorem dX7_readText_19 : decode cX7_readText 19 = .ok (.aload_n 0, 1) := by decide +kernel
theorem dX7_readText_20 : decode cX7_readText 20 = .ok (.getfield 40, 3) := by decide +kernel
theorem dX7_readText_23 : decode cX7_readText 23 = .ok (.iconst 1, 1) := by decide +kernel
theorem dX7_readText_24 : decode cX7_readText 24 = .ok (.iadd, 1) := by decide +kernel
theorem dX7_readText_25 : decode cX7_readText 25 = .ok (.putfield 40, 3) := by decide +kernel
theorem dX7_readText_28 : decode cX7_readText 28 = .ok (.iconst 0, 1) := by decide +kernel
theorem dX7_readText_29 : decode cX7_readText 29 = .ok (.istore_n 3, 1) := by decide +kernel
theorem dX7_readText_30 : decode cX7_readText 30 = .ok (.iload_n 3, 1) := by decide +kernel
theorem dX7_readText_31 : decode cX7_readText 31 = .ok (.bipush 16, 2) := by decide +kernel
theorem dX7_readText_33 : decode cX7_readText 33 = .ok (.if_icmp .ge 57, 3) := by decide +kernel
theorem dX7_readText_36 : decode cX7_readText 36 = .ok (.aload_n 0, 1) := by decide +kernel
theorem dX7_readText_37 : decode cX7_readText 37 = .ok (.invokevirtual 77, 3) := by decide +kernel
theorem dX7_readText_40 : decode cX7_readText 40 = .ok (.invokestatic 212, 3) := by decide +kernel
theorem dX7_readText_43 : decode cX7_readText 43 = .ok (.ifCond .eq 47, 3) := by decide +kernel
theorem dX7_readText_46 : decode cX7_readText 46 = .ok (.aload_n 0, 1) := by decide +kernel
theorem dX7_readText_47 : decode cX7_readText 47 = .ok (.invokevirtual 77, 3) := by decide +kernel
theorem dX7_readText_50 : decode cX7_readText 50 = .ok (.bipush 10, 2) := by decide +kernel
theorem dX7_readText_52 : decode cX7_readText 52 = .ok (.if_icmp .ne 13, 3) := by decide +kernel
theorem dX7_readText_55 : decode cX7_readText 55 = .ok (.aload_n 0, 1) := by decide +kernel
theorem dX7_readText_56 : decode cX7_readText 56 = .ok (.aload_n 0, 1) := by decide +kernel
theorem dX7_readText_57 : decode cX7_readText 57 = .ok (.getfield 9, 3) := by decide +kernel
theorem dX7_readText_60 : decode cX7_readText 60 = .ok (.iconst 1, 1) := by decide +kernel
theorem dX7_readText_61 : decode cX7_readText 61 = .ok (.iadd, 1) := by decide +kernel
theorem dX7_readText_62 : decode cX7_readText 62 = .ok (.putfield 9, 3) := by decide +kernel
theorem dX7_readText_65 : decode cX7_readText 65 = .ok (.aload_n 2, 1) := by decide +kernel
theorem dX7_readText_66 : decode cX7_readText 66 = .ok (.aload_n 0, 1) := by decide +kernel
theorem dX7_readText_67 : decode cX7_readText 67 = .ok (.invokevirtual 77, 3) := by decide +kernel
theorem dX7_readText_70 : decode cX7_readText 70 = .ok (.invokevirtual 215, 3) := by decide +kernel
theorem dX7_readText_73 : decode cX7_readText 73 = .ok (.pop, 1) := by decide +kernel
theorem dX7_readText_74 : decode cX7_readText 74 = .ok (.aload_n 0, 1) := by decide +kernel
theorem dX7_readText_75 : decode cX7_readText 75 = .ok (.aload_n 0, 1) := by decide +kernel
theorem dX7_readText_76 : decode cX7_readText 76 = .ok (.getfield 40, 3) := by decide +kernel
theorem dX7_readText_79 : decode cX7_readText 79 = .ok (.iconst 1, 1) := by decide +kernel
theorem dX7_readText_80 : decode cX7_readText 80 = .ok (.iadd, 1) := by decide +kernel
theorem dX7_readText_81 : decode cX7_readText 81 = .ok (.putfield 40, 3) := by decide +kernel
theorem dX7_readText_84 : decode cX7_readText 84 = .ok (.iinc 3 1, 3) := by decide +kernel
theorem dX7_readText_87 : decode cX7_readText 87 = .ok (.goto (-57), 3) := by decide +kernel
theorem dX7_readText_90 : decode cX7_readText 90 = .ok (.aload_n 0, 1) := by decide +kernel
theorem dX7_readText_91 : decode cX7_readText 91 = .ok (.bipush 39, 2) := by decide +kernel
theorem dX7_readText_93 : decode cX7_readText 93 = .ok (.invokevirtual 52, 3) := by decide +kernel
theorem dX7_readText_96 : decode cX7_readText 96 = .ok (.aload_n 1, 1) := by decide +kernel
theorem dX7_readText_97 : decode cX7_readText 97 = .ok (.aload_n 2, 1) := by decide +kernel
theorem dX7_readText_98 : decode cX7_readText 98 = .ok (.invokevirtual 218, 3) := by decide +kernel
theorem dX7_readText_101 : decode cX7_readText 101 = .ok (.pop, 1) := by decide +kernel
theorem dX7_readText_102 : decode cX7_readText 102 = .ok (.aload_n 1, 1) := by decide +kernel
theorem dX7_readText_103 : decode cX7_readText 103 = .ok (.areturn, 1) := by decide +kernel
theorem dX7_isTextByte_0 : decode cX7_isTextByte 0 = .ok (.iload_n 0, 1) := by decide +kernel
theorem dX7_isTextByte_1 : decode cX7_isTextByte 1 = .ok (.ifCond .le 25, 3) := by decide +kernel
theorem dX7_isTextByte_4 : decode cX7_isTextByte 4 = .ok (.iload_n 0, 1) := by decide +kernel
theorem dX7_isTextByte_5 : decode cX7_isTextByte 5 = .ok (.bipush 39, 2) := by decide +kernel
theorem dX7_isTextByte_7 : decode cX7_isTextByte 7 = .ok (.if_icmp .eq 19, 3) := by decide +kernel
theorem dX7_isTextByte_10 : decode cX7_isTextByte 10 = .ok (.iload_n 0, 1) := by decide +kernel
theorem dX7_isTextByte_11 : decode cX7_isTextByte 11 = .ok (.bipush 123, 2) := by decide +kernel
theorem dX7_isTextByte_13 : decode cX7_isTextByte 13 = .ok (.if_icmp .eq 13, 3) := by decide +kernel
theorem dX7_isTextByte_16 : decode cX7_isTextByte 16 = .ok (.iload_n 0, 1) := by decide +kernel
theorem dX7_isTextByte_17 : decode cX7_isTextByte 17 = .ok (.bipush 125, 2) := by decide +kernel
theorem dX7_isTextByte_19 : decode cX7_isTextByte 19 = .ok (.if_icmp .eq 7, 3) := by decide +kernel
theorem dX7_isTextByte_22 : decode cX7_isTextByte 22 = .ok (.iconst 1, 1) := by decide +kernel
theorem dX7_isTextByte_23 : decode cX7_isTextByte 23 = .ok (.goto 4, 3) := by decide +kernel
theorem dX7_isTextByte_26 : decode cX7_isTextByte 26 = .ok (.iconst 0, 1) := by decide +kernel
theorem dX7_isTextByte_27 : decode cX7_isTextByte 27 = .ok (.ireturn, 1) := by decide +kernel
theorem dX7_readFilters_0 : decode cX7_readFilters 0 = .ok (.aconst_null, 1) := by decide +kernel
theorem dX7_readFilters_1 : decode cX7_readFilters 1 = .ok (.astore_n 1, 1) := by decide +kernel
theorem dX7_readFilters_2 : decode cX7_readFilters 2 = .ok (.aconst_null, 1) := by decide +kernel
theorem dX7_readFilters_3 : decode cX7_readFilters 3 = .ok (.astore_n 2, 1) := by decide +kernel
theorem dX7_readFilters_4 : decode cX7_readFilters 4 = .ok (.iconst 0, 1) := by decide +kernel
theorem dX7_readFilters_5 : decode cX7_readFilters 5 = .ok (.istore_n 3, 1) := by decide +kernel
theorem dX7_readFilters_6 : decode cX7_readFilters 6 = .ok (.iload_n 3, 1) := by decide +kernel
theorem dX7_readFilters_7 : decode cX7_readFilters 7 = .ok (.sipush 160, 3) := by decide +kernel
theorem dX7_readFilters_10 : decode cX7_readFilters 10 = .ok (.if_icmp .gt 133, 3) := by decide +kernel
theorem dX7_readFilters_13 : decode cX7_readFilters 13 = .ok (.aload_n 0, 1) := by decide +kernel
theorem dX7_readFilters_14 : decode cX7_readFilters 14 = .ok (.getfield 15, 3) := by decide +kernel
theorem dX7_readFilters_17 : decode cX7_readFilters 17 = .ok (.ifCond .ge 126, 3) := by decide +kernel
theorem dX7_readFilters_20 : decode cX7_readFilters 20 = .ok (.aload_n 0, 1) := by decide +kernel
theorem dX7_readFilters_21 : decode cX7_readFilters 21 = .ok (.invokevirtual 222, 3) := by decide +kernel
theorem dX7_readFilters_24 : decode cX7_readFilters 24 = .ok (.istore 4, 2) := by decide +kernel
theorem dX7_readFilters_26 : decode cX7_readFilters 26 = .ok (.aload_n 0, 1) := by decide +kernel
theorem dX7_readFilters_27 : decode cX7_readFilters 27 = .ok (.getfield 18, 3) := by decide +kernel
theorem dX7_readFilters_30 : decode cX7_readFilters 30 = .ok (.aload_n 0, 1) := by decide +kernel
theorem dX7_readFilters_31 : decode cX7_readFilters 31 = .ok (.getfield 40, 3) := by decide +kernel
theorem dX7_readFilters_34 : decode cX7_readFilters 34 = .ok (.iload 4, 2) := by decide +kernel
theorem dX7_readFilters_36 : decode cX7_readFilters 36 = .ok (.invokestatic 225, 3) := by decide +kernel
theorem dX7_readFilters_39 : decode cX7_readFilters 39 = .ok (.astore 5, 2) := by decide +kernel
theorem dX7_readFilters_41 : decode cX7_readFilters 41 = .ok (.aload 5, 2) := by decide +kernel
theorem dX7_readFilters_43 : decode cX7_readFilters 43 = .ok (.ifnonnull 9, 3) := by decide +kernel
theorem dX7_readFilters_46 : decode cX7_readFilters 46 = .ok (.aload_n 0, 1) := by decide +kernel
theorem dX7_readFilters_47 : decode cX7_readFilters 47 = .ok (.invokevirtual 70, 3) := by decide +kernel
theorem dX7_readFilters_50 : decode cX7_readFilters 50 = .ok (.aload_n 1, 1) := by decide +kernel
theorem dX7_readFilters_51 : decode cX7_readFilters 51 = .ok (.areturn, 1) := by decide +kernel
theorem dX7_readFilters_52 : decode cX7_readFilters 52 = .ok (.aload_n 0, 1) := by decide +kernel
theorem dX7_readFilters_53 : decode cX7_readFilters 53 = .ok (.aload_n 0, 1) := by decide +kernel
theorem dX7_readFilters_54 : decode cX7_readFilters 54 = .ok (.getfield 40, 3) := by decide +kernel
theorem dX7_readFilters_57 : decode cX7_readFilters 57 = .ok (.iload 4, 2) := by decide +kernel
theorem dX7_readFilters_59 : decode cX7_readFilters 59 = .ok (.iadd, 1) := by decide +kernel
theorem dX7_readFilters_60 : decode cX7_readFilters 60 = .ok (.putfield 40, 3) := by decide +kernel
theorem dX7_readFilters_63 : decode cX7_readFilters 63 = .ok (.new 231, 3) := by decide +kernel
theorem dX7_readFilters_66 : decode cX7_readFilters 66 = .ok (.dup, 1) := by decide +kernel
theorem dX7_readFilters_67 : decode cX7_readFilters 67 = .ok (.aload 5, 2) := by decide +kernel
theorem dX7_readFilters_69 : decode cX7_readFilters 69 = .ok (.invokespecial 233, 3) := by decide +kernel
theorem dX7_readFilters_72 : decode cX7_readFilters 72 = .ok (.astore 6, 2) := by decide +kernel
theorem dX7_readFilters_74 : decode cX7_readFilters 74 = .ok (.aload_n 2, 1) := by decide +kernel
theorem dX7_readFilters_75 : decode cX7_readFilters 75 = .ok (.ifnonnull 9, 3) := by decide +kernel
theorem dX7_readFilters_78 : decode cX7_readFilters 78 = .ok (.aload 6, 2) := by decide +kernel
theorem dX7_readFilters_80 : decode cX7_readFilters 80 = .ok (.astore_n 1, 1) := by decide +kernel
theorem dX7_readFilters_81 : decode cX7_readFilters 81 = .ok (.goto 9, 3) := by decide +kernel
theorem dX7_readFilters_84 : decode cX7_readFilters 84 = .ok (.aload_n 2, 1) := by decide +kernel
theorem dX7_readFilters_85 : decode cX7_readFilters 85 = .ok (.aload 6, 2) := by decide +kernel
theorem dX7_readFilters_87 : decode cX7_readFilters 87 = .ok (.putfield 236, 3) := by decide +kernel
theorem dX7_readFilters_90 : decode cX7_readFilters 90 = .ok (.aload 6, 2) := by decide +kernel
theorem dX7_readFilters_92 : decode cX7_readFilters 92 = .ok (.astore_n 2, 1) := by decide +kernel
theorem dX7_readFilters_93 : decode cX7_readFilters 93 = .ok (.aload 5, 2) := by decide +kernel
theorem dX7_readFilters_95 : decode cX7_readFilters 95 = .ok (.getfield 238, 3) := by decide +kernel
theorem dX7_readFilters_98 : decode cX7_readFilters 98 = .ok (.ifCond .eq 18, 3) := by decide +kernel
theorem dX7_readFilters_101 : decode cX7_readFilters 101 = .ok (.aload_n 0, 1) := by decide +kernel
theorem dX7_readFilters_102 : decode cX7_readFilters 102 = .ok (.bipush 58, 2) := by decide +kernel
theorem dX7_readFilters_104 : decode cX7_readFilters 104 = .ok (.invokevirtual 52, 3) := by decide +kernel
theorem dX7_readFilters_107 : decode cX7_readFilters 107 = .ok (.aload 6, 2) := by decide +kernel
theorem dX7_readFilters_109 : decode cX7_readFilters 109 = .ok (.aload_n 0, 1) := by decide +kernel
theorem dX7_readFilters_110 : decode cX7_readFilters 110 = .ok (.invokevirtual 205, 3) := by decide +kernel
theorem dX7_readFilters_113 : decode cX7_readFilters 113 = .ok (.putfield 241, 3) := by decide +kernel
theorem dX7_readFilters_116 : decode cX7_readFilters 116 = .ok (.aload_n 0, 1) := by decide +kernel
theorem dX7_readFilters_117 : decode cX7_readFilters 117 = .ok (.invokevirtual 77, 3) := by decide +kernel
theorem dX7_readFilters_120 : decode cX7_readFilters 120 = .ok (.bipush 124, 2) := by decide +kernel
theorem dX7_readFilters_122 : decode cX7_readFilters 122 = .ok (.if_icmp .eq 5, 3) := by decide +kernel
theorem dX7_readFilters_125 : decode cX7_readFilters 125 = .ok (.aload_n 1, 1) := by decide +kernel
theorem dX7_readFilters_126 : decode cX7_readFilters 126 = .ok (.areturn, 1) := by decide +kernel
theorem dX7_readFilters_127 : decode cX7_readFilters 127 = .ok (.aload_n 0, 1) := by decide +kernel
theorem dX7_readFilters_128 : decode cX7_readFilters 128 = .ok (.aload_n 0, 1) := by decide +kernel
theorem dX7_readFilters_129 : decode cX7_readFilters 129 = .ok (.getfield 40, 3) := by decide +kernel
theorem dX7_readFilters_132 : decode cX7_readFilters 132 = .ok (.iconst 1, 1) := by decide +kernel
theorem dX7_readFilters_133 : decode cX7_readFilters 133 = .ok (.iadd, 1) := by decide +kernel
theorem dX7_readFilters_134 : decode cX7_readFilters 134 = .ok (.putfield 40, 3) := by decide +kernel
theorem dX7_readFilters_137 : decode cX7_readFilters 137 = .ok (.iinc 3 1, 3) := by decide +kernel
theorem dX7_readFilters_140 : decode cX7_readFilters 140 = .ok (.goto (-134), 3) := by decide +kernel
theorem dX7_readFilters_143 : decode cX7_readFilters 143 = .ok (.aload_n 1, 1) := by decide +kernel
theorem dX7_readFilters_144 : decode cX7_readFilters 144 = .ok (.areturn, 1) := by decide +kernel
theorem dX7_countSmall_0 : decode cX7_countSmall 0 = .ok (.iconst 0, 1) := by decide +kernel
theorem dX7_countSmall_1 : decode cX7_countSmall 1 = .ok (.istore_n 1, 1) := by decide +kernel
theorem dX7_countSmall_2 : decode cX7_countSmall 2 = .ok (.iconst 0, 1) := by decide +kernel
theorem dX7_countSmall_3 : decode cX7_countSmall 3 = .ok (.istore_n 2, 1) := by decide +kernel
theorem dX7_countSmall_4 : decode cX7_countSmall 4 = .ok (.iload_n 2, 1) := by decide +kernel
theorem dX7_countSmall_5 : decode cX7_countSmall 5 = .ok (.sipush 160, 3) := by decide +kernel
theorem dX7_countSmall_8 : decode cX7_countSmall 8 = .ok (.if_icmp .ge 32, 3) := by decide +kernel
theorem dX7_countSmall_11 : decode cX7_countSmall 11 = .ok (.aload_n 0, 1) := by decide +kernel
theorem dX7_countSmall_12 : decode cX7_countSmall 12 = .ok (.getfield 18, 3) := by decide +kernel
theorem dX7_countSmall_15 : decode cX7_countSmall 15 = .ok (.aload_n 0, 1) := by decide +kernel
theorem dX7_countSmall_16 : decode cX7_countSmall 16 = .ok (.getfield 40, 3) := by decide +kernel
theorem dX7_countSmall_19 : decode cX7_countSmall 19 = .ok (.iload_n 1, 1) := by decide +kernel
theorem dX7_countSmall_20 : decode cX7_countSmall 20 = .ok (.iadd, 1) := by decide +kernel
theorem dX7_countSmall_21 : decode cX7_countSmall 21 = .ok (.invokevirtual 36, 3) := by decide +kernel
theorem dX7_countSmall_24 : decode cX7_countSmall 24 = .ok (.invokestatic 244, 3) := by decide +kernel
theorem dX7_countSmall_27 : decode cX7_countSmall 27 = .ok (.ifCond .eq 13, 3) := by decide +kernel
theorem dX7_countSmall_30 : decode cX7_countSmall 30 = .ok (.iload_n 1, 1) := by decide +kernel
theorem dX7_countSmall_31 : decode cX7_countSmall 31 = .ok (.iconst 1, 1) := by decide +kernel
theorem dX7_countSmall_32 : decode cX7_countSmall 32 = .ok (.iadd, 1) := by decide +kernel
theorem dX7_countSmall_33 : decode cX7_countSmall 33 = .ok (.istore_n 1, 1) := by decide +kernel
theorem dX7_countSmall_34 : decode cX7_countSmall 34 = .ok (.iinc 2 1, 3) := by decide +kernel
theorem dX7_countSmall_37 : decode cX7_countSmall 37 = .ok (.goto (-33), 3) := by decide +kernel
theorem dX7_countSmall_40 : decode cX7_countSmall 40 = .ok (.iload_n 1, 1) := by decide +kernel
theorem dX7_countSmall_41 : decode cX7_countSmall 41 = .ok (.ireturn, 1) := by decide +kernel
theorem dX8_init_0 : decode cX8_init 0 = .ok (.aload_n 0, 1) := by decide +kernel
theorem dX8_init_1 : decode cX8_init 1 = .ok (.invokespecial 3, 3) := by decide +kernel
theorem dX8_init_4 : decode cX8_init 4 = .ok (.aload_n 0, 1) := by decide +kernel
theorem dX8_init_5 : decode cX8_init 5 = .ok (.iconst (-1), 1) := by decide +kernel
theorem dX8_init_6 : decode cX8_init 6 = .ok (.putfield 9, 3) := by decide +kernel
theorem dX8_init_9 : decode cX8_init 9 = .ok (.aload_n 0, 1) := by decide +kernel
theorem dX8_init_10 : decode cX8_init 10 = .ok (.bipush 60, 2) := by decide +kernel
theorem dX8_init_12 : decode cX8_init 12 = .ok (.newarray .int, 2) := by decide +kernel
theorem dX8_init_14 : decode cX8_init 14 = .ok (.putfield 15, 3) := by decide +kernel
theorem dX8_init_17 : decode cX8_init 17 = .ok (.aload_n 0, 1) := by decide +kernel
theorem dX8_init_18 : decode cX8_init 18 = .ok (.bipush 60, 2) := by decide +kernel
theorem dX8_init_20 : decode cX8_init 20 = .ok (.newarray .float, 2) := by decide +kernel
theorem dX8_init_22 : decode cX8_init 22 = .ok (.putfield 19, 3) := by decide +kernel
theorem dX8_init_25 : decode cX8_init 25 = .ok (.return_, 1) := by decide +kernel
theorem dX8_begin_0 : decode cX8_begin 0 = .ok (.aload_n 0, 1) := by decide +kernel
theorem dX8_begin_1 : decode cX8_begin 1 = .ok (.iload_n 1, 1) := by decide +kernel
theorem dX8_begin_2 : decode cX8_begin 2 = .ok (.putfield 9, 3) := by decide +kernel
theorem dX8_begin_5 : decode cX8_begin 5 = .ok (.aload_n 0, 1) := by decide +kernel
theorem dX8_begin_6 : decode cX8_begin 6 = .ok (.iconst 0, 1) := by decide +kernel
theorem dX8_begin_7 : decode cX8_begin 7 = .ok (.iload_n 2, 1) := by decide +kernel
theorem dX8_begin_8 : decode cX8_begin 8 = .ok (.bipush 60, 2) := by decide +kernel
theorem dX8_begin_10 : decode cX8_begin 10 = .ok (.invokestatic 23, 3) := by decide +kernel
theorem dX8_begin_13 : decode cX8_begin 13 = .ok (.invokestatic 29, 3) := by decide +kernel
theorem dX8_begin_16 : decode cX8_begin 16 = .ok (.putfield 32, 3) := by decide +kernel
theorem dX8_begin_19 : decode cX8_begin 19 = .ok (.iconst 0, 1) := by decide +kernel
theorem dX8_begin_20 : decode cX8_begin 20 = .ok (.istore_n 3, 1) := by decide +kernel
theorem dX8_begin_21 : decode cX8_begin 21 = .ok (.iload_n 3, 1) := by decide +kernel
theorem dX8_begin_22 : decode cX8_begin 22 = .ok (.bipush 60, 2) := by decide +kernel
theorem dX8_begin_24 : decode cX8_begin 24 = .ok (.if_icmp .ge 23, 3) := by decide +kernel
theorem dX8_begin_27 : decode cX8_begin 27 = .ok (.aload_n 0, 1) := by decide +kernel
theorem dX8_begin_28 : decode cX8_begin 28 = .ok (.getfield 15, 3) := by decide +kernel
theorem dX8_begin_31 : decode cX8_begin 31 = .ok (.iload_n 3, 1) := by decide +kernel
theorem dX8_begin_32 : decode cX8_begin 32 = .ok (.iconst 0, 1) := by decide +kernel
theorem dX8_begin_33 : decode cX8_begin 33 = .ok (.iastore, 1) := by decide +kernel
theorem dX8_begin_34 : decode cX8_begin 34 = .ok (.aload_n 0, 1) := by decide +kernel
theorem dX8_begin_35 : decode cX8_begin 35 = .ok (.getfield 19, 3) := by decide +kernel
theorem dX8_begin_38 : decode cX8_begin 38 = .ok (.iload_n 3, 1) := by decide +kernel
theorem dX8_begin_39 : decode cX8_begin 39 = .ok (.fconst 0, 1) := by decide +kernel
theorem dX8_begin_40 : decode cX8_begin 40 = .ok (.fastore, 1) := by decide +kernel
theorem dX8_begin_41 : decode cX8_begin 41 = .ok (.iinc 3 1, 3) := by decide +kernel
theorem dX8_begin_44 : decode cX8_begin 44 = .ok (.goto (-23), 3) := by decide +kernel
theorem dX8_begin_47 : decode cX8_begin 47 = .ok (.return_, 1) := by decide +kernel
theorem dX8_isNothing_0 : decode cX8_isNothing 0 = .ok (.aload_n 0, 1) := by decide +kernel
theorem dX8_isNothing_1 : decode cX8_isNothing 1 = .ok (.getfield 9, 3) := by decide +kernel
theorem dX8_isNothing_4 : decode cX8_isNothing 4 = .ok (.ifCond .ge 7, 3) := by decide +kernel
theorem dX8_isNothing_7 : decode cX8_isNothing 7 = .ok (.iconst 1, 1) := by decide +kernel
theorem dX8_isNothing_8 : decode cX8_isNothing 8 = .ok (.goto 4, 3) := by decide +kernel
theorem dX8_isNothing_11 : decode cX8_isNothing 11 = .ok (.iconst 0, 1) := by decide +kernel
theorem dX8_isNothing_12 : decode cX8_isNothing 12 = .ok (.ireturn, 1) := by decide +kernel
theorem dX8_spans_0 : decode cX8_spans 0 = .ok (.iload_n 2, 1) := by decide +kernel
theorem dX8_spans_1 : decode cX8_spans 1 = .ok (.ifCond .lt 29, 3) := by decide +kernel
theorem dX8_spans_4 : decode cX8_spans 4 = .ok (.iload_n 1, 1) := by decide +kernel
theorem dX8_spans_5 : decode cX8_spans 5 = .ok (.ifCond .lt 25, 3) := by decide +kernel
theorem dX8_spans_8 : decode cX8_spans 8 = .ok (.iload_n 2, 1) := by decide +kernel
theorem dX8_spans_9 : decode cX8_spans 9 = .ok (.aload_n 0, 1) := by decide +kernel
theorem dX8_spans_10 : decode cX8_spans 10 = .ok (.getfield 32, 3) := by decide +kernel
theorem dX8_spans_13 : decode cX8_spans 13 = .ok (.if_icmp .gt 17, 3) := by decide +kernel
theorem dX8_spans_16 : decode cX8_spans 16 = .ok (.iload_n 1, 1) := by decide +kernel
theorem dX8_spans_17 : decode cX8_spans 17 = .ok (.aload_n 0, 1) := by decide +kernel
theorem dX8_spans_18 : decode cX8_spans 18 = .ok (.getfield 32, 3) := by decide +kernel
theorem dX8_spans_21 : decode cX8_spans 21 = .ok (.iload_n 2, 1) := by decide +kernel
theorem dX8_spans_22 : decode cX8_spans 22 = .ok (.isub, 1) := by decide +kernel
theorem dX8_spans_23 : decode cX8_spans 23 = .ok (.if_icmp .gt 7, 3) := by decide +kernel
theorem dX8_spans_26 : decode cX8_spans 26 = .ok (.iconst 1, 1) := by decide +kernel
theorem dX8_spans_27 : decode cX8_spans 27 = .ok (.goto 4, 3) := by decide +kernel
theorem dX8_spans_30 : decode cX8_spans 30 = .ok (.iconst 0, 1) := by decide +kernel
theorem dX8_spans_31 : decode cX8_spans 31 = .ok (.ireturn, 1) := by decide +kernel
theorem dX8_put_0 : decode cX8_put 0 = .ok (.iload_n 1, 1) := by decide +kernel
theorem dX8_put_1 : decode cX8_put 1 = .ok (.aload_n 0, 1) := by decide +kernel
theorem dX8_put_2 : decode cX8_put 2 = .ok (.getfield 32, 3) := by decide +kernel
theorem dX8_put_5 : decode cX8_put 5 = .ok (.invokestatic 35, 3) := by decide +kernel
theorem dX8_put_8 : decode cX8_put 8 = .ok (.ifCond .ne 4, 3) := by decide +kernel
theorem dX8_put_11 : decode cX8_put 11 = .ok (.return_, 1) := by decide +kernel
theorem dX8_put_12 : decode cX8_put 12 = .ok (.aload_n 0, 1) := by decide +kernel
theorem dX8_put_13 : decode cX8_put 13 = .ok (.getfield 9, 3) := by decide +kernel
theorem dX8_put_16 : decode cX8_put 16 = .ok (.iconst 2, 1) := by decide +kernel
theorem dX8_put_17 : decode cX8_put 17 = .ok (.if_icmp .ne 14, 3) := by decide +kernel
theorem dX8_put_20 : decode cX8_put 20 = .ok (.aload_n 0, 1) := by decide +kernel
theorem dX8_put_21 : decode cX8_put 21 = .ok (.getfield 19, 3) := by decide +kernel
theorem dX8_put_24 : decode cX8_put 24 = .ok (.iload_n 1, 1) := by decide +kernel
theorem dX8_put_25 : decode cX8_put 25 = .ok (.lload_n 2, 1) := by decide +kernel
theorem dX8_put_26 : decode cX8_put 26 = .ok (.l2f, 1) := by decide +kernel
theorem dX8_put_27 : decode cX8_put 27 = .ok (.fastore, 1) := by decide +kernel
theorem dX8_put_28 : decode cX8_put 28 = .ok (.goto 24, 3) := by decide +kernel
theorem dX8_put_31 : decode cX8_put 31 = .ok (.aload_n 0, 1) := by decide +kernel
theorem dX8_put_32 : decode cX8_put 32 = .ok (.getfield 15, 3) := by decide +kernel
theorem dX8_put_35 : decode cX8_put 35 = .ok (.iload_n 1, 1) := by decide +kernel
theorem dX8_put_36 : decode cX8_put 36 = .ok (.aload_n 0, 1) := by decide +kernel
theorem dX8_put_37 : decode cX8_put 37 = .ok (.getfield 9, 3) := by decide +kernel
theorem dX8_put_40 : decode cX8_put 40 = .ok (.ifCond .ne 9, 3) := by decide +kernel
theorem dX8_put_43 : decode cX8_put 43 = .ok (.lload_n 2, 1) := by decide +kernel
theorem dX8_put_44 : decode cX8_put 44 = .ok (.l2i, 1) := by decide +kernel
theorem dX8_put_45 : decode cX8_put 45 = .ok (.i2b, 1) := by decide +kernel
theorem dX8_put_46 : decode cX8_put 46 = .ok (.goto 5, 3) := by decide +kernel
theorem dX8_put_49 : decode cX8_put 49 = .ok (.lload_n 2, 1) := by decide +kernel
theorem dX8_put_50 : decode cX8_put 50 = .ok (.l2i, 1) := by decide +kernel
theorem dX8_put_51 : decode cX8_put 51 = .ok (.iastore, 1) := by decide +kernel
theorem dX8_put_52 : decode cX8_put 52 = .ok (.return_, 1) := by decide +kernel
theorem dX8_bits_0 : decode cX8_bits 0 = .ok (.iload_n 1, 1) := by decide +kernel
theorem dX8_bits_1 : decode cX8_bits 1 = .ok (.aload_n 0, 1) := by decide +kernel
theorem dX8_bits_2 : decode cX8_bits 2 = .ok (.getfield 32, 3) := by decide +kernel
theorem dX8_bits_5 : decode cX8_bits 5 = .ok (.invokestatic 35, 3) := by decide +kernel
theorem dX8_bits_8 : decode cX8_bits 8 = .ok (.ifCond .ne 7, 3) := by decide +kernel
theorem dX8_bits_11 : decode cX8_bits 11 = .ok (.ldc2_w 39, 3) := by decide +kernel
theorem dX8_bits_14 : decode cX8_bits 14 = .ok (.lreturn, 1) := by decide +kernel
theorem dX8_bits_15 : decode cX8_bits 15 = .ok (.aload_n 0, 1) := by decide +kernel
theorem dX8_bits_16 : decode cX8_bits 16 = .ok (.getfield 9, 3) := by decide +kernel
theorem dX8_bits_19 : decode cX8_bits 19 = .ok (.iconst 2, 1) := by decide +kernel
theorem dX8_bits_20 : decode cX8_bits 20 = .ok (.if_icmp .ne 16, 3) := by decide +kernel
theorem dX8_bits_23 : decode cX8_bits 23 = .ok (.aload_n 0, 1) := by decide +kernel
theorem dX8_bits_24 : decode cX8_bits 24 = .ok (.getfield 19, 3) := by decide +kernel
theorem dX8_bits_27 : decode cX8_bits 27 = .ok (.iload_n 1, 1) := by decide +kernel
theorem dX8_bits_28 : decode cX8_bits 28 = .ok (.faload, 1) := by decide +kernel
theorem dX8_bits_29 : decode cX8_bits 29 = .ok (.invokestatic 41, 3) := by decide +kernel
theorem dX8_bits_32 : decode cX8_bits 32 = .ok (.i2l, 1) := by decide +kernel
theorem dX8_bits_33 : decode cX8_bits 33 = .ok (.goto 10, 3) := by decide +kernel
theorem dX8_bits_36 : decode cX8_bits 36 = .ok (.aload_n 0, 1) := by decide +kernel
theorem dX8_bits_37 : decode cX8_bits 37 = .ok (.getfield 15, 3) := by decide +kernel
theorem dX8_bits_40 : decode cX8_bits 40 = .ok (.iload_n 1, 1) := by decide +kernel
theorem dX8_bits_41 : decode cX8_bits 41 = .ok (.iaload, 1) := by decide +kernel
theorem dX8_bits_42 : decode cX8_bits 42 = .ok (.i2l, 1) := by decide +kernel
theorem dX8_bits_43 : decode cX8_bits 43 = .ok (.lreturn, 1) := by decide +kernel
theorem dX8_whole_0 : decode cX8_whole 0 = .ok (.iload_n 1, 1) := by decide +kernel
theorem dX8_whole_1 : decode cX8_whole 1 = .ok (.aload_n 0, 1) := by decide +kernel
theorem dX8_whole_2 : decode cX8_whole 2 = .ok (.getfield 32, 3) := by decide +kernel
theorem dX8_whole_5 : decode cX8_whole 5 = .ok (.invokestatic 35, 3) := by decide +kernel
theorem dX8_whole_8 : decode cX8_whole 8 = .ok (.ifCond .ne 5, 3) := by decide +kernel
theorem dX8_whole_11 : decode cX8_whole 11 = .ok (.iconst 0, 1) := by decide +kernel
theorem dX8_whole_12 : decode cX8_whole 12 = .ok (.ireturn, 1) := by decide +kernel
theorem dX8_whole_13 : decode cX8_whole 13 = .ok (.aload_n 0, 1) := by decide +kernel
theorem dX8_whole_14 : decode cX8_whole 14 = .ok (.getfield 9, 3) := by decide +kernel
theorem dX8_whole_17 : decode cX8_whole 17 = .ok (.iconst 2, 1) := by decide +kernel
theorem dX8_whole_18 : decode cX8_whole 18 = .ok (.if_icmp .ne 13, 3) := by decide +kernel
theorem dX8_whole_21 : decode cX8_whole 21 = .ok (.aload_n 0, 1) := by decide +kernel
theorem dX8_whole_22 : decode cX8_whole 22 = .ok (.getfield 19, 3) := by decide +kernel
theorem dX8_whole_25 : decode cX8_whole 25 = .ok (.iload_n 1, 1) := by decide +kernel
theorem dX8_whole_26 : decode cX8_whole 26 = .ok (.faload, 1) := by decide +kernel
theorem dX8_whole_27 : decode cX8_whole 27 = .ok (.f2i, 1) := by decide +kernel
theorem dX8_whole_28 : decode cX8_whole 28 = .ok (.goto 9, 3) := by decide +kernel
theorem dX8_whole_31 : decode cX8_whole 31 = .ok (.aload_n 0, 1) := by decide +kernel
theorem dX8_whole_32 : decode cX8_whole 32 = .ok (.getfield 15, 3) := by decide +kernel
theorem dX8_whole_35 : decode cX8_whole 35 = .ok (.iload_n 1, 1) := by decide +kernel
theorem dX8_whole_36 : decode cX8_whole 36 = .ok (.iaload, 1) := by decide +kernel
theorem dX8_whole_37 : decode cX8_whole 37 = .ok (.ireturn, 1) := by decide +kernel
theorem dX8_take_0 : decode cX8_take 0 = .ok (.aload_n 1, 1) := by decide +kernel
theorem dX8_take_1 : decode cX8_take 1 = .ok (.iload_n 2, 1) := by decide +kernel
theorem dX8_take_2 : decode cX8_take 2 = .ok (.iload 4, 2) := by decide +kernel
theorem dX8_take_4 : decode cX8_take 4 = .ok (.invokevirtual 47, 3) := by decide +kernel
theorem dX8_take_7 : decode cX8_take 7 = .ok (.ifCond .eq 13, 3) := by decide +kernel
theorem dX8_take_10 : decode cX8_take 10 = .ok (.aload_n 0, 1) := by decide +kernel
theorem dX8_take_11 : decode cX8_take 11 = .ok (.iload_n 3, 1) := by decide +kernel
theorem dX8_take_12 : decode cX8_take 12 = .ok (.iload 4, 2) := by decide +kernel
theorem dX8_take_14 : decode cX8_take 14 = .ok (.invokevirtual 47, 3) := by decide +kernel
theorem dX8_take_17 : decode cX8_take 17 = .ok (.ifCond .ne 4, 3) := by decide +kernel
theorem dX8_take_20 : decode cX8_take 20 = .ok (.return_, 1) := by decide +kernel
theorem dX8_take_21 : decode cX8_take 21 = .ok (.aload_n 1, 1) := by decide +kernel
theorem dX8_take_22 : decode cX8_take 22 = .ok (.getfield 15, 3) := by decide +kernel
theorem dX8_take_25 : decode cX8_take 25 = .ok (.iload_n 2, 1) := by decide +kernel
theorem dX8_take_26 : decode cX8_take 26 = .ok (.aload_n 0, 1) := by decide +kernel
theorem dX8_take_27 : decode cX8_take 27 = .ok (.getfield 15, 3) := by decide +kernel
theorem dX8_take_30 : decode cX8_take 30 = .ok (.iload_n 3, 1) := by decide +kernel
theorem dX8_take_31 : decode cX8_take 31 = .ok (.iload 4, 2) := by decide +kernel
theorem dX8_take_33 : decode cX8_take 33 = .ok (.invokestatic 50, 3) := by decide +kernel
theorem dX8_take_36 : decode cX8_take 36 = .ok (.aload_n 1, 1) := by decide +kernel
theorem dX8_take_37 : decode cX8_take 37 = .ok (.getfield 19, 3) := by decide +kernel
theorem dX8_take_40 : decode cX8_take 40 = .ok (.iload_n 2, 1) := by decide +kernel
theorem dX8_take_41 : decode cX8_take 41 = .ok (.aload_n 0, 1) := by decide +kernel
theorem dX8_take_42 : decode cX8_take 42 = .ok (.getfield 19, 3) := by decide +kernel
theorem dX8_take_45 : decode cX8_take 45 = .ok (.iload_n 3, 1) := by decide +kernel
theorem dX8_take_46 : decode cX8_take 46 = .ok (.iload 4, 2) := by decide +kernel
theorem dX8_take_48 : decode cX8_take 48 = .ok (.invokestatic 50, 3) := by decide +kernel
theorem dX8_take_51 : decode cX8_take 51 = .ok (.return_, 1) := by decide +kernel
theorem dX9_init_0 : decode cX9_init 0 = .ok (.aload_n 0, 1) := by decide +kernel
theorem dX9_init_1 : decode cX9_init 1 = .ok (.invokespecial 3, 3) := by decide +kernel
theorem dX9_init_4 : decode cX9_init 4 = .ok (.aload_n 0, 1) := by decide +kernel
theorem dX9_init_5 : decode cX9_init 5 = .ok (.bipush 8, 2) := by decide +kernel
theorem dX9_init_7 : decode cX9_init 7 = .ok (.anewarray 9, 3) := by decide +kernel
theorem dX9_init_10 : decode cX9_init 10 = .ok (.putfield 11, 3) := by decide +kernel
theorem dX9_init_13 : decode cX9_init 13 = .ok (.aload_n 0, 1) := by decide +kernel
theorem dX9_init_14 : decode cX9_init 14 = .ok (.bipush 6, 2) := by decide +kernel
theorem dX9_init_16 : decode cX9_init 16 = .ok (.anewarray 17, 3) := by decide +kernel
theorem dX9_init_19 : decode cX9_init 19 = .ok (.putfield 19, 3) := by decide +kernel
theorem dX9_init_22 : decode cX9_init 22 = .ok (.aload_n 0, 1) := by decide +kernel
theorem dX9_init_23 : decode cX9_init 23 = .ok (.new 23, 3) := by decide +kernel
theorem dX9_init_26 : decode cX9_init 26 = .ok (.dup, 1) := by decide +kernel
theorem dX9_init_27 : decode cX9_init 27 = .ok (.sipush 400, 3) := by decide +kernel
theorem dX9_init_30 : decode cX9_init 30 = .ok (.invokespecial 25, 3) := by decide +kernel
theorem dX9_init_33 : decode cX9_init 33 = .ok (.putfield 28, 3) := by decide +kernel
theorem dX9_init_36 : decode cX9_init 36 = .ok (.aload_n 0, 1) := by decide +kernel
theorem dX9_init_37 : decode cX9_init 37 = .ok (.sipush 200, 3) := by decide +kernel
theorem dX9_init_40 : decode cX9_init 40 = .ok (.putfield 32, 3) := by decide +kernel
theorem dX9_init_43 : decode cX9_init 43 = .ok (.iconst 0, 1) := by decide +kernel
theorem dX9_init_44 : decode cX9_init 44 = .ok (.istore_n 1, 1) := by decide +kernel
theorem dX9_init_45 : decode cX9_init 45 = .ok (.iload_n 1, 1) := by decide +kernel
theorem dX9_init_46 : decode cX9_init 46 = .ok (.bipush 8, 2) := by decide +kernel
theorem dX9_init_48 : decode cX9_init 48 = .ok (.if_icmp .ge 22, 3) := by decide +kernel
theorem dX9_init_51 : decode cX9_init 51 = .ok (.aload_n 0, 1) := by decide +kernel
theorem dX9_init_52 : decode cX9_init 52 = .ok (.getfield 11, 3) := by decide +kernel
theorem dX9_init_55 : decode cX9_init 55 = .ok (.iload_n 1, 1) := by decide +kernel
theorem dX9_init_56 : decode cX9_init 56 = .ok (.new 9, 3) := by decide +kernel
theorem dX9_init_59 : decode cX9_init 59 = .ok (.dup, 1) := by decide +kernel
theorem dX9_init_60 : decode cX9_init 60 = .ok (.invokespecial 36, 3) := by decide +kernel
theorem dX9_init_63 : decode cX9_init 63 = .ok (.aastore, 1) := by decide +kernel
theorem dX9_init_64 : decode cX9_init 64 = .ok (.iinc 1 1, 3) := by decide +kernel
theorem dX9_init_67 : decode cX9_init 67 = .ok (.goto (-22), 3) := by decide +kernel
theorem dX9_init_70 : decode cX9_init 70 = .ok (.return_, 1) := by decide +kernel
theorem dX9_variable_0 : decode cX9_variable 0 = .ok (.iload_n 1, 1) := by decide +kernel
theorem dX9_variable_1 : decode cX9_variable 1 = .ok (.bipush 8, 2) := by decide +kernel
theorem dX9_variable_3 : decode cX9_variable 3 = .ok (.invokestatic 37, 3) := by decide +kernel
theorem dX9_variable_6 : decode cX9_variable 6 = .ok (.ifCond .eq 12, 3) := by decide +kernel
theorem dX9_variable_9 : decode cX9_variable 9 = .ok (.aload_n 0, 1) := by decide +kernel
theorem dX9_variable_10 : decode cX9_variable 10 = .ok (.getfield 11, 3) := by decide +kernel
theorem dX9_variable_13 : decode cX9_variable 13 = .ok (.iload_n 1, 1) := by decide +kernel
theorem dX9_variable_14 : decode cX9_variable 14 = .ok (.aaload, 1) := by decide +kernel
theorem dX9_variable_15 : decode cX9_variable 15 = .ok (.goto 4, 3) := by decide +kernel
theorem dX9_variable_18 : decode cX9_variable 18 = .ok (.aconst_null, 1) := by decide +kernel
theorem dX9_variable_19 : decode cX9_variable 19 = .ok (.areturn, 1) := by decide +kernel
theorem dX9_held_0 : decode cX9_held 0 = .ok (.iload_n 1, 1) := by decide +kernel
theorem dX9_held_1 : decode cX9_held 1 = .ok (.bipush 6, 2) := by decide +kernel
theorem dX9_held_3 : decode cX9_held 3 = .ok (.invokestatic 37, 3) := by decide +kernel
theorem dX9_held_6 : decode cX9_held 6 = .ok (.ifCond .eq 12, 3) := by decide +kernel
