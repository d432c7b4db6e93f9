theorem dX9_held_9 : decode cX9_held 9 = .ok (.aload_n 0, 1) := by decide +kernel
theorem dX9_held_10 : decode cX9_held 10 = .ok (.getfield 19, 3) := by decide +kernel
theorem dX9_held_13 : decode cX9_held 13 = .ok (.iload_n 1, 1) := by decide +kernel
theorem dX9_held_14 : decode cX9_held 14 = .ok (.aaload, 1) := by decide +kernel
theorem dX9_held_15 : decode cX9_held 15 = .ok (.goto 4, 3) := by decide +kernel
theorem dX9_held_18 : decode cX9_held 18 = .ok (.aconst_null, 1) := by decide +kernel
theorem dX9_held_19 : decode cX9_held 19 = .ok (.areturn, 1) := by decide +kernel
theorem dX9_holding_0 : decode cX9_holding 0 = .ok (.iconst 0, 1) := by decide +kernel
theorem dX9_holding_1 : decode cX9_holding 1 = .ok (.istore_n 1, 1) := by decide +kernel
theorem dX9_holding_2 : decode cX9_holding 2 = .ok (.iconst 0, 1) := by decide +kernel
theorem dX9_holding_3 : decode cX9_holding 3 = .ok (.istore_n 2, 1) := by decide +kernel
theorem dX9_holding_4 : decode cX9_holding 4 = .ok (.iload_n 2, 1) := by decide +kernel
theorem dX9_holding_5 : decode cX9_holding 5 = .ok (.bipush 6, 2) := by decide +kernel
theorem dX9_holding_7 : decode cX9_holding 7 = .ok (.if_icmp .ge 24, 3) := by decide +kernel
theorem dX9_holding_10 : decode cX9_holding 10 = .ok (.aload_n 0, 1) := by decide +kernel
theorem dX9_holding_11 : decode cX9_holding 11 = .ok (.getfield 19, 3) := by decide +kernel
theorem dX9_holding_14 : decode cX9_holding 14 = .ok (.iload_n 2, 1) := by decide +kernel
theorem dX9_holding_15 : decode cX9_holding 15 = .ok (.aaload, 1) := by decide +kernel
theorem dX9_holding_16 : decode cX9_holding 16 = .ok (.ifnull 9, 3) := by decide +kernel
theorem dX9_holding_19 : decode cX9_holding 19 = .ok (.iload_n 1, 1) := by decide +kernel
theorem dX9_holding_20 : decode cX9_holding 20 = .ok (.iconst 1, 1) := by decide +kernel
theorem dX9_holding_21 : decode cX9_holding 21 = .ok (.iload_n 2, 1) := by decide +kernel
theorem dX9_holding_22 : decode cX9_holding 22 = .ok (.ishl, 1) := by decide +kernel
theorem dX9_holding_23 : decode cX9_holding 23 = .ok (.ior, 1) := by decide +kernel
theorem dX9_holding_24 : decode cX9_holding 24 = .ok (.istore_n 1, 1) := by decide +kernel
theorem dX9_holding_25 : decode cX9_holding 25 = .ok (.iinc 2 1, 3) := by decide +kernel
theorem dX9_holding_28 : decode cX9_holding 28 = .ok (.goto (-24), 3) := by decide +kernel
theorem dX9_holding_31 : decode cX9_holding 31 = .ok (.iload_n 1, 1) := by decide +kernel
theorem dX9_holding_32 : decode cX9_holding 32 = .ok (.ireturn, 1) := by decide +kernel
theorem dX9_copy_0 : decode cX9_copy 0 = .ok (.iconst 0, 1) := by decide +kernel
theorem dX9_copy_1 : decode cX9_copy 1 = .ok (.istore_n 2, 1) := by decide +kernel
theorem dX9_copy_2 : decode cX9_copy 2 = .ok (.iload_n 2, 1) := by decide +kernel
theorem dX9_copy_3 : decode cX9_copy 3 = .ok (.bipush 8, 2) := by decide +kernel
theorem dX9_copy_5 : decode cX9_copy 5 = .ok (.if_icmp .ge 24, 3) := by decide +kernel
theorem dX9_copy_8 : decode cX9_copy 8 = .ok (.aload_n 0, 1) := by decide +kernel
theorem dX9_copy_9 : decode cX9_copy 9 = .ok (.getfield 11, 3) := by decide +kernel
theorem dX9_copy_12 : decode cX9_copy 12 = .ok (.iload_n 2, 1) := by decide +kernel
theorem dX9_copy_13 : decode cX9_copy 13 = .ok (.aaload, 1) := by decide +kernel
theorem dX9_copy_14 : decode cX9_copy 14 = .ok (.aload_n 1, 1) := by decide +kernel
theorem dX9_copy_15 : decode cX9_copy 15 = .ok (.getfield 11, 3) := by decide +kernel
theorem dX9_copy_18 : decode cX9_copy 18 = .ok (.iload_n 2, 1) := by decide +kernel
theorem dX9_copy_19 : decode cX9_copy 19 = .ok (.aaload, 1) := by decide +kernel
theorem dX9_copy_20 : decode cX9_copy 20 = .ok (.invokevirtual 41, 3) := by decide +kernel
theorem dX9_copy_23 : decode cX9_copy 23 = .ok (.iinc 2 1, 3) := by decide +kernel
theorem dX9_copy_26 : decode cX9_copy 26 = .ok (.goto (-24), 3) := by decide +kernel
theorem dX9_copy_29 : decode cX9_copy 29 = .ok (.iconst 0, 1) := by decide +kernel
theorem dX9_copy_30 : decode cX9_copy 30 = .ok (.istore_n 2, 1) := by decide +kernel
theorem dX9_copy_31 : decode cX9_copy 31 = .ok (.iload_n 2, 1) := by decide +kernel
theorem dX9_copy_32 : decode cX9_copy 32 = .ok (.bipush 6, 2) := by decide +kernel
theorem dX9_copy_34 : decode cX9_copy 34 = .ok (.if_icmp .ge 21, 3) := by decide +kernel
theorem dX9_copy_37 : decode cX9_copy 37 = .ok (.aload_n 0, 1) := by decide +kernel
theorem dX9_copy_38 : decode cX9_copy 38 = .ok (.getfield 19, 3) := by decide +kernel
theorem dX9_copy_41 : decode cX9_copy 41 = .ok (.iload_n 2, 1) := by decide +kernel
theorem dX9_copy_42 : decode cX9_copy 42 = .ok (.aload_n 1, 1) := by decide +kernel
theorem dX9_copy_43 : decode cX9_copy 43 = .ok (.getfield 19, 3) := by decide +kernel
theorem dX9_copy_46 : decode cX9_copy 46 = .ok (.iload_n 2, 1) := by decide +kernel
theorem dX9_copy_47 : decode cX9_copy 47 = .ok (.aaload, 1) := by decide +kernel
theorem dX9_copy_48 : decode cX9_copy 48 = .ok (.aastore, 1) := by decide +kernel
theorem dX9_copy_49 : decode cX9_copy 49 = .ok (.iinc 2 1, 3) := by decide +kernel
theorem dX9_copy_52 : decode cX9_copy 52 = .ok (.goto (-21), 3) := by decide +kernel
theorem dX9_copy_55 : decode cX9_copy 55 = .ok (.aload_n 0, 1) := by decide +kernel
theorem dX9_copy_56 : decode cX9_copy 56 = .ok (.getfield 28, 3) := by decide +kernel
theorem dX9_copy_59 : decode cX9_copy 59 = .ok (.aload_n 1, 1) := by decide +kernel
theorem dX9_copy_60 : decode cX9_copy 60 = .ok (.getfield 28, 3) := by decide +kernel
theorem dX9_copy_63 : decode cX9_copy 63 = .ok (.invokevirtual 45, 3) := by decide +kernel
theorem dX9_copy_66 : decode cX9_copy 66 = .ok (.aload_n 0, 1) := by decide +kernel
theorem dX9_copy_67 : decode cX9_copy 67 = .ok (.aload_n 1, 1) := by decide +kernel
theorem dX9_copy_68 : decode cX9_copy 68 = .ok (.getfield 32, 3) := by decide +kernel
theorem dX9_copy_71 : decode cX9_copy 71 = .ok (.putfield 32, 3) := by decide +kernel
theorem dX9_copy_74 : decode cX9_copy 74 = .ok (.return_, 1) := by decide +kernel
theorem dX10_init_0 : decode cX10_init 0 = .ok (.aload_n 0, 1) := by decide +kernel
theorem dX10_init_1 : decode cX10_init 1 = .ok (.invokespecial 3, 3) := by decide +kernel
theorem dX10_init_4 : decode cX10_init 4 = .ok (.aload_n 0, 1) := by decide +kernel
theorem dX10_init_5 : decode cX10_init 5 = .ok (.iconst 4, 1) := by decide +kernel
theorem dX10_init_6 : decode cX10_init 6 = .ok (.anewarray 9, 3) := by decide +kernel
theorem dX10_init_9 : decode cX10_init 9 = .ok (.putfield 11, 3) := by decide +kernel
theorem dX10_init_12 : decode cX10_init 12 = .ok (.aload_n 0, 1) := by decide +kernel
theorem dX10_init_13 : decode cX10_init 13 = .ok (.iconst (-1), 1) := by decide +kernel
theorem dX10_init_14 : decode cX10_init 14 = .ok (.putfield 17, 3) := by decide +kernel
theorem dX10_init_17 : decode cX10_init 17 = .ok (.aload_n 0, 1) := by decide +kernel
theorem dX10_init_18 : decode cX10_init 18 = .ok (.iload_n 1, 1) := by decide +kernel
theorem dX10_init_19 : decode cX10_init 19 = .ok (.putfield 21, 3) := by decide +kernel
theorem dX10_init_22 : decode cX10_init 22 = .ok (.return_, 1) := by decide +kernel
theorem dX10_block_0 : decode cX10_block 0 = .ok (.iload_n 1, 1) := by decide +kernel
theorem dX10_block_1 : decode cX10_block 1 = .ok (.iconst 4, 1) := by decide +kernel
theorem dX10_block_2 : decode cX10_block 2 = .ok (.invokestatic 24, 3) := by decide +kernel
theorem dX10_block_5 : decode cX10_block 5 = .ok (.ifCond .eq 12, 3) := by decide +kernel
theorem dX10_block_8 : decode cX10_block 8 = .ok (.aload_n 0, 1) := by decide +kernel
theorem dX10_block_9 : decode cX10_block 9 = .ok (.getfield 11, 3) := by decide +kernel
theorem dX10_block_12 : decode cX10_block 12 = .ok (.iload_n 1, 1) := by decide +kernel
theorem dX10_block_13 : decode cX10_block 13 = .ok (.aaload, 1) := by decide +kernel
theorem dX10_block_14 : decode cX10_block 14 = .ok (.goto 4, 3) := by decide +kernel
theorem dX10_block_17 : decode cX10_block 17 = .ok (.aconst_null, 1) := by decide +kernel
theorem dX10_block_18 : decode cX10_block 18 = .ok (.areturn, 1) := by decide +kernel
theorem dX10_addBlock_0 : decode cX10_addBlock 0 = .ok (.iload_n 1, 1) := by decide +kernel
theorem dX10_addBlock_1 : decode cX10_addBlock 1 = .ok (.iconst 4, 1) := by decide +kernel
theorem dX10_addBlock_2 : decode cX10_addBlock 2 = .ok (.invokestatic 24, 3) := by decide +kernel
theorem dX10_addBlock_5 : decode cX10_addBlock 5 = .ok (.ifCond .eq 19, 3) := by decide +kernel
theorem dX10_addBlock_8 : decode cX10_addBlock 8 = .ok (.aload_n 0, 1) := by decide +kernel
theorem dX10_addBlock_9 : decode cX10_addBlock 9 = .ok (.getfield 11, 3) := by decide +kernel
theorem dX10_addBlock_12 : decode cX10_addBlock 12 = .ok (.iload_n 1, 1) := by decide +kernel
theorem dX10_addBlock_13 : decode cX10_addBlock 13 = .ok (.aaload, 1) := by decide +kernel
theorem dX10_addBlock_14 : decode cX10_addBlock 14 = .ok (.ifnonnull 10, 3) := by decide +kernel
theorem dX10_addBlock_17 : decode cX10_addBlock 17 = .ok (.aload_n 0, 1) := by decide +kernel
theorem dX10_addBlock_18 : decode cX10_addBlock 18 = .ok (.getfield 11, 3) := by decide +kernel
theorem dX10_addBlock_21 : decode cX10_addBlock 21 = .ok (.iload_n 1, 1) := by decide +kernel
theorem dX10_addBlock_22 : decode cX10_addBlock 22 = .ok (.aload_n 2, 1) := by decide +kernel
theorem dX10_addBlock_23 : decode cX10_addBlock 23 = .ok (.aastore, 1) := by decide +kernel
theorem dX10_addBlock_24 : decode cX10_addBlock 24 = .ok (.return_, 1) := by decide +kernel
theorem dX10_letters_0 : decode cX10_letters 0 = .ok (.iconst 0, 1) := by decide +kernel
theorem dX10_letters_1 : decode cX10_letters 1 = .ok (.istore_n 1, 1) := by decide +kernel
theorem dX10_letters_2 : decode cX10_letters 2 = .ok (.iconst 0, 1) := by decide +kernel
theorem dX10_letters_3 : decode cX10_letters 3 = .ok (.istore_n 2, 1) := by decide +kernel
theorem dX10_letters_4 : decode cX10_letters 4 = .ok (.iload_n 2, 1) := by decide +kernel
theorem dX10_letters_5 : decode cX10_letters 5 = .ok (.iconst 4, 1) := by decide +kernel
theorem dX10_letters_6 : decode cX10_letters 6 = .ok (.if_icmp .ge 24, 3) := by decide +kernel
theorem dX10_letters_9 : decode cX10_letters 9 = .ok (.aload_n 0, 1) := by decide +kernel
theorem dX10_letters_10 : decode cX10_letters 10 = .ok (.getfield 11, 3) := by decide +kernel
theorem dX10_letters_13 : decode cX10_letters 13 = .ok (.iload_n 2, 1) := by decide +kernel
theorem dX10_letters_14 : decode cX10_letters 14 = .ok (.aaload, 1) := by decide +kernel
theorem dX10_letters_15 : decode cX10_letters 15 = .ok (.ifnull 9, 3) := by decide +kernel
theorem dX10_letters_18 : decode cX10_letters 18 = .ok (.iload_n 1, 1) := by decide +kernel
theorem dX10_letters_19 : decode cX10_letters 19 = .ok (.iconst 1, 1) := by decide +kernel
theorem dX10_letters_20 : decode cX10_letters 20 = .ok (.iload_n 2, 1) := by decide +kernel
theorem dX10_letters_21 : decode cX10_letters 21 = .ok (.ishl, 1) := by decide +kernel
theorem dX10_letters_22 : decode cX10_letters 22 = .ok (.ior, 1) := by decide +kernel
theorem dX10_letters_23 : decode cX10_letters 23 = .ok (.istore_n 1, 1) := by decide +kernel
theorem dX10_letters_24 : decode cX10_letters 24 = .ok (.iinc 2 1, 3) := by decide +kernel
theorem dX10_letters_27 : decode cX10_letters 27 = .ok (.goto (-23), 3) := by decide +kernel
theorem dX10_letters_30 : decode cX10_letters 30 = .ok (.iload_n 1, 1) := by decide +kernel
theorem dX10_letters_31 : decode cX10_letters 31 = .ok (.ireturn, 1) := by decide +kernel
theorem dX11_init_0 : decode cX11_init 0 = .ok (.aload_n 0, 1) := by decide +kernel
theorem dX11_init_1 : decode cX11_init 1 = .ok (.invokespecial 3, 3) := by decide +kernel
theorem dX11_init_4 : decode cX11_init 4 = .ok (.aload_n 0, 1) := by decide +kernel
theorem dX11_init_5 : decode cX11_init 5 = .ok (.bipush 16, 2) := by decide +kernel
theorem dX11_init_7 : decode cX11_init 7 = .ok (.newarray .int, 2) := by decide +kernel
theorem dX11_init_9 : decode cX11_init 9 = .ok (.putfield 9, 3) := by decide +kernel
theorem dX11_init_12 : decode cX11_init 12 = .ok (.return_, 1) := by decide +kernel
theorem dX11_isInt_0 : decode cX11_isInt 0 = .ok (.lload_n 0, 1) := by decide +kernel
theorem dX11_isInt_1 : decode cX11_isInt 1 = .ok (.ldc2_w 15, 3) := by decide +kernel
theorem dX11_isInt_4 : decode cX11_isInt 4 = .ok (.lcmp, 1) := by decide +kernel
theorem dX11_isInt_5 : decode cX11_isInt 5 = .ok (.ifCond .lt 15, 3) := by decide +kernel
theorem dX11_isInt_8 : decode cX11_isInt 8 = .ok (.lload_n 0, 1) := by decide +kernel
theorem dX11_isInt_9 : decode cX11_isInt 9 = .ok (.ldc2_w 17, 3) := by decide +kernel
theorem dX11_isInt_12 : decode cX11_isInt 12 = .ok (.lcmp, 1) := by decide +kernel
theorem dX11_isInt_13 : decode cX11_isInt 13 = .ok (.ifCond .gt 7, 3) := by decide +kernel
theorem dX11_isInt_16 : decode cX11_isInt 16 = .ok (.iconst 1, 1) := by decide +kernel
theorem dX11_isInt_17 : decode cX11_isInt 17 = .ok (.goto 4, 3) := by decide +kernel
theorem dX11_isInt_20 : decode cX11_isInt 20 = .ok (.iconst 0, 1) := by decide +kernel
theorem dX11_isInt_21 : decode cX11_isInt 21 = .ok (.ireturn, 1) := by decide +kernel
theorem dX11_at_0 : decode cX11_at 0 = .ok (.iload_n 1, 1) := by decide +kernel
theorem dX11_at_1 : decode cX11_at 1 = .ok (.ifCond .lt 29, 3) := by decide +kernel
theorem dX11_at_4 : decode cX11_at 4 = .ok (.iload_n 1, 1) := by decide +kernel
theorem dX11_at_5 : decode cX11_at 5 = .ok (.aload_n 0, 1) := by decide +kernel
theorem dX11_at_6 : decode cX11_at 6 = .ok (.getfield 19, 3) := by decide +kernel
theorem dX11_at_9 : decode cX11_at 9 = .ok (.if_icmp .ge 21, 3) := by decide +kernel
theorem dX11_at_12 : decode cX11_at 12 = .ok (.iload_n 1, 1) := by decide +kernel
theorem dX11_at_13 : decode cX11_at 13 = .ok (.aload_n 0, 1) := by decide +kernel
theorem dX11_at_14 : decode cX11_at 14 = .ok (.getfield 9, 3) := by decide +kernel
theorem dX11_at_17 : decode cX11_at 17 = .ok (.arraylength, 1) := by decide +kernel
theorem dX11_at_18 : decode cX11_at 18 = .ok (.if_icmp .ge 12, 3) := by decide +kernel
theorem dX11_at_21 : decode cX11_at 21 = .ok (.aload_n 0, 1) := by decide +kernel
theorem dX11_at_22 : decode cX11_at 22 = .ok (.getfield 9, 3) := by decide +kernel
theorem dX11_at_25 : decode cX11_at 25 = .ok (.iload_n 1, 1) := by decide +kernel
theorem dX11_at_26 : decode cX11_at 26 = .ok (.iaload, 1) := by decide +kernel
theorem dX11_at_27 : decode cX11_at 27 = .ok (.goto 4, 3) := by decide +kernel
theorem dX11_at_30 : decode cX11_at 30 = .ok (.iconst 0, 1) := by decide +kernel
theorem dX11_at_31 : decode cX11_at 31 = .ok (.ireturn, 1) := by decide +kernel
theorem dX11_put_0 : decode cX11_put 0 = .ok (.iload_n 1, 1) := by decide +kernel
theorem dX11_put_1 : decode cX11_put 1 = .ok (.ifCond .lt 27, 3) := by decide +kernel
theorem dX11_put_4 : decode cX11_put 4 = .ok (.iload_n 1, 1) := by decide +kernel
theorem dX11_put_5 : decode cX11_put 5 = .ok (.aload_n 0, 1) := by decide +kernel
theorem dX11_put_6 : decode cX11_put 6 = .ok (.getfield 19, 3) := by decide +kernel
theorem dX11_put_9 : decode cX11_put 9 = .ok (.if_icmp .ge 19, 3) := by decide +kernel
theorem dX11_put_12 : decode cX11_put 12 = .ok (.iload_n 1, 1) := by decide +kernel
theorem dX11_put_13 : decode cX11_put 13 = .ok (.aload_n 0, 1) := by decide +kernel
theorem dX11_put_14 : decode cX11_put 14 = .ok (.getfield 9, 3) := by decide +kernel
theorem dX11_put_17 : decode cX11_put 17 = .ok (.arraylength, 1) := by decide +kernel
theorem dX11_put_18 : decode cX11_put 18 = .ok (.if_icmp .ge 10, 3) := by decide +kernel
theorem dX11_put_21 : decode cX11_put 21 = .ok (.aload_n 0, 1) := by decide +kernel
theorem dX11_put_22 : decode cX11_put 22 = .ok (.getfield 9, 3) := by decide +kernel
theorem dX11_put_25 : decode cX11_put 25 = .ok (.iload_n 1, 1) := by decide +kernel
theorem dX11_put_26 : decode cX11_put 26 = .ok (.iload_n 2, 1) := by decide +kernel
theorem dX11_put_27 : decode cX11_put 27 = .ok (.iastore, 1) := by decide +kernel
theorem dX11_put_28 : decode cX11_put 28 = .ok (.return_, 1) := by decide +kernel
theorem dX11_copy_0 : decode cX11_copy 0 = .ok (.aload_n 0, 1) := by decide +kernel
theorem dX11_copy_1 : decode cX11_copy 1 = .ok (.aload_n 1, 1) := by decide +kernel
theorem dX11_copy_2 : decode cX11_copy 2 = .ok (.getfield 23, 3) := by decide +kernel
theorem dX11_copy_5 : decode cX11_copy 5 = .ok (.putfield 23, 3) := by decide +kernel
theorem dX11_copy_8 : decode cX11_copy 8 = .ok (.aload_n 0, 1) := by decide +kernel
theorem dX11_copy_9 : decode cX11_copy 9 = .ok (.aload_n 1, 1) := by decide +kernel
theorem dX11_copy_10 : decode cX11_copy 10 = .ok (.getfield 26, 3) := by decide +kernel
theorem dX11_copy_13 : decode cX11_copy 13 = .ok (.putfield 26, 3) := by decide +kernel
theorem dX11_copy_16 : decode cX11_copy 16 = .ok (.aload_n 0, 1) := by decide +kernel
theorem dX11_copy_17 : decode cX11_copy 17 = .ok (.aload_n 1, 1) := by decide +kernel
theorem dX11_copy_18 : decode cX11_copy 18 = .ok (.getfield 29, 3) := by decide +kernel
theorem dX11_copy_21 : decode cX11_copy 21 = .ok (.putfield 29, 3) := by decide +kernel
theorem dX11_copy_24 : decode cX11_copy 24 = .ok (.aload_n 0, 1) := by decide +kernel
theorem dX11_copy_25 : decode cX11_copy 25 = .ok (.aload_n 1, 1) := by decide +kernel
theorem dX11_copy_26 : decode cX11_copy 26 = .ok (.getfield 19, 3) := by decide +kernel
theorem dX11_copy_29 : decode cX11_copy 29 = .ok (.putfield 19, 3) := by decide +kernel
theorem dX11_copy_32 : decode cX11_copy 32 = .ok (.aload_n 1, 1) := by decide +kernel
theorem dX11_copy_33 : decode cX11_copy 33 = .ok (.getfield 9, 3) := by decide +kernel
theorem dX11_copy_36 : decode cX11_copy 36 = .ok (.iconst 0, 1) := by decide +kernel
theorem dX11_copy_37 : decode cX11_copy 37 = .ok (.aload_n 0, 1) := by decide +kernel
theorem dX11_copy_38 : decode cX11_copy 38 = .ok (.getfield 9, 3) := by decide +kernel
theorem dX11_copy_41 : decode cX11_copy 41 = .ok (.iconst 0, 1) := by decide +kernel
theorem dX11_copy_42 : decode cX11_copy 42 = .ok (.aload_n 0, 1) := by decide +kernel
theorem dX11_copy_43 : decode cX11_copy 43 = .ok (.getfield 9, 3) := by decide +kernel
theorem dX11_copy_46 : decode cX11_copy 46 = .ok (.arraylength, 1) := by decide +kernel
theorem dX11_copy_47 : decode cX11_copy 47 = .ok (.invokestatic 33, 3) := by decide +kernel
theorem dX11_copy_50 : decode cX11_copy 50 = .ok (.return_, 1) := by decide +kernel
theorem dX11_becomeNothing_0 : decode cX11_becomeNothing 0 = .ok (.aload_n 0, 1) := by decide +kernel
theorem dX11_becomeNothing_1 : decode cX11_becomeNothing 1 = .ok (.iconst 0, 1) := by decide +kernel
theorem dX11_becomeNothing_2 : decode cX11_becomeNothing 2 = .ok (.putfield 23, 3) := by decide +kernel
theorem dX11_becomeNothing_5 : decode cX11_becomeNothing 5 = .ok (.aload_n 0, 1) := by decide +kernel
theorem dX11_becomeNothing_6 : decode cX11_becomeNothing 6 = .ok (.iconst 0, 1) := by decide +kernel
theorem dX11_becomeNothing_7 : decode cX11_becomeNothing 7 = .ok (.putfield 19, 3) := by decide +kernel
theorem dX11_becomeNothing_10 : decode cX11_becomeNothing 10 = .ok (.return_, 1) := by decide +kernel
theorem dX11_becomeInt_0 : decode cX11_becomeInt 0 = .ok (.aload_n 0, 1) := by decide +kernel
theorem dX11_becomeInt_1 : decode cX11_becomeInt 1 = .ok (.iconst 1, 1) := by decide +kernel
theorem dX11_becomeInt_2 : decode cX11_becomeInt 2 = .ok (.putfield 23, 3) := by decide +kernel
theorem dX11_becomeInt_5 : decode cX11_becomeInt 5 = .ok (.aload_n 0, 1) := by decide +kernel
theorem dX11_becomeInt_6 : decode cX11_becomeInt 6 = .ok (.iload_n 1, 1) := by decide +kernel
theorem dX11_becomeInt_7 : decode cX11_becomeInt 7 = .ok (.putfield 26, 3) := by decide +kernel
theorem dX11_becomeInt_10 : decode cX11_becomeInt 10 = .ok (.aload_n 0, 1) := by decide +kernel
theorem dX11_becomeInt_11 : decode cX11_becomeInt 11 = .ok (.iconst 0, 1) := by decide +kernel
theorem dX11_becomeInt_12 : decode cX11_becomeInt 12 = .ok (.putfield 19, 3) := by decide +kernel
theorem dX11_becomeInt_15 : decode cX11_becomeInt 15 = .ok (.return_, 1) := by decide +kernel
theorem dX11_becomeReal_0 : decode cX11_becomeReal 0 = .ok (.aload_n 0, 1) := by decide +kernel
theorem dX11_becomeReal_1 : decode cX11_becomeReal 1 = .ok (.iconst 2, 1) := by decide +kernel
theorem dX11_becomeReal_2 : decode cX11_becomeReal 2 = .ok (.putfield 23, 3) := by decide +kernel
theorem dX11_becomeReal_5 : decode cX11_becomeReal 5 = .ok (.aload_n 0, 1) := by decide +kernel
theorem dX11_becomeReal_6 : decode cX11_becomeReal 6 = .ok (.fload_n 1, 1) := by decide +kernel
theorem dX11_becomeReal_7 : decode cX11_becomeReal 7 = .ok (.ldc 39, 2) := by decide +kernel
theorem dX11_becomeReal_9 : decode cX11_becomeReal 9 = .ok (.fcmp .l, 1) := by decide +kernel
theorem dX11_becomeReal_10 : decode cX11_becomeReal 10 = .ok (.ifCond .le 8, 3) := by decide +kernel
theorem dX11_becomeReal_13 : decode cX11_becomeReal 13 = .ok (.ldc 39, 2) := by decide +kernel
theorem dX11_becomeReal_15 : decode cX11_becomeReal 15 = .ok (.goto 26, 3) := by decide +kernel
theorem dX11_becomeReal_18 : decode cX11_becomeReal 18 = .ok (.fload_n 1, 1) := by decide +kernel
theorem dX11_becomeReal_19 : decode cX11_becomeReal 19 = .ok (.ldc 40, 2) := by decide +kernel
theorem dX11_becomeReal_21 : decode cX11_becomeReal 21 = .ok (.fcmp .g, 1) := by decide +kernel
theorem dX11_becomeReal_22 : decode cX11_becomeReal 22 = .ok (.ifCond .ge 8, 3) := by decide +kernel
theorem dX11_becomeReal_25 : decode cX11_becomeReal 25 = .ok (.ldc 40, 2) := by decide +kernel
theorem dX11_becomeReal_27 : decode cX11_becomeReal 27 = .ok (.goto 14, 3) := by decide +kernel
theorem dX11_becomeReal_30 : decode cX11_becomeReal 30 = .ok (.fload_n 1, 1) := by decide +kernel
theorem dX11_becomeReal_31 : decode cX11_becomeReal 31 = .ok (.fconst 0, 1) := by decide +kernel
theorem dX11_becomeReal_32 : decode cX11_becomeReal 32 = .ok (.fcmp .l, 1) := by decide +kernel
theorem dX11_becomeReal_33 : decode cX11_becomeReal 33 = .ok (.ifCond .ne 7, 3) := by decide +kernel
theorem dX11_becomeReal_36 : decode cX11_becomeReal 36 = .ok (.fconst 0, 1) := by decide +kernel
theorem dX11_becomeReal_37 : decode cX11_becomeReal 37 = .ok (.goto 4, 3) := by decide +kernel
theorem dX11_becomeReal_40 : decode cX11_becomeReal 40 = .ok (.fload_n 1, 1) := by decide +kernel
theorem dX11_becomeReal_41 : decode cX11_becomeReal 41 = .ok (.putfield 29, 3) := by decide +kernel
theorem dX11_becomeReal_44 : decode cX11_becomeReal 44 = .ok (.aload_n 0, 1) := by decide +kernel
theorem dX11_becomeReal_45 : decode cX11_becomeReal 45 = .ok (.iconst 0, 1) := by decide +kernel
theorem dX11_becomeReal_46 : decode cX11_becomeReal 46 = .ok (.putfield 19, 3) := by decide +kernel
theorem dX11_becomeReal_49 : decode cX11_becomeReal 49 = .ok (.return_, 1) := by decide +kernel
theorem dX11_becomeList_0 : decode cX11_becomeList 0 = .ok (.aload_n 0, 1) := by decide +kernel
theorem dX11_becomeList_1 : decode cX11_becomeList 1 = .ok (.iconst 4, 1) := by decide +kernel
theorem dX11_becomeList_2 : decode cX11_becomeList 2 = .ok (.putfield 23, 3) := by decide +kernel
theorem dX11_becomeList_5 : decode cX11_becomeList 5 = .ok (.aload_n 0, 1) := by decide +kernel
theorem dX11_becomeList_6 : decode cX11_becomeList 6 = .ok (.iload_n 1, 1) := by decide +kernel
theorem dX11_becomeList_7 : decode cX11_becomeList 7 = .ok (.invokevirtual 41, 3) := by decide +kernel
theorem dX11_becomeList_10 : decode cX11_becomeList 10 = .ok (.iconst 0, 1) := by decide +kernel
theorem dX11_becomeList_11 : decode cX11_becomeList 11 = .ok (.istore_n 2, 1) := by decide +kernel
theorem dX11_becomeList_12 : decode cX11_becomeList 12 = .ok (.iload_n 2, 1) := by decide +kernel
theorem dX11_becomeList_13 : decode cX11_becomeList 13 = .ok (.aload_n 0, 1) := by decide +kernel
theorem dX11_becomeList_14 : decode cX11_becomeList 14 = .ok (.getfield 19, 3) := by decide +kernel
theorem dX11_becomeList_17 : decode cX11_becomeList 17 = .ok (.if_icmp .ge 15, 3) := by decide +kernel
theorem dX11_becomeList_20 : decode cX11_becomeList 20 = .ok (.aload_n 0, 1) := by decide +kernel
theorem dX11_becomeList_21 : decode cX11_becomeList 21 = .ok (.iload_n 2, 1) := by decide +kernel
theorem dX11_becomeList_22 : decode cX11_becomeList 22 = .ok (.iconst 0, 1) := by decide +kernel
theorem dX11_becomeList_23 : decode cX11_becomeList 23 = .ok (.invokevirtual 45, 3) := by decide +kernel
theorem dX11_becomeList_26 : decode cX11_becomeList 26 = .ok (.iinc 2 1, 3) := by decide +kernel
theorem dX11_becomeList_29 : decode cX11_becomeList 29 = .ok (.goto (-17), 3) := by decide +kernel
theorem dX11_becomeList_32 : decode cX11_becomeList 32 = .ok (.return_, 1) := by decide +kernel
theorem dX11_becomeText_0 : decode cX11_becomeText 0 = .ok (.aload_n 1, 1) := by decide +kernel
theorem dX11_becomeText_1 : decode cX11_becomeText 1 = .ok (.getfield 49, 3) := by decide +kernel
theorem dX11_becomeText_4 : decode cX11_becomeText 4 = .ok (.bipush 16, 2) := by decide +kernel
theorem dX11_becomeText_6 : decode cX11_becomeText 6 = .ok (.if_icmp .le 5, 3) := by decide +kernel
theorem dX11_becomeText_9 : decode cX11_becomeText 9 = .ok (.iconst 0, 1) := by decide +kernel
theorem dX11_becomeText_10 : decode cX11_becomeText 10 = .ok (.ireturn, 1) := by decide +kernel
theorem dX11_becomeText_11 : decode cX11_becomeText 11 = .ok (.aload_n 0, 1) := by decide +kernel
theorem dX11_becomeText_12 : decode cX11_becomeText 12 = .ok (.iconst 3, 1) := by decide +kernel
theorem dX11_becomeText_13 : decode cX11_becomeText 13 = .ok (.putfield 23, 3) := by decide +kernel
theorem dX11_becomeText_16 : decode cX11_becomeText 16 = .ok (.aload_n 0, 1) := by decide +kernel
theorem dX11_becomeText_17 : decode cX11_becomeText 17 = .ok (.aload_n 1, 1) := by decide +kernel
theorem dX11_becomeText_18 : decode cX11_becomeText 18 = .ok (.getfield 49, 3) := by decide +kernel
theorem dX11_becomeText_21 : decode cX11_becomeText 21 = .ok (.invokevirtual 41, 3) := by decide +kernel
theorem dX11_becomeText_24 : decode cX11_becomeText 24 = .ok (.iconst 0, 1) := by decide +kernel
theorem dX11_becomeText_25 : decode cX11_becomeText 25 = .ok (.istore_n 2, 1) := by decide +kernel
theorem dX11_becomeText_26 : decode cX11_becomeText 26 = .ok (.iload_n 2, 1) := by decide +kernel
theorem dX11_becomeText_27 : decode cX11_becomeText 27 = .ok (.aload_n 0, 1) := by decide +kernel
theorem dX11_becomeText_28 : decode cX11_becomeText 28 = .ok (.getfield 19, 3) := by decide +kernel
theorem dX11_becomeText_31 : decode cX11_becomeText 31 = .ok (.if_icmp .ge 19, 3) := by decide +kernel
theorem dX11_becomeText_34 : decode cX11_becomeText 34 = .ok (.aload_n 0, 1) := by decide +kernel
theorem dX11_becomeText_35 : decode cX11_becomeText 35 = .ok (.iload_n 2, 1) := by decide +kernel
theorem dX11_becomeText_36 : decode cX11_becomeText 36 = .ok (.aload_n 1, 1) := by decide +kernel
theorem dX11_becomeText_37 : decode cX11_becomeText 37 = .ok (.iload_n 2, 1) := by decide +kernel
theorem dX11_becomeText_38 : decode cX11_becomeText 38 = .ok (.invokevirtual 52, 3) := by decide +kernel
theorem dX11_becomeText_41 : decode cX11_becomeText 41 = .ok (.invokevirtual 45, 3) := by decide +kernel
theorem dX11_becomeText_44 : decode cX11_becomeText 44 = .ok (.iinc 2 1, 3) := by decide +kernel
theorem dX11_becomeText_47 : decode cX11_becomeText 47 = .ok (.goto (-21), 3) := by decide +kernel
theorem dX11_becomeText_50 : decode cX11_becomeText 50 = .ok (.iconst 1, 1) := by decide +kernel
theorem dX11_becomeText_51 : decode cX11_becomeText 51 = .ok (.ireturn, 1) := by decide +kernel
theorem dX11_resize_0 : decode cX11_resize 0 = .ok (.aload_n 0, 1) := by decide +kernel
theorem dX11_resize_1 : decode cX11_resize 1 = .ok (.iload_n 1, 1) := by decide +kernel
theorem dX11_resize_2 : decode cX11_resize 2 = .ok (.ifCond .ge 7, 3) := by decide +kernel
theorem dX11_resize_5 : decode cX11_resize 5 = .ok (.iconst 0, 1) := by decide +kernel
theorem dX11_resize_6 : decode cX11_resize 6 = .ok (.goto 12, 3) := by decide +kernel
theorem dX11_resize_9 : decode cX11_resize 9 = .ok (.iload_n 1, 1) := by decide +kernel
theorem dX11_resize_10 : decode cX11_resize 10 = .ok (.aload_n 0, 1) := by decide +kernel
theorem dX11_resize_11 : decode cX11_resize 11 = .ok (.getfield 9, 3) := by decide +kernel
theorem dX11_resize_14 : decode cX11_resize 14 = .ok (.arraylength, 1) := by decide +kernel
theorem dX11_resize_15 : decode cX11_resize 15 = .ok (.invokestatic 56, 3) := by decide +kernel
theorem dX11_resize_18 : decode cX11_resize 18 = .ok (.putfield 19, 3) := by decide +kernel
theorem dX11_resize_21 : decode cX11_resize 21 = .ok (.return_, 1) := by decide +kernel
theorem dX11_becomeCounted_0 : decode cX11_becomeCounted 0 = .ok (.lload_n 1, 1) := by decide +kernel
theorem dX11_becomeCounted_1 : decode cX11_becomeCounted 1 = .ok (.invokestatic 62, 3) := by decide +kernel
theorem dX11_becomeCounted_4 : decode cX11_becomeCounted 4 = .ok (.ifCond .ne 5, 3) := by decide +kernel
theorem dX11_becomeCounted_7 : decode cX11_becomeCounted 7 = .ok (.iconst 4, 1) := by decide +kernel
theorem dX11_becomeCounted_8 : decode cX11_becomeCounted 8 = .ok (.ireturn, 1) := by decide +kernel
theorem dX11_becomeCounted_9 : decode cX11_becomeCounted 9 = .ok (.aload_n 0, 1) := by decide +kernel
theorem dX11_becomeCounted_10 : decode cX11_becomeCounted 10 = .ok (.iconst 1, 1) := by decide +kernel
theorem dX11_becomeCounted_11 : decode cX11_becomeCounted 11 = .ok (.putfield 23, 3) := by decide +kernel
theorem dX11_becomeCounted_14 : decode cX11_becomeCounted 14 = .ok (.aload_n 0, 1) := by decide +kernel
theorem dX11_becomeCounted_15 : decode cX11_becomeCounted 15 = .ok (.lload_n 1, 1) := by decide +kernel
theorem dX11_becomeCounted_16 : decode cX11_becomeCounted 16 = .ok (.l2i, 1) := by decide +kernel
theorem dX11_becomeCounted_17 : decode cX11_becomeCounted 17 = .ok (.putfield 26, 3) := by decide +kernel
theorem dX11_becomeCounted_20 : decode cX11_becomeCounted 20 = .ok (.aload_n 0, 1) := by decide +kernel
theorem dX11_becomeCounted_21 : decode cX11_becomeCounted 21 = .ok (.iconst 0, 1) := by decide +kernel
theorem dX11_becomeCounted_22 : decode cX11_becomeCounted 22 = .ok (.putfield 19, 3) := by decide +kernel
theorem dX11_becomeCounted_25 : decode cX11_becomeCounted 25 = .ok (.iconst 0, 1) := by decide +kernel
theorem dX11_becomeCounted_26 : decode cX11_becomeCounted 26 = .ok (.ireturn, 1) := by decide +kernel
theorem dX11_isTrue_0 : decode cX11_isTrue 0 = .ok (.aload_n 0, 1) := by decide +kernel
theorem dX11_isTrue_1 : decode cX11_isTrue 1 = .ok (.getfield 23, 3) := by decide +kernel
theorem dX11_isTrue_4 : decode cX11_isTrue 4 = .ok (.tableswitch 73 1 4 #[32, 45, 60, 60], 32) := by decide +kernel
theorem dX11_isTrue_36 : decode cX11_isTrue 36 = .ok (.aload_n 0, 1) := by decide +kernel
theorem dX11_isTrue_37 : decode cX11_isTrue 37 = .ok (.getfield 26, 3) := by decide +kernel
theorem dX11_isTrue_40 : decode cX11_isTrue 40 = .ok (.ifCond .eq 7, 3) := by decide +kernel
theorem dX11_isTrue_43 : decode cX11_isTrue 43 = .ok (.iconst 1, 1) := by decide +kernel
theorem dX11_isTrue_44 : decode cX11_isTrue 44 = .ok (.goto 4, 3) := by decide +kernel
theorem dX11_isTrue_47 : decode cX11_isTrue 47 = .ok (.iconst 0, 1) := by decide +kernel
theorem dX11_isTrue_48 : decode cX11_isTrue 48 = .ok (.ireturn, 1) := by decide +kernel
theorem dX11_isTrue_49 : decode cX11_isTrue 49 = .ok (.aload_n 0, 1) := by decide +kernel
theorem dX11_isTrue_50 : decode cX11_isTrue 50 = .ok (.getfield 29, 3) := by decide +kernel
theorem dX11_isTrue_53 : decode cX11_isTrue 53 = .ok (.fconst 0, 1) := by decide +kernel
theorem dX11_isTrue_54 : decode cX11_isTrue 54 = .ok (.fcmp .l, 1) := by decide +kernel
theorem dX11_isTrue_55 : decode cX11_isTrue 55 = .ok (.ifCond .eq 7, 3) := by decide +kernel
theorem dX11_isTrue_58 : decode cX11_isTrue 58 = .ok (.iconst 1, 1) := by decide +kernel
theorem dX11_isTrue_59 : decode cX11_isTrue 59 = .ok (.goto 4, 3) := by decide +kernel
theorem dX11_isTrue_62 : decode cX11_isTrue 62 = .ok (.iconst 0, 1) := by decide +kernel
theorem dX11_isTrue_63 : decode cX11_isTrue 63 = .ok (.ireturn, 1) := by decide +kernel
theorem dX11_isTrue_64 : decode cX11_isTrue 64 = .ok (.aload_n 0, 1) := by decide +kernel
theorem dX11_isTrue_65 : decode cX11_isTrue 65 = .ok (.getfield 19, 3) := by decide +kernel
theorem dX11_isTrue_68 : decode cX11_isTrue 68 = .ok (.ifCond .le 7, 3) := by decide +kernel
theorem dX11_isTrue_71 : decode cX11_isTrue 71 = .ok (.iconst 1, 1) := by decide +kernel
theorem dX11_isTrue_72 : decode cX11_isTrue 72 = .ok (.goto 4, 3) := by decide +kernel
theorem dX11_isTrue_75 : decode cX11_isTrue 75 = .ok (.iconst 0, 1) := by decide +kernel
theorem dX11_isTrue_76 : decode cX11_isTrue 76 = .ok (.ireturn, 1) := by decide +kernel
theorem dX11_isTrue_77 : decode cX11_isTrue 77 = .ok (.iconst 0, 1) := by decide +kernel
theorem dX11_isTrue_78 : decode cX11_isTrue 78 = .ok (.ireturn, 1) := by decide +kernel
theorem dX11_measure_0 : decode cX11_measure 0 = .ok (.aload_n 0, 1) := by decide +kernel
theorem dX11_measure_1 : decode cX11_measure 1 = .ok (.getfield 23, 3) := by decide +kernel
theorem dX11_measure_4 : decode cX11_measure 4 = .ok (.tableswitch 50 1 4 #[32, 37, 45, 45], 32) := by decide +kernel
theorem dX11_measure_36 : decode cX11_measure 36 = .ok (.aload_n 0, 1) := by decide +kernel
theorem dX11_measure_37 : decode cX11_measure 37 = .ok (.getfield 26, 3) := by decide +kernel
theorem dX11_measure_40 : decode cX11_measure 40 = .ok (.ireturn, 1) := by decide +kernel
theorem dX11_measure_41 : decode cX11_measure 41 = .ok (.aload_n 0, 1) := by decide +kernel
theorem dX11_measure_42 : decode cX11_measure 42 = .ok (.getfield 29, 3) := by decide +kernel
theorem dX11_measure_45 : decode cX11_measure 45 = .ok (.invokestatic 66, 3) := by decide +kernel
theorem dX11_measure_48 : decode cX11_measure 48 = .ok (.ireturn, 1) := by decide +kernel
theorem dX11_measure_49 : decode cX11_measure 49 = .ok (.aload_n 0, 1) := by decide +kernel
theorem dX11_measure_50 : decode cX11_measure 50 = .ok (.getfield 19, 3) := by decide +kernel
theorem dX11_measure_53 : decode cX11_measure 53 = .ok (.ireturn, 1) := by decide +kernel
theorem dX11_measure_54 : decode cX11_measure 54 = .ok (.iconst 0, 1) := by decide +kernel
theorem dX11_measure_55 : decode cX11_measure 55 = .ok (.ireturn, 1) := by decide +kernel
theorem dX11_bitsOf_0 : decode cX11_bitsOf 0 = .ok (.fload_n 0, 1) := by decide +kernel
theorem dX11_bitsOf_1 : decode cX11_bitsOf 1 = .ok (.fconst 0, 1) := by decide +kernel
theorem dX11_bitsOf_2 : decode cX11_bitsOf 2 = .ok (.fcmp .l, 1) := by decide +kernel
theorem dX11_bitsOf_3 : decode cX11_bitsOf 3 = .ok (.ifCond .ne 5, 3) := by decide +kernel
theorem dX11_bitsOf_6 : decode cX11_bitsOf 6 = .ok (.iconst 0, 1) := by decide +kernel
theorem dX11_bitsOf_7 : decode cX11_bitsOf 7 = .ok (.ireturn, 1) := by decide +kernel
theorem dX11_bitsOf_8 : decode cX11_bitsOf 8 = .ok (.fload_n 0, 1) := by decide +kernel
theorem dX11_bitsOf_9 : decode cX11_bitsOf 9 = .ok (.fconst 0, 1) := by decide +kernel
theorem dX11_bitsOf_10 : decode cX11_bitsOf 10 = .ok (.fcmp .g, 1) := by decide +kernel
theorem dX11_bitsOf_11 : decode cX11_bitsOf 11 = .ok (.ifCond .ge 9, 3) := by decide +kernel
theorem dX11_bitsOf_14 : decode cX11_bitsOf 14 = .ok (.fload_n 0, 1) := by decide +kernel
theorem dX11_bitsOf_15 : decode cX11_bitsOf 15 = .ok (.f2d, 1) := by decide +kernel
theorem dX11_bitsOf_16 : decode cX11_bitsOf 16 = .ok (.dneg, 1) := by decide +kernel
theorem dX11_bitsOf_17 : decode cX11_bitsOf 17 = .ok (.goto 5, 3) := by decide +kernel
theorem dX11_bitsOf_20 : decode cX11_bitsOf 20 = .ok (.fload_n 0, 1) := by decide +kernel
theorem dX11_bitsOf_21 : decode cX11_bitsOf 21 = .ok (.f2d, 1) := by decide +kernel
theorem dX11_bitsOf_22 : decode cX11_bitsOf 22 = .ok (.dstore_n 1, 1) := by decide +kernel
theorem dX11_bitsOf_23 : decode cX11_bitsOf 23 = .ok (.iconst 0, 1) := by decide +kernel
theorem dX11_bitsOf_24 : decode cX11_bitsOf 24 = .ok (.istore_n 3, 1) := by decide +kernel
theorem dX11_bitsOf_25 : decode cX11_bitsOf 25 = .ok (.iconst 0, 1) := by decide +kernel
theorem dX11_bitsOf_26 : decode cX11_bitsOf 26 = .ok (.istore 4, 2) := by decide +kernel
theorem dX11_bitsOf_28 : decode cX11_bitsOf 28 = .ok (.iload 4, 2) := by decide +kernel
theorem dX11_bitsOf_30 : decode cX11_bitsOf 30 = .ok (.sipush 128, 3) := by decide +kernel
theorem dX11_bitsOf_33 : decode cX11_bitsOf 33 = .ok (.if_icmp .ge 27, 3) := by decide +kernel
theorem dX11_bitsOf_36 : decode cX11_bitsOf 36 = .ok (.dload_n 1, 1) := by decide +kernel
theorem dX11_bitsOf_37 : decode cX11_bitsOf 37 = .ok (.ldc2_w 70, 3) := by decide +kernel
theorem dX11_bitsOf_40 : decode cX11_bitsOf 40 = .ok (.dcmp .l, 1) := by decide +kernel
theorem dX11_bitsOf_41 : decode cX11_bitsOf 41 = .ok (.ifCond .lt 19, 3) := by decide +kernel
theorem dX11_bitsOf_44 : decode cX11_bitsOf 44 = .ok (.dload_n 1, 1) := by decide +kernel
theorem dX11_bitsOf_45 : decode cX11_bitsOf 45 = .ok (.ldc2_w 72, 3) := by decide +kernel
theorem dX11_bitsOf_48 : decode cX11_bitsOf 48 = .ok (.dmul, 1) := by decide +kernel
theorem dX11_bitsOf_49 : decode cX11_bitsOf 49 = .ok (.dstore_n 1, 1) := by decide +kernel
theorem dX11_bitsOf_50 : decode cX11_bitsOf 50 = .ok (.iload_n 3, 1) := by decide +kernel
theorem dX11_bitsOf_51 : decode cX11_bitsOf 51 = .ok (.iconst 1, 1) := by decide +kernel
theorem dX11_bitsOf_52 : decode cX11_bitsOf 52 = .ok (.iadd, 1) := by decide +kernel
theorem dX11_bitsOf_53 : decode cX11_bitsOf 53 = .ok (.istore_n 3, 1) := by decide +kernel
theorem dX11_bitsOf_54 : decode cX11_bitsOf 54 = .ok (.iinc 4 1, 3) := by decide +kernel
theorem dX11_bitsOf_57 : decode cX11_bitsOf 57 = .ok (.goto (-29), 3) := by decide +kernel
theorem dX11_bitsOf_60 : decode cX11_bitsOf 60 = .ok (.iconst 0, 1) := by decide +kernel
theorem dX11_bitsOf_61 : decode cX11_bitsOf 61 = .ok (.istore 4, 2) := by decide +kernel
theorem dX11_bitsOf_63 : decode cX11_bitsOf 63 = .ok (.iload 4, 2) := by decide +kernel
theorem dX11_bitsOf_65 : decode cX11_bitsOf 65 = .ok (.bipush 126, 2) := by decide +kernel
theorem dX11_bitsOf_67 : decode cX11_bitsOf 67 = .ok (.if_icmp .ge 25, 3) := by decide +kernel
theorem dX11_bitsOf_70 : decode cX11_bitsOf 70 = .ok (.dload_n 1, 1) := by decide +kernel
theorem dX11_bitsOf_71 : decode cX11_bitsOf 71 = .ok (.dconst 1, 1) := by decide +kernel
theorem dX11_bitsOf_72 : decode cX11_bitsOf 72 = .ok (.dcmp .g, 1) := by decide +kernel
theorem dX11_bitsOf_73 : decode cX11_bitsOf 73 = .ok (.ifCond .ge 19, 3) := by decide +kernel
theorem dX11_bitsOf_76 : decode cX11_bitsOf 76 = .ok (.dload_n 1, 1) := by decide +kernel
theorem dX11_bitsOf_77 : decode cX11_bitsOf 77 = .ok (.ldc2_w 70, 3) := by decide +kernel
theorem dX11_bitsOf_80 : decode cX11_bitsOf 80 = .ok (.dmul, 1) := by decide +kernel
theorem dX11_bitsOf_81 : decode cX11_bitsOf 81 = .ok (.dstore_n 1, 1) := by decide +kernel
theorem dX11_bitsOf_82 : decode cX11_bitsOf 82 = .ok (.iload_n 3, 1) := by decide +kernel
theorem dX11_bitsOf_83 : decode cX11_bitsOf 83 = .ok (.iconst 1, 1) := by decide +kernel
theorem dX11_bitsOf_84 : decode cX11_bitsOf 84 = .ok (.isub, 1) := by decide +kernel
theorem dX11_bitsOf_85 : decode cX11_bitsOf 85 = .ok (.istore_n 3, 1) := by decide +kernel
theorem dX11_bitsOf_86 : decode cX11_bitsOf 86 = .ok (.iinc 4 1, 3) := by decide +kernel
theorem dX11_bitsOf_89 : decode cX11_bitsOf 89 = .ok (.goto (-26), 3) := by decide +kernel
theorem dX11_bitsOf_92 : decode cX11_bitsOf 92 = .ok (.dload_n 1, 1) := by decide +kernel
theorem dX11_bitsOf_93 : decode cX11_bitsOf 93 = .ok (.ldc2_w 74, 3) := by decide +kernel
theorem dX11_bitsOf_96 : decode cX11_bitsOf 96 = .ok (.dmul, 1) := by decide +kernel
theorem dX11_bitsOf_97 : decode cX11_bitsOf 97 = .ok (.d2i, 1) := by decide +kernel
theorem dX11_bitsOf_98 : decode cX11_bitsOf 98 = .ok (.istore 4, 2) := by decide +kernel
theorem dX11_bitsOf_100 : decode cX11_bitsOf 100 = .ok (.iload 4, 2) := by decide +kernel
theorem dX11_bitsOf_102 : decode cX11_bitsOf 102 = .ok (.ldc 76, 2) := by decide +kernel
theorem dX11_bitsOf_104 : decode cX11_bitsOf 104 = .ok (.if_icmp .lt 18, 3) := by decide +kernel
theorem dX11_bitsOf_107 : decode cX11_bitsOf 107 = .ok (.iload 4, 2) := by decide +kernel
theorem dX11_bitsOf_109 : decode cX11_bitsOf 109 = .ok (.ldc 76, 2) := by decide +kernel
theorem dX11_bitsOf_111 : decode cX11_bitsOf 111 = .ok (.isub, 1) := by decide +kernel
theorem dX11_bitsOf_112 : decode cX11_bitsOf 112 = .ok (.iload_n 3, 1) := by decide +kernel
theorem dX11_bitsOf_113 : decode cX11_bitsOf 113 = .ok (.bipush 127, 2) := by decide +kernel
theorem dX11_bitsOf_115 : decode cX11_bitsOf 115 = .ok (.iadd, 1) := by decide +kernel
theorem dX11_bitsOf_116 : decode cX11_bitsOf 116 = .ok (.bipush 23, 2) := by decide +kernel
theorem dX11_bitsOf_118 : decode cX11_bitsOf 118 = .ok (.ishl, 1) := by decide +kernel
theorem dX11_bitsOf_119 : decode cX11_bitsOf 119 = .ok (.iadd, 1) := by decide +kernel
theorem dX11_bitsOf_120 : decode cX11_bitsOf 120 = .ok (.istore 4, 2) := by decide +kernel
theorem dX11_bitsOf_122 : decode cX11_bitsOf 122 = .ok (.fload_n 0, 1) := by decide +kernel
theorem dX11_bitsOf_123 : decode cX11_bitsOf 123 = .ok (.fconst 0, 1) := by decide +kernel
theorem dX11_bitsOf_124 : decode cX11_bitsOf 124 = .ok (.fcmp .g, 1) := by decide +kernel
theorem dX11_bitsOf_125 : decode cX11_bitsOf 125 = .ok (.ifCond .ge 11, 3) := by decide +kernel
theorem dX11_bitsOf_128 : decode cX11_bitsOf 128 = .ok (.iload 4, 2) := by decide +kernel
theorem dX11_bitsOf_130 : decode cX11_bitsOf 130 = .ok (.ldc 77, 2) := by decide +kernel
theorem dX11_bitsOf_132 : decode cX11_bitsOf 132 = .ok (.ior, 1) := by decide +kernel
theorem dX11_bitsOf_133 : decode cX11_bitsOf 133 = .ok (.goto 5, 3) := by decide +kernel
theorem dX11_bitsOf_136 : decode cX11_bitsOf 136 = .ok (.iload 4, 2) := by decide +kernel
theorem dX11_bitsOf_138 : decode cX11_bitsOf 138 = .ok (.ireturn, 1) := by decide +kernel
theorem dX11_highBitsOf_0 : decode cX11_highBitsOf 0 = .ok (.iload_n 0, 1) := by decide +kernel
theorem dX11_highBitsOf_1 : decode cX11_highBitsOf 1 = .ok (.invokestatic 78, 3) := by decide +kernel
theorem dX11_highBitsOf_4 : decode cX11_highBitsOf 4 = .ok (.ldc 81, 2) := by decide +kernel
theorem dX11_highBitsOf_6 : decode cX11_highBitsOf 6 = .ok (.invokestatic 56, 3) := by decide +kernel
theorem dX11_highBitsOf_9 : decode cX11_highBitsOf 9 = .ok (.istore_n 1, 1) := by decide +kernel
theorem dX11_highBitsOf_10 : decode cX11_highBitsOf 10 = .ok (.iload_n 1, 1) := by decide +kernel
theorem dX11_highBitsOf_11 : decode cX11_highBitsOf 11 = .ok (.ifCond .gt 5, 3) := by decide +kernel
theorem dX11_highBitsOf_14 : decode cX11_highBitsOf 14 = .ok (.iconst 0, 1) := by decide +kernel
theorem dX11_highBitsOf_15 : decode cX11_highBitsOf 15 = .ok (.ireturn, 1) := by decide +kernel
theorem dX11_highBitsOf_16 : decode cX11_highBitsOf 16 = .ok (.iconst 0, 1) := by decide +kernel
theorem dX11_highBitsOf_17 : decode cX11_highBitsOf 17 = .ok (.istore_n 2, 1) := by decide +kernel
theorem dX11_highBitsOf_18 : decode cX11_highBitsOf 18 = .ok (.iconst 0, 1) := by decide +kernel
theorem dX11_highBitsOf_19 : decode cX11_highBitsOf 19 = .ok (.istore_n 3, 1) := by decide +kernel
theorem dX11_highBitsOf_20 : decode cX11_highBitsOf 20 = .ok (.iload_n 3, 1) := by decide +kernel
theorem dX11_highBitsOf_21 : decode cX11_highBitsOf 21 = .ok (.bipush 20, 2) := by decide +kernel
theorem dX11_highBitsOf_23 : decode cX11_highBitsOf 23 = .ok (.if_icmp .ge 21, 3) := by decide +kernel
theorem dX11_highBitsOf_26 : decode cX11_highBitsOf 26 = .ok (.iload_n 1, 1) := by decide +kernel
theorem dX11_highBitsOf_27 : decode cX11_highBitsOf 27 = .ok (.iload_n 2, 1) := by decide +kernel
theorem dX11_highBitsOf_28 : decode cX11_highBitsOf 28 = .ok (.iconst 1, 1) := by decide +kernel
theorem dX11_highBitsOf_29 : decode cX11_highBitsOf 29 = .ok (.iadd, 1) := by decide +kernel
theorem dX11_highBitsOf_30 : decode cX11_highBitsOf 30 = .ok (.ishr, 1) := by decide +kernel
theorem dX11_highBitsOf_31 : decode cX11_highBitsOf 31 = .ok (.ifCond .le 13, 3) := by decide +kernel
theorem dX11_highBitsOf_34 : decode cX11_highBitsOf 34 = .ok (.iload_n 2, 1) := by decide +kernel
theorem dX11_highBitsOf_35 : decode cX11_highBitsOf 35 = .ok (.iconst 1, 1) := by decide +kernel
theorem dX11_highBitsOf_36 : decode cX11_highBitsOf 36 = .ok (.iadd, 1) := by decide +kernel
theorem dX11_highBitsOf_37 : decode cX11_highBitsOf 37 = .ok (.istore_n 2, 1) := by decide +kernel
theorem dX11_highBitsOf_38 : decode cX11_highBitsOf 38 = .ok (.iinc 3 1, 3) := by decide +kernel
theorem dX11_highBitsOf_41 : decode cX11_highBitsOf 41 = .ok (.goto (-21), 3) := by decide +kernel
theorem dX11_highBitsOf_44 : decode cX11_highBitsOf 44 = .ok (.iload_n 1, 1) := by decide +kernel
theorem dX11_highBitsOf_45 : decode cX11_highBitsOf 45 = .ok (.bipush 20, 2) := by decide +kernel
theorem dX11_highBitsOf_47 : decode cX11_highBitsOf 47 = .ok (.iload_n 2, 1) := by decide +kernel
theorem dX11_highBitsOf_48 : decode cX11_highBitsOf 48 = .ok (.isub, 1) := by decide +kernel
theorem dX11_highBitsOf_49 : decode cX11_highBitsOf 49 = .ok (.ishl, 1) := by decide +kernel
theorem dX11_highBitsOf_50 : decode cX11_highBitsOf 50 = .ok (.ldc 82, 2) := by decide +kernel
theorem dX11_highBitsOf_52 : decode cX11_highBitsOf 52 = .ok (.isub, 1) := by decide +kernel
theorem dX11_highBitsOf_53 : decode cX11_highBitsOf 53 = .ok (.iload_n 2, 1) := by decide +kernel
theorem dX11_highBitsOf_54 : decode cX11_highBitsOf 54 = .ok (.sipush 1023, 3) := by decide +kernel
theorem dX11_highBitsOf_57 : decode cX11_highBitsOf 57 = .ok (.iadd, 1) := by decide +kernel
theorem dX11_highBitsOf_58 : decode cX11_highBitsOf 58 = .ok (.bipush 20, 2) := by decide +kernel
theorem dX11_highBitsOf_60 : decode cX11_highBitsOf 60 = .ok (.ishl, 1) := by decide +kernel
theorem dX11_highBitsOf_61 : decode cX11_highBitsOf 61 = .ok (.iadd, 1) := by decide +kernel
theorem dX11_highBitsOf_62 : decode cX11_highBitsOf 62 = .ok (.istore_n 3, 1) := by decide +kernel
theorem dX11_highBitsOf_63 : decode cX11_highBitsOf 63 = .ok (.iload_n 0, 1) := by decide +kernel
theorem dX11_highBitsOf_64 : decode cX11_highBitsOf 64 = .ok (.ifCond .ge 10, 3) := by decide +kernel
theorem dX11_highBitsOf_67 : decode cX11_highBitsOf 67 = .ok (.iload_n 3, 1) := by decide +kernel
theorem dX11_highBitsOf_68 : decode cX11_highBitsOf 68 = .ok (.ldc 77, 2) := by decide +kernel
theorem dX11_highBitsOf_70 : decode cX11_highBitsOf 70 = .ok (.ior, 1) := by decide +kernel
theorem dX11_highBitsOf_71 : decode cX11_highBitsOf 71 = .ok (.goto 4, 3) := by decide +kernel
theorem dX11_highBitsOf_74 : decode cX11_highBitsOf 74 = .ok (.iload_n 3, 1) := by decide +kernel
theorem dX11_highBitsOf_75 : decode cX11_highBitsOf 75 = .ok (.ireturn, 1) := by decide +kernel
theorem dX11_compareWith_0 : decode cX11_compareWith 0 = .ok (.aload_n 0, 1) := by decide +kernel
theorem dX11_compareWith_1 : decode cX11_compareWith 1 = .ok (.getfield 23, 3) := by decide +kernel
theorem dX11_compareWith_4 : decode cX11_compareWith 4 = .ok (.iconst 3, 1) := by decide +kernel
theorem dX11_compareWith_5 : decode cX11_compareWith 5 = .ok (.if_icmp .ne 17, 3) := by decide +kernel
theorem dX11_compareWith_8 : decode cX11_compareWith 8 = .ok (.aload_n 1, 1) := by decide +kernel
theorem dX11_compareWith_9 : decode cX11_compareWith 9 = .ok (.getfield 23, 3) := by decide +kernel
theorem dX11_compareWith_12 : decode cX11_compareWith 12 = .ok (.iconst 3, 1) := by decide +kernel
theorem dX11_compareWith_13 : decode cX11_compareWith 13 = .ok (.if_icmp .ne 9, 3) := by decide +kernel
theorem dX11_compareWith_16 : decode cX11_compareWith 16 = .ok (.aload_n 0, 1) := by decide +kernel
theorem dX11_compareWith_17 : decode cX11_compareWith 17 = .ok (.aload_n 1, 1) := by decide +kernel
theorem dX11_compareWith_18 : decode cX11_compareWith 18 = .ok (.invokevirtual 83, 3) := by decide +kernel
theorem dX11_compareWith_21 : decode cX11_compareWith 21 = .ok (.ireturn, 1) := by decide +kernel
theorem dX11_compareWith_22 : decode cX11_compareWith 22 = .ok (.aload_n 0, 1) := by decide +kernel
theorem dX11_compareWith_23 : decode cX11_compareWith 23 = .ok (.invokevirtual 87, 3) := by decide +kernel
theorem dX11_compareWith_26 : decode cX11_compareWith 26 = .ok (.ifCond .eq 10, 3) := by decide +kernel
theorem dX11_compareWith_29 : decode cX11_compareWith 29 = .ok (.aload_n 1, 1) := by decide +kernel
theorem dX11_compareWith_30 : decode cX11_compareWith 30 = .ok (.invokevirtual 87, 3) := by decide +kernel
theorem dX11_compareWith_33 : decode cX11_compareWith 33 = .ok (.ifCond .ne 5, 3) := by decide +kernel
theorem dX11_compareWith_36 : decode cX11_compareWith 36 = .ok (.iconst 2, 1) := by decide +kernel
theorem dX11_compareWith_37 : decode cX11_compareWith 37 = .ok (.ireturn, 1) := by decide +kernel
theorem dX11_compareWith_38 : decode cX11_compareWith 38 = .ok (.aload_n 0, 1) := by decide +kernel
theorem dX11_compareWith_39 : decode cX11_compareWith 39 = .ok (.getfield 23, 3) := by decide +kernel
theorem dX11_compareWith_42 : decode cX11_compareWith 42 = .ok (.iconst 1, 1) := by decide +kernel
theorem dX11_compareWith_43 : decode cX11_compareWith 43 = .ok (.if_icmp .ne 23, 3) := by decide +kernel
theorem dX11_compareWith_46 : decode cX11_compareWith 46 = .ok (.aload_n 1, 1) := by decide +kernel
theorem dX11_compareWith_47 : decode cX11_compareWith 47 = .ok (.getfield 23, 3) := by decide +kernel
theorem dX11_compareWith_50 : decode cX11_compareWith 50 = .ok (.iconst 1, 1) := by decide +kernel
theorem dX11_compareWith_51 : decode cX11_compareWith 51 = .ok (.if_icmp .ne 15, 3) := by decide +kernel
theorem dX11_compareWith_54 : decode cX11_compareWith 54 = .ok (.aload_n 0, 1) := by decide +kernel
theorem dX11_compareWith_55 : decode cX11_compareWith 55 = .ok (.getfield 26, 3) := by decide +kernel
theorem dX11_compareWith_58 : decode cX11_compareWith 58 = .ok (.aload_n 1, 1) := by decide +kernel
theorem dX11_compareWith_59 : decode cX11_compareWith 59 = .ok (.getfield 26, 3) := by decide +kernel
theorem dX11_compareWith_62 : decode cX11_compareWith 62 = .ok (.invokestatic 91, 3) := by decide +kernel
theorem dX11_compareWith_65 : decode cX11_compareWith 65 = .ok (.ireturn, 1) := by decide +kernel
theorem dX11_compareWith_66 : decode cX11_compareWith 66 = .ok (.aload_n 0, 1) := by decide +kernel
theorem dX11_compareWith_67 : decode cX11_compareWith 67 = .ok (.getfield 23, 3) := by decide +kernel
theorem dX11_compareWith_70 : decode cX11_compareWith 70 = .ok (.iconst 1, 1) := by decide +kernel
theorem dX11_compareWith_71 : decode cX11_compareWith 71 = .ok (.if_icmp .ne 11, 3) := by decide +kernel
theorem dX11_compareWith_74 : decode cX11_compareWith 74 = .ok (.aload_n 0, 1) := by decide +kernel
theorem dX11_compareWith_75 : decode cX11_compareWith 75 = .ok (.getfield 26, 3) := by decide +kernel
theorem dX11_compareWith_78 : decode cX11_compareWith 78 = .ok (.i2f, 1) := by decide +kernel
theorem dX11_compareWith_79 : decode cX11_compareWith 79 = .ok (.goto 7, 3) := by decide +kernel
theorem dX11_compareWith_82 : decode cX11_compareWith 82 = .ok (.aload_n 0, 1) := by decide +kernel
theorem dX11_compareWith_83 : decode cX11_compareWith 83 = .ok (.getfield 29, 3) := by decide +kernel
theorem dX11_compareWith_86 : decode cX11_compareWith 86 = .ok (.fstore_n 2, 1) := by decide +kernel
theorem dX11_compareWith_87 : decode cX11_compareWith 87 = .ok (.aload_n 1, 1) := by decide +kernel
theorem dX11_compareWith_88 : decode cX11_compareWith 88 = .ok (.getfield 23, 3) := by decide +kernel
theorem dX11_compareWith_91 : decode cX11_compareWith 91 = .ok (.iconst 1, 1) := by decide +kernel
theorem dX11_compareWith_92 : decode cX11_compareWith 92 = .ok (.if_icmp .ne 11, 3) := by decide +kernel
theorem dX11_compareWith_95 : decode cX11_compareWith 95 = .ok (.aload_n 1, 1) := by decide +kernel
theorem dX11_compareWith_96 : decode cX11_compareWith 96 = .ok (.getfield 26, 3) := by decide +kernel
theorem dX11_compareWith_99 : decode cX11_compareWith 99 = .ok (.i2f, 1) := by decide +kernel
theorem dX11_compareWith_100 : decode cX11_compareWith 100 = .ok (.goto 7, 3) := by decide +kernel
theorem dX11_compareWith_103 : decode cX11_compareWith 103 = .ok (.aload_n 1, 1) := by decide +kernel
theorem dX11_compareWith_104 : decode cX11_compareWith 104 = .ok (.getfield 29, 3) := by decide +kernel
theorem dX11_compareWith_107 : decode cX11_compareWith 107 = .ok (.fstore_n 3, 1) := by decide +kernel
theorem dX11_compareWith_108 : decode cX11_compareWith 108 = .ok (.fload_n 2, 1) := by decide +kernel
theorem dX11_compareWith_109 : decode cX11_compareWith 109 = .ok (.fload_n 3, 1) := by decide +kernel
theorem dX11_compareWith_110 : decode cX11_compareWith 110 = .ok (.fcmp .g, 1) := by decide +kernel
theorem dX11_compareWith_111 : decode cX11_compareWith 111 = .ok (.ifCond .ge 7, 3) := by decide +kernel
theorem dX11_compareWith_114 : decode cX11_compareWith 114 = .ok (.iconst (-1), 1) := by decide +kernel
theorem dX11_compareWith_115 : decode cX11_compareWith 115 = .ok (.goto 14, 3) := by decide +kernel
theorem dX11_compareWith_118 : decode cX11_compareWith 118 = .ok (.fload_n 2, 1) := by decide +kernel
theorem dX11_compareWith_119 : decode cX11_compareWith 119 = .ok (.fload_n 3, 1) := by decide +kernel
theorem dX11_compareWith_120 : decode cX11_compareWith 120 = .ok (.fcmp .l, 1) := by decide +kernel
theorem dX11_compareWith_121 : decode cX11_compareWith 121 = .ok (.ifCond .le 7, 3) := by decide +kernel
theorem dX11_compareWith_124 : decode cX11_compareWith 124 = .ok (.iconst 1, 1) := by decide +kernel
theorem dX11_compareWith_125 : decode cX11_compareWith 125 = .ok (.goto 4, 3) := by decide +kernel
theorem dX11_compareWith_128 : decode cX11_compareWith 128 = .ok (.iconst 0, 1) := by decide +kernel
theorem dX11_compareWith_129 : decode cX11_compareWith 129 = .ok (.ireturn, 1) := by decide +kernel
theorem dX11_isNumeric_0 : decode cX11_isNumeric 0 = .ok (.aload_n 0, 1) := by decide +kernel
theorem dX11_isNumeric_1 : decode cX11_isNumeric 1 = .ok (.getfield 23, 3) := by decide +kernel
theorem dX11_isNumeric_4 : decode cX11_isNumeric 4 = .ok (.iconst 1, 1) := by decide +kernel
theorem dX11_isNumeric_5 : decode cX11_isNumeric 5 = .ok (.if_icmp .eq 11, 3) := by decide +kernel
theorem dX11_isNumeric_8 : decode cX11_isNumeric 8 = .ok (.aload_n 0, 1) := by decide +kernel
theorem dX11_isNumeric_9 : decode cX11_isNumeric 9 = .ok (.getfield 23, 3) := by decide +kernel
theorem dX11_isNumeric_12 : decode cX11_isNumeric 12 = .ok (.iconst 2, 1) := by decide +kernel
theorem dX11_isNumeric_13 : decode cX11_isNumeric 13 = .ok (.if_icmp .ne 7, 3) := by decide +kernel
theorem dX11_isNumeric_16 : decode cX11_isNumeric 16 = .ok (.iconst 1, 1) := by decide +kernel
theorem dX11_isNumeric_17 : decode cX11_isNumeric 17 = .ok (.goto 4, 3) := by decide +kernel
theorem dX11_isNumeric_20 : decode cX11_isNumeric 20 = .ok (.iconst 0, 1) := by decide +kernel
theorem dX11_isNumeric_21 : decode cX11_isNumeric 21 = .ok (.ireturn, 1) := by decide +kernel
theorem dX11_compareItems_0 : decode cX11_compareItems 0 = .ok (.aload_n 0, 1) := by decide +kernel
theorem dX11_compareItems_1 : decode cX11_compareItems 1 = .ok (.getfield 19, 3) := by decide +kernel
theorem dX11_compareItems_4 : decode cX11_compareItems 4 = .ok (.aload_n 1, 1) := by decide +kernel
theorem dX11_compareItems_5 : decode cX11_compareItems 5 = .ok (.getfield 19, 3) := by decide +kernel
theorem dX11_compareItems_8 : decode cX11_compareItems 8 = .ok (.invokestatic 56, 3) := by decide +kernel
theorem dX11_compareItems_11 : decode cX11_compareItems 11 = .ok (.istore_n 2, 1) := by decide +kernel
theorem dX11_compareItems_12 : decode cX11_compareItems 12 = .ok (.iconst 0, 1) := by decide +kernel
theorem dX11_compareItems_13 : decode cX11_compareItems 13 = .ok (.istore_n 3, 1) := by decide +kernel
theorem dX11_compareItems_14 : decode cX11_compareItems 14 = .ok (.iload_n 3, 1) := by decide +kernel
theorem dX11_compareItems_15 : decode cX11_compareItems 15 = .ok (.iload_n 2, 1) := by decide +kernel
theorem dX11_compareItems_16 : decode cX11_compareItems 16 = .ok (.if_icmp .ge 41, 3) := by decide +kernel
theorem dX11_compareItems_19 : decode cX11_compareItems 19 = .ok (.aload_n 0, 1) := by decide +kernel
theorem dX11_compareItems_20 : decode cX11_compareItems 20 = .ok (.iload_n 3, 1) := by decide +kernel
theorem dX11_compareItems_21 : decode cX11_compareItems 21 = .ok (.invokevirtual 96, 3) := by decide +kernel
theorem dX11_compareItems_24 : decode cX11_compareItems 24 = .ok (.aload_n 1, 1) := by decide +kernel
theorem dX11_compareItems_25 : decode cX11_compareItems 25 = .ok (.iload_n 3, 1) := by decide +kernel
theorem dX11_compareItems_26 : decode cX11_compareItems 26 = .ok (.invokevirtual 96, 3) := by decide +kernel
theorem dX11_compareItems_29 : decode cX11_compareItems 29 = .ok (.if_icmp .eq 22, 3) := by decide +kernel
theorem dX11_compareItems_32 : decode cX11_compareItems 32 = .ok (.aload_n 0, 1) := by decide +kernel
theorem dX11_compareItems_33 : decode cX11_compareItems 33 = .ok (.iload_n 3, 1) := by decide +kernel
theorem dX11_compareItems_34 : decode cX11_compareItems 34 = .ok (.invokevirtual 96, 3) := by decide +kernel
theorem dX11_compareItems_37 : decode cX11_compareItems 37 = .ok (.aload_n 1, 1) := by decide +kernel
theorem dX11_compareItems_38 : decode cX11_compareItems 38 = .ok (.iload_n 3, 1) := by decide +kernel
theorem dX11_compareItems_39 : decode cX11_compareItems 39 = .ok (.invokevirtual 96, 3) := by decide +kernel
theorem dX11_compareItems_42 : decode cX11_compareItems 42 = .ok (.if_icmp .ge 7, 3) := by decide +kernel
theorem dX11_compareItems_45 : decode cX11_compareItems 45 = .ok (.iconst (-1), 1) := by decide +kernel
theorem dX11_compareItems_46 : decode cX11_compareItems 46 = .ok (.goto 4, 3) := by decide +kernel
theorem dX11_compareItems_49 : decode cX11_compareItems 49 = .ok (.iconst 1, 1) := by decide +kernel
theorem dX11_compareItems_50 : decode cX11_compareItems 50 = .ok (.ireturn, 1) := by decide +kernel
theorem dX11_compareItems_51 : decode cX11_compareItems 51 = .ok (.iinc 3 1, 3) := by decide +kernel
theorem dX11_compareItems_54 : decode cX11_compareItems 54 = .ok (.goto (-40), 3) := by decide +kernel
theorem dX11_compareItems_57 : decode cX11_compareItems 57 = .ok (.aload_n 0, 1) := by decide +kernel
theorem dX11_compareItems_58 : decode cX11_compareItems 58 = .ok (.getfield 19, 3) := by decide +kernel
theorem dX11_compareItems_61 : decode cX11_compareItems 61 = .ok (.aload_n 1, 1) := by decide +kernel
theorem dX11_compareItems_62 : decode cX11_compareItems 62 = .ok (.getfield 19, 3) := by decide +kernel
theorem dX11_compareItems_65 : decode cX11_compareItems 65 = .ok (.invokestatic 91, 3) := by decide +kernel
theorem dX11_compareItems_68 : decode cX11_compareItems 68 = .ok (.ireturn, 1) := by decide +kernel
theorem dX11_showInto_0 : decode cX11_showInto 0 = .ok (.aload_n 0, 1) := by decide +kernel
theorem dX11_showInto_1 : decode cX11_showInto 1 = .ok (.getfield 23, 3) := by decide +kernel
theorem dX11_showInto_4 : decode cX11_showInto 4 = .ok (.tableswitch 111 1 4 #[32, 41, 47, 74], 32) := by decide +kernel
theorem dX11_showInto_36 : decode cX11_showInto 36 = .ok (.aload_n 0, 1) := by decide +kernel
theorem dX11_showInto_37 : decode cX11_showInto 37 = .ok (.getfield 26, 3) := by decide +kernel
theorem dX11_showInto_40 : decode cX11_showInto 40 = .ok (.aload_n 1, 1) := by decide +kernel
theorem dX11_showInto_41 : decode cX11_showInto 41 = .ok (.invokestatic 97, 3) := by decide +kernel
theorem dX11_showInto_44 : decode cX11_showInto 44 = .ok (.return_, 1) := by decide +kernel
theorem dX11_showInto_45 : decode cX11_showInto 45 = .ok (.aload_n 0, 1) := by decide +kernel
theorem dX11_showInto_46 : decode cX11_showInto 46 = .ok (.aload_n 1, 1) := by decide +kernel
theorem dX11_showInto_47 : decode cX11_showInto 47 = .ok (.invokevirtual 101, 3) := by decide +kernel
theorem dX11_showInto_50 : decode cX11_showInto 50 = .ok (.return_, 1) := by decide +kernel
theorem dX11_showInto_51 : decode cX11_showInto 51 = .ok (.iconst 0, 1) := by decide +kernel
theorem dX11_showInto_52 : decode cX11_showInto 52 = .ok (.istore_n 2, 1) := by decide +kernel
theorem dX11_showInto_53 : decode cX11_showInto 53 = .ok (.iload_n 2, 1) := by decide +kernel
theorem dX11_showInto_54 : decode cX11_showInto 54 = .ok (.aload_n 0, 1) := by decide +kernel
theorem dX11_showInto_55 : decode cX11_showInto 55 = .ok (.getfield 19, 3) := by decide +kernel
theorem dX11_showInto_58 : decode cX11_showInto 58 = .ok (.if_icmp .ge 19, 3) := by decide +kernel
theorem dX11_showInto_61 : decode cX11_showInto 61 = .ok (.aload_n 1, 1) := by decide +kernel
theorem dX11_showInto_62 : decode cX11_showInto 62 = .ok (.aload_n 0, 1) := by decide +kernel
theorem dX11_showInto_63 : decode cX11_showInto 63 = .ok (.iload_n 2, 1) := by decide +kernel
theorem dX11_showInto_64 : decode cX11_showInto 64 = .ok (.invokevirtual 96, 3) := by decide +kernel
theorem dX11_showInto_67 : decode cX11_showInto 67 = .ok (.invokevirtual 105, 3) := by decide +kernel
theorem dX11_showInto_70 : decode cX11_showInto 70 = .ok (.pop, 1) := by decide +kernel
theorem dX11_showInto_71 : decode cX11_showInto 71 = .ok (.iinc 2 1, 3) := by decide +kernel
theorem dX11_showInto_74 : decode cX11_showInto 74 = .ok (.goto (-21), 3) := by decide +kernel
theorem dX11_showInto_77 : decode cX11_showInto 77 = .ok (.return_, 1) := by decide +kernel
theorem dX11_showInto_78 : decode cX11_showInto 78 = .ok (.iconst 0, 1) := by decide +kernel
theorem dX11_showInto_79 : decode cX11_showInto 79 = .ok (.istore_n 2, 1) := by decide +kernel
theorem dX11_showInto_80 : decode cX11_showInto 80 = .ok (.iload_n 2, 1) := by decide +kernel
theorem dX11_showInto_81 : decode cX11_showInto 81 = .ok (.aload_n 0, 1) := by decide +kernel
theorem dX11_showInto_82 : decode cX11_showInto 82 = .ok (.getfield 19, 3) := by decide +kernel
theorem dX11_showInto_85 : decode cX11_showInto 85 = .ok (.if_icmp .ge 29, 3) := by decide +kernel
theorem dX11_showInto_88 : decode cX11_showInto 88 = .ok (.iload_n 2, 1) := by decide +kernel
theorem dX11_showInto_89 : decode cX11_showInto 89 = .ok (.ifCond .le 10, 3) := by decide +kernel
theorem dX11_showInto_92 : decode cX11_showInto 92 = .ok (.aload_n 1, 1) := by decide +kernel
theorem dX11_showInto_93 : decode cX11_showInto 93 = .ok (.bipush 44, 2) := by decide +kernel
theorem dX11_showInto_95 : decode cX11_showInto 95 = .ok (.invokevirtual 105, 3) := by decide +kernel
theorem dX11_showInto_98 : decode cX11_showInto 98 = .ok (.pop, 1) := by decide +kernel
theorem dX11_showInto_99 : decode cX11_showInto 99 = .ok (.aload_n 0, 1) := by decide +kernel
theorem dX11_showInto_100 : decode cX11_showInto 100 = .ok (.iload_n 2, 1) := by decide +kernel
theorem dX11_showInto_101 : decode cX11_showInto 101 = .ok (.invokevirtual 96, 3) := by decide +kernel
theorem dX11_showInto_104 : decode cX11_showInto 104 = .ok (.aload_n 1, 1) := by decide +kernel
theorem dX11_showInto_105 : decode cX11_showInto 105 = .ok (.invokestatic 97, 3) := by decide +kernel
theorem dX11_showInto_108 : decode cX11_showInto 108 = .ok (.iinc 2 1, 3) := by decide +kernel
theorem dX11_showInto_111 : decode cX11_showInto 111 = .ok (.goto (-31), 3) := by decide +kernel
theorem dX11_showInto_114 : decode cX11_showInto 114 = .ok (.return_, 1) := by decide +kernel
theorem dX11_showInto_115 : decode cX11_showInto 115 = .ok (.return_, 1) := by decide +kernel
theorem dX11_showInt_0 : decode cX11_showInt 0 = .ok (.iload_n 0, 1) := by decide +kernel
theorem dX11_showInt_1 : decode cX11_showInt 1 = .ok (.ifCond .ge 10, 3) := by decide +kernel
theorem dX11_showInt_4 : decode cX11_showInt 4 = .ok (.aload_n 1, 1) := by decide +kernel
theorem dX11_showInt_5 : decode cX11_showInt 5 = .ok (.bipush 45, 2) := by decide +kernel
theorem dX11_showInt_7 : decode cX11_showInt 7 = .ok (.invokevirtual 105, 3) := by decide +kernel
theorem dX11_showInt_10 : decode cX11_showInt 10 = .ok (.pop, 1) := by decide +kernel
theorem dX11_showInt_11 : decode cX11_showInt 11 = .ok (.iload_n 0, 1) := by decide +kernel
theorem dX11_showInt_12 : decode cX11_showInt 12 = .ok (.invokestatic 78, 3) := by decide +kernel
theorem dX11_showInt_15 : decode cX11_showInt 15 = .ok (.istore_n 2, 1) := by decide +kernel
theorem dX11_showInt_16 : decode cX11_showInt 16 = .ok (.iconst 1, 1) := by decide +kernel
theorem dX11_showInt_17 : decode cX11_showInt 17 = .ok (.istore_n 3, 1) := by decide +kernel
theorem dX11_showInt_18 : decode cX11_showInt 18 = .ok (.iconst 0, 1) := by decide +kernel
theorem dX11_showInt_19 : decode cX11_showInt 19 = .ok (.istore 4, 2) := by decide +kernel
theorem dX11_showInt_21 : decode cX11_showInt 21 = .ok (.iload 4, 2) := by decide +kernel
theorem dX11_showInt_23 : decode cX11_showInt 23 = .ok (.bipush 6, 2) := by decide +kernel
theorem dX11_showInt_25 : decode cX11_showInt 25 = .ok (.if_icmp .ge 22, 3) := by decide +kernel
theorem dX11_showInt_28 : decode cX11_showInt 28 = .ok (.iload_n 2, 1) := by decide +kernel
theorem dX11_showInt_29 : decode cX11_showInt 29 = .ok (.iload_n 3, 1) := by decide +kernel
theorem dX11_showInt_30 : decode cX11_showInt 30 = .ok (.idiv, 1) := by decide +kernel
theorem dX11_showInt_31 : decode cX11_showInt 31 = .ok (.bipush 10, 2) := by decide +kernel
theorem dX11_showInt_33 : decode cX11_showInt 33 = .ok (.if_icmp .lt 14, 3) := by decide +kernel
theorem dX11_showInt_36 : decode cX11_showInt 36 = .ok (.iload_n 3, 1) := by decide +kernel
theorem dX11_showInt_37 : decode cX11_showInt 37 = .ok (.bipush 10, 2) := by decide +kernel
theorem dX11_showInt_39 : decode cX11_showInt 39 = .ok (.imul, 1) := by decide +kernel
theorem dX11_showInt_40 : decode cX11_showInt 40 = .ok (.istore_n 3, 1) := by decide +kernel
theorem dX11_showInt_41 : decode cX11_showInt 41 = .ok (.iinc 4 1, 3) := by decide +kernel
theorem dX11_showInt_44 : decode cX11_showInt 44 = .ok (.goto (-23), 3) := by decide +kernel
theorem dX11_showInt_47 : decode cX11_showInt 47 = .ok (.iload_n 3, 1) := by decide +kernel
theorem dX11_showInt_48 : decode cX11_showInt 48 = .ok (.ifCond .le 25, 3) := by decide +kernel
theorem dX11_showInt_51 : decode cX11_showInt 51 = .ok (.aload_n 1, 1) := by decide +kernel
theorem dX11_showInt_52 : decode cX11_showInt 52 = .ok (.bipush 48, 2) := by decide +kernel
theorem dX11_showInt_54 : decode cX11_showInt 54 = .ok (.iload_n 2, 1) := by decide +kernel
theorem dX11_showInt_55 : decode cX11_showInt 55 = .ok (.iload_n 3, 1) := by decide +kernel
theorem dX11_showInt_56 : decode cX11_showInt 56 = .ok (.idiv, 1) := by decide +kernel
theorem dX11_showInt_57 : decode cX11_showInt 57 = .ok (.bipush 10, 2) := by decide +kernel
theorem dX11_showInt_59 : decode cX11_showInt 59 = .ok (.irem, 1) := by decide +kernel
theorem dX11_showInt_60 : decode cX11_showInt 60 = .ok (.iadd, 1) := by decide +kernel
theorem dX11_showInt_61 : decode cX11_showInt 61 = .ok (.invokevirtual 105, 3) := by decide +kernel
theorem dX11_showInt_64 : decode cX11_showInt 64 = .ok (.pop, 1) := by decide +kernel
theorem dX11_showInt_65 : decode cX11_showInt 65 = .ok (.iload_n 3, 1) := by decide +kernel
theorem dX11_showInt_66 : decode cX11_showInt 66 = .ok (.bipush 10, 2) := by decide +kernel
theorem dX11_showInt_68 : decode cX11_showInt 68 = .ok (.idiv, 1) := by decide +kernel
theorem dX11_showInt_69 : decode cX11_showInt 69 = .ok (.istore_n 3, 1) := by decide +kernel
theorem dX11_showInt_70 : decode cX11_showInt 70 = .ok (.goto (-23), 3) := by decide +kernel
theorem dX11_showInt_73 : decode cX11_showInt 73 = .ok (.return_, 1) := by decide +kernel
theorem dX11_showReal_0 : decode cX11_showReal 0 = .ok (.aload_n 0, 1) := by decide +kernel
theorem dX11_showReal_1 : decode cX11_showReal 1 = .ok (.getfield 29, 3) := by decide +kernel
theorem dX11_showReal_4 : decode cX11_showReal 4 = .ok (.fconst 0, 1) := by decide +kernel
theorem dX11_showReal_5 : decode cX11_showReal 5 = .ok (.fcmp .g, 1) := by decide +kernel
theorem dX11_showReal_6 : decode cX11_showReal 6 = .ok (.ifCond .ge 10, 3) := by decide +kernel
theorem dX11_showReal_9 : decode cX11_showReal 9 = .ok (.aload_n 1, 1) := by decide +kernel
theorem dX11_showReal_10 : decode cX11_showReal 10 = .ok (.bipush 45, 2) := by decide +kernel
theorem dX11_showReal_12 : decode cX11_showReal 12 = .ok (.invokevirtual 105, 3) := by decide +kernel
theorem dX11_showReal_15 : decode cX11_showReal 15 = .ok (.pop, 1) := by decide +kernel
theorem dX11_showReal_16 : decode cX11_showReal 16 = .ok (.aload_n 0, 1) := by decide +kernel
theorem dX11_showReal_17 : decode cX11_showReal 17 = .ok (.getfield 29, 3) := by decide +kernel
theorem dX11_showReal_20 : decode cX11_showReal 20 = .ok (.fconst 0, 1) := by decide +kernel
theorem dX11_showReal_21 : decode cX11_showReal 21 = .ok (.fcmp .g, 1) := by decide +kernel
theorem dX11_showReal_22 : decode cX11_showReal 22 = .ok (.ifCond .ge 11, 3) := by decide +kernel
theorem dX11_showReal_25 : decode cX11_showReal 25 = .ok (.aload_n 0, 1) := by decide +kernel
theorem dX11_showReal_26 : decode cX11_showReal 26 = .ok (.getfield 29, 3) := by decide +kernel
theorem dX11_showReal_29 : decode cX11_showReal 29 = .ok (.fneg, 1) := by decide +kernel
theorem dX11_showReal_30 : decode cX11_showReal 30 = .ok (.goto 7, 3) := by decide +kernel
theorem dX11_showReal_33 : decode cX11_showReal 33 = .ok (.aload_n 0, 1) := by decide +kernel
theorem dX11_showReal_34 : decode cX11_showReal 34 = .ok (.getfield 29, 3) := by decide +kernel
theorem dX11_showReal_37 : decode cX11_showReal 37 = .ok (.fstore_n 2, 1) := by decide +kernel
theorem dX11_showReal_38 : decode cX11_showReal 38 = .ok (.fload_n 2, 1) := by decide +kernel
theorem dX11_showReal_39 : decode cX11_showReal 39 = .ok (.f2i, 1) := by decide +kernel
theorem dX11_showReal_40 : decode cX11_showReal 40 = .ok (.istore_n 3, 1) := by decide +kernel
theorem dX11_showReal_41 : decode cX11_showReal 41 = .ok (.fload_n 2, 1) := by decide +kernel
theorem dX11_showReal_42 : decode cX11_showReal 42 = .ok (.iload_n 3, 1) := by decide +kernel
theorem dX11_showReal_43 : decode cX11_showReal 43 = .ok (.i2f, 1) := by decide +kernel
theorem dX11_showReal_44 : decode cX11_showReal 44 = .ok (.fsub, 1) := by decide +kernel
theorem dX11_showReal_45 : decode cX11_showReal 45 = .ok (.ldc 109, 2) := by decide +kernel
theorem dX11_showReal_47 : decode cX11_showReal 47 = .ok (.fmul, 1) := by decide +kernel
theorem dX11_showReal_48 : decode cX11_showReal 48 = .ok (.f2i, 1) := by decide +kernel
theorem dX11_showReal_49 : decode cX11_showReal 49 = .ok (.istore 4, 2) := by decide +kernel
theorem dX11_showReal_51 : decode cX11_showReal 51 = .ok (.iload_n 3, 1) := by decide +kernel
theorem dX11_showReal_52 : decode cX11_showReal 52 = .ok (.aload_n 1, 1) := by decide +kernel
theorem dX11_showReal_53 : decode cX11_showReal 53 = .ok (.invokestatic 97, 3) := by decide +kernel
theorem dX11_showReal_56 : decode cX11_showReal 56 = .ok (.aload_n 1, 1) := by decide +kernel
theorem dX11_showReal_57 : decode cX11_showReal 57 = .ok (.bipush 46, 2) := by decide +kernel
theorem dX11_showReal_59 : decode cX11_showReal 59 = .ok (.invokevirtual 105, 3) := by decide +kernel
theorem dX11_showReal_62 : decode cX11_showReal 62 = .ok (.pop, 1) := by decide +kernel
theorem dX11_showReal_63 : decode cX11_showReal 63 = .ok (.aload_n 1, 1) := by decide +kernel
theorem dX11_showReal_64 : decode cX11_showReal 64 = .ok (.bipush 48, 2) := by decide +kernel
theorem dX11_showReal_66 : decode cX11_showReal 66 = .ok (.iload 4, 2) := by decide +kernel
theorem dX11_showReal_68 : decode cX11_showReal 68 = .ok (.bipush 100, 2) := by decide +kernel
theorem dX11_showReal_70 : decode cX11_showReal 70 = .ok (.idiv, 1) := by decide +kernel
theorem dX11_showReal_71 : decode cX11_showReal 71 = .ok (.bipush 10, 2) := by decide +kernel
theorem dX11_showReal_73 : decode cX11_showReal 73 = .ok (.irem, 1) := by decide +kernel
theorem dX11_showReal_74 : decode cX11_showReal 74 = .ok (.iadd, 1) := by decide +kernel
theorem dX11_showReal_75 : decode cX11_showReal 75 = .ok (.invokevirtual 105, 3) := by decide +kernel
theorem dX11_showReal_78 : decode cX11_showReal 78 = .ok (.pop, 1) := by decide +kernel
theorem dX11_showReal_79 : decode cX11_showReal 79 = .ok (.aload_n 1, 1) := by decide +kernel
theorem dX11_showReal_80 : decode cX11_showReal 80 = .ok (.bipush 48, 2) := by decide +kernel
theorem dX11_showReal_82 : decode cX11_showReal 82 = .ok (.iload 4, 2) := by decide +kernel
theorem dX11_showReal_84 : decode cX11_showReal 84 = .ok (.bipush 10, 2) := by decide +kernel
theorem dX11_showReal_86 : decode cX11_showReal 86 = .ok (.idiv, 1) := by decide +kernel
theorem dX11_showReal_87 : decode cX11_showReal 87 = .ok (.bipush 10, 2) := by decide +kernel
theorem dX11_showReal_89 : decode cX11_showReal 89 = .ok (.irem, 1) := by decide +kernel
theorem dX11_showReal_90 : decode cX11_showReal 90 = .ok (.iadd, 1) := by decide +kernel
theorem dX11_showReal_91 : decode cX11_showReal 91 = .ok (.invokevirtual 105, 3) := by decide +kernel
theorem dX11_showReal_94 : decode cX11_showReal 94 = .ok (.pop, 1) := by decide +kernel
theorem dX11_showReal_95 : decode cX11_showReal 95 = .ok (.aload_n 1, 1) := by decide +kernel
theorem dX11_showReal_96 : decode cX11_showReal 96 = .ok (.bipush 48, 2) := by decide +kernel
theorem dX11_showReal_98 : decode cX11_showReal 98 = .ok (.iload 4, 2) := by decide +kernel
theorem dX11_showReal_100 : decode cX11_showReal 100 = .ok (.bipush 10, 2) := by decide +kernel
theorem dX11_showReal_102 : decode cX11_showReal 102 = .ok (.irem, 1) := by decide +kernel
theorem dX11_showReal_103 : decode cX11_showReal 103 = .ok (.iadd, 1) := by decide +kernel
theorem dX11_showReal_104 : decode cX11_showReal 104 = .ok (.invokevirtual 105, 3) := by decide +kernel
theorem dX11_showReal_107 : decode cX11_showReal 107 = .ok (.pop, 1) := by decide +kernel
theorem dX11_showReal_108 : decode cX11_showReal 108 = .ok (.return_, 1) := by decide +kernel
theorem dX11_applyAll_0 : decode cX11_applyAll 0 = .ok (.iconst 0, 1) := by decide +kernel
theorem dX11_applyAll_1 : decode cX11_applyAll 1 = .ok (.istore_n 2, 1) := by decide +kernel
theorem dX11_applyAll_2 : decode cX11_applyAll 2 = .ok (.aload_n 1, 1) := by decide +kernel
theorem dX11_applyAll_3 : decode cX11_applyAll 3 = .ok (.astore_n 3, 1) := by decide +kernel
theorem dX11_applyAll_4 : decode cX11_applyAll 4 = .ok (.aload_n 3, 1) := by decide +kernel
theorem dX11_applyAll_5 : decode cX11_applyAll 5 = .ok (.ifnull 145, 3) := by decide +kernel
theorem dX11_applyAll_8 : decode cX11_applyAll 8 = .ok (.iload_n 2, 1) := by decide +kernel
theorem dX11_applyAll_9 : decode cX11_applyAll 9 = .ok (.ifCond .ne 141, 3) := by decide +kernel
theorem dX11_applyAll_12 : decode cX11_applyAll 12 = .ok (.aload_n 3, 1) := by decide +kernel
theorem dX11_applyAll_13 : decode cX11_applyAll 13 = .ok (.getfield 110, 3) := by decide +kernel
theorem dX11_applyAll_16 : decode cX11_applyAll 16 = .ok (.getstatic 116, 3) := by decide +kernel
theorem dX11_applyAll_19 : decode cX11_applyAll 19 = .ok (.if_acmp .ne 21, 3) := by decide +kernel
theorem dX11_applyAll_22 : decode cX11_applyAll 22 = .ok (.aload_n 0, 1) := by decide +kernel
theorem dX11_applyAll_23 : decode cX11_applyAll 23 = .ok (.getfield 23, 3) := by decide +kernel
theorem dX11_applyAll_26 : decode cX11_applyAll 26 = .ok (.ifCond .ne 116, 3) := by decide +kernel
theorem dX11_applyAll_29 : decode cX11_applyAll 29 = .ok (.aload_n 0, 1) := by decide +kernel
theorem dX11_applyAll_30 : decode cX11_applyAll 30 = .ok (.aload_n 3, 1) := by decide +kernel
theorem dX11_applyAll_31 : decode cX11_applyAll 31 = .ok (.getfield 121, 3) := by decide +kernel
theorem dX11_applyAll_34 : decode cX11_applyAll 34 = .ok (.invokevirtual 124, 3) := by decide +kernel
theorem dX11_applyAll_37 : decode cX11_applyAll 37 = .ok (.goto 105, 3) := by decide +kernel
theorem dX11_applyAll_40 : decode cX11_applyAll 40 = .ok (.aload_n 0, 1) := by decide +kernel
theorem dX11_applyAll_41 : decode cX11_applyAll 41 = .ok (.getfield 23, 3) := by decide +kernel
theorem dX11_applyAll_44 : decode cX11_applyAll 44 = .ok (.tableswitch 96 1 4 #[32, 48, 64, 80], 32) := by decide +kernel
theorem dX11_applyAll_76 : decode cX11_applyAll 76 = .ok (.aload_n 0, 1) := by decide +kernel
theorem dX11_applyAll_77 : decode cX11_applyAll 77 = .ok (.aload_n 3, 1) := by decide +kernel
theorem dX11_applyAll_78 : decode cX11_applyAll 78 = .ok (.getfield 110, 3) := by decide +kernel
theorem dX11_applyAll_81 : decode cX11_applyAll 81 = .ok (.aload_n 3, 1) := by decide +kernel
theorem dX11_applyAll_82 : decode cX11_applyAll 82 = .ok (.getfield 121, 3) := by decide +kernel
theorem dX11_applyAll_85 : decode cX11_applyAll 85 = .ok (.invokevirtual 127, 3) := by decide +kernel
theorem dX11_applyAll_88 : decode cX11_applyAll 88 = .ok (.istore_n 2, 1) := by decide +kernel
theorem dX11_applyAll_89 : decode cX11_applyAll 89 = .ok (.goto 53, 3) := by decide +kernel
theorem dX11_applyAll_92 : decode cX11_applyAll 92 = .ok (.aload_n 0, 1) := by decide +kernel
theorem dX11_applyAll_93 : decode cX11_applyAll 93 = .ok (.aload_n 3, 1) := by decide +kernel
theorem dX11_applyAll_94 : decode cX11_applyAll 94 = .ok (.getfield 110, 3) := by decide +kernel
theorem dX11_applyAll_97 : decode cX11_applyAll 97 = .ok (.aload_n 3, 1) := by decide +kernel
theorem dX11_applyAll_98 : decode cX11_applyAll 98 = .ok (.getfield 121, 3) := by decide +kernel
theorem dX11_applyAll_101 : decode cX11_applyAll 101 = .ok (.invokevirtual 131, 3) := by decide +kernel
theorem dX11_applyAll_104 : decode cX11_applyAll 104 = .ok (.istore_n 2, 1) := by decide +kernel
theorem dX11_applyAll_105 : decode cX11_applyAll 105 = .ok (.goto 37, 3) := by decide +kernel
theorem dX11_applyAll_108 : decode cX11_applyAll 108 = .ok (.aload_n 0, 1) := by decide +kernel
theorem dX11_applyAll_109 : decode cX11_applyAll 109 = .ok (.aload_n 3, 1) := by decide +kernel
theorem dX11_applyAll_110 : decode cX11_applyAll 110 = .ok (.getfield 110, 3) := by decide +kernel
theorem dX11_applyAll_113 : decode cX11_applyAll 113 = .ok (.aload_n 3, 1) := by decide +kernel
theorem dX11_applyAll_114 : decode cX11_applyAll 114 = .ok (.getfield 121, 3) := by decide +kernel
theorem dX11_applyAll_117 : decode cX11_applyAll 117 = .ok (.invokevirtual 134, 3) := by decide +kernel
theorem dX11_applyAll_120 : decode cX11_applyAll 120 = .ok (.istore_n 2, 1) := by decide +kernel
theorem dX11_applyAll_121 : decode cX11_applyAll 121 = .ok (.goto 21, 3) := by decide +kernel
theorem dX11_applyAll_124 : decode cX11_applyAll 124 = .ok (.aload_n 0, 1) := by decide +kernel
theorem dX11_applyAll_125 : decode cX11_applyAll 125 = .ok (.aload_n 3, 1) := by decide +kernel
theorem dX11_applyAll_126 : decode cX11_applyAll 126 = .ok (.getfield 110, 3) := by decide +kernel
theorem dX11_applyAll_129 : decode cX11_applyAll 129 = .ok (.aload_n 3, 1) := by decide +kernel
theorem dX11_applyAll_130 : decode cX11_applyAll 130 = .ok (.getfield 121, 3) := by decide +kernel
theorem dX11_applyAll_133 : decode cX11_applyAll 133 = .ok (.invokevirtual 137, 3) := by decide +kernel
theorem dX11_applyAll_136 : decode cX11_applyAll 136 = .ok (.istore_n 2, 1) := by decide +kernel
theorem dX11_applyAll_137 : decode cX11_applyAll 137 = .ok (.goto 5, 3) := by decide +kernel
theorem dX11_applyAll_140 : decode cX11_applyAll 140 = .ok (.iconst 2, 1) := by decide +kernel
theorem dX11_applyAll_141 : decode cX11_applyAll 141 = .ok (.istore_n 2, 1) := by decide +kernel
theorem dX11_applyAll_142 : decode cX11_applyAll 142 = .ok (.aload_n 3, 1) := by decide +kernel
theorem dX11_applyAll_143 : decode cX11_applyAll 143 = .ok (.getfield 140, 3) := by decide +kernel
theorem dX11_applyAll_146 : decode cX11_applyAll 146 = .ok (.astore_n 3, 1) := by decide +kernel
theorem dX11_applyAll_147 : decode cX11_applyAll 147 = .ok (.goto (-143), 3) := by decide +kernel
theorem dX11_applyAll_150 : decode cX11_applyAll 150 = .ok (.iload_n 2, 1) := by decide +kernel
theorem dX11_applyAll_151 : decode cX11_applyAll 151 = .ok (.ireturn, 1) := by decide +kernel
theorem dX11_filterInt_0 : decode cX11_filterInt 0 = .ok (.getstatic 144, 3) := by decide +kernel
theorem dX11_filterInt_3 : decode cX11_filterInt 3 = .ok (.aload_n 1, 1) := by decide +kernel
theorem dX11_filterInt_4 : decode cX11_filterInt 4 = .ok (.invokevirtual 149, 3) := by decide +kernel
theorem dX11_filterInt_7 : decode cX11_filterInt 7 = .ok (.iaload, 1) := by decide +kernel
theorem dX11_filterInt_8 : decode cX11_filterInt 8 = .ok (.tableswitch 126 1 7 #[44, 57, 70, 82, 96, 98, 109], 44) := by decide +kernel
theorem dX11_filterInt_52 : decode cX11_filterInt 52 = .ok (.aload_n 0, 1) := by decide +kernel
theorem dX11_filterInt_53 : decode cX11_filterInt 53 = .ok (.aload_n 0, 1) := by decide +kernel
theorem dX11_filterInt_54 : decode cX11_filterInt 54 = .ok (.getfield 26, 3) := by decide +kernel
theorem dX11_filterInt_57 : decode cX11_filterInt 57 = .ok (.i2l, 1) := by decide +kernel
theorem dX11_filterInt_58 : decode cX11_filterInt 58 = .ok (.iload_n 2, 1) := by decide +kernel
theorem dX11_filterInt_59 : decode cX11_filterInt 59 = .ok (.i2l, 1) := by decide +kernel
theorem dX11_filterInt_60 : decode cX11_filterInt 60 = .ok (.ladd, 1) := by decide +kernel
theorem dX11_filterInt_61 : decode cX11_filterInt 61 = .ok (.invokevirtual 153, 3) := by decide +kernel
theorem dX11_filterInt_64 : decode cX11_filterInt 64 = .ok (.ireturn, 1) := by decide +kernel
theorem dX11_filterInt_65 : decode cX11_filterInt 65 = .ok (.aload_n 0, 1) := by decide +kernel
theorem dX11_filterInt_66 : decode cX11_filterInt 66 = .ok (.aload_n 0, 1) := by decide +kernel
theorem dX11_filterInt_67 : decode cX11_filterInt 67 = .ok (.getfield 26, 3) := by decide +kernel
theorem dX11_filterInt_70 : decode cX11_filterInt 70 = .ok (.i2l, 1) := by decide +kernel
theorem dX11_filterInt_71 : decode cX11_filterInt 71 = .ok (.iload_n 2, 1) := by decide +kernel
theorem dX11_filterInt_72 : decode cX11_filterInt 72 = .ok (.i2l, 1) := by decide +kernel
theorem dX11_filterInt_73 : decode cX11_filterInt 73 = .ok (.lmul, 1) := by decide +kernel
theorem dX11_filterInt_74 : decode cX11_filterInt 74 = .ok (.invokevirtual 153, 3) := by decide +kernel
theorem dX11_filterInt_77 : decode cX11_filterInt 77 = .ok (.ireturn, 1) := by decide +kernel
theorem dX11_filterInt_78 : decode cX11_filterInt 78 = .ok (.aload_n 0, 1) := by decide +kernel
theorem dX11_filterInt_79 : decode cX11_filterInt 79 = .ok (.aload_n 0, 1) := by decide +kernel
theorem dX11_filterInt_80 : decode cX11_filterInt 80 = .ok (.getfield 26, 3) := by decide +kernel
theorem dX11_filterInt_83 : decode cX11_filterInt 83 = .ok (.iconst 2, 1) := by decide +kernel
theorem dX11_filterInt_84 : decode cX11_filterInt 84 = .ok (.idiv, 1) := by decide +kernel
theorem dX11_filterInt_85 : decode cX11_filterInt 85 = .ok (.i2l, 1) := by decide +kernel
theorem dX11_filterInt_86 : decode cX11_filterInt 86 = .ok (.invokevirtual 153, 3) := by decide +kernel
theorem dX11_filterInt_89 : decode cX11_filterInt 89 = .ok (.ireturn, 1) := by decide +kernel
theorem dX11_filterInt_90 : decode cX11_filterInt 90 = .ok (.aload_n 0, 1) := by decide +kernel
theorem dX11_filterInt_91 : decode cX11_filterInt 91 = .ok (.aload_n 0, 1) := by decide +kernel
theorem dX11_filterInt_92 : decode cX11_filterInt 92 = .ok (.getfield 26, 3) := by decide +kernel
theorem dX11_filterInt_95 : decode cX11_filterInt 95 = .ok (.i2f, 1) := by decide +kernel
theorem dX11_filterInt_96 : decode cX11_filterInt 96 = .ok (.ldc 157, 2) := by decide +kernel
theorem dX11_filterInt_98 : decode cX11_filterInt 98 = .ok (.fdiv, 1) := by decide +kernel
theorem dX11_filterInt_99 : decode cX11_filterInt 99 = .ok (.invokevirtual 158, 3) := by decide +kernel
theorem dX11_filterInt_102 : decode cX11_filterInt 102 = .ok (.iconst 0, 1) := by decide +kernel
theorem dX11_filterInt_103 : decode cX11_filterInt 103 = .ok (.ireturn, 1) := by decide +kernel
theorem dX11_filterInt_104 : decode cX11_filterInt 104 = .ok (.iconst 0, 1) := by decide +kernel
theorem dX11_filterInt_105 : decode cX11_filterInt 105 = .ok (.ireturn, 1) := by decide +kernel
theorem dX11_filterInt_106 : decode cX11_filterInt 106 = .ok (.aload_n 0, 1) := by decide +kernel
theorem dX11_filterInt_107 : decode cX11_filterInt 107 = .ok (.aload_n 0, 1) := by decide +kernel
theorem dX11_filterInt_108 : decode cX11_filterInt 108 = .ok (.getfield 26, 3) := by decide +kernel
theorem dX11_filterInt_111 : decode cX11_filterInt 111 = .ok (.i2f, 1) := by decide +kernel
theorem dX11_filterInt_112 : decode cX11_filterInt 112 = .ok (.invokevirtual 158, 3) := by decide +kernel
theorem dX11_filterInt_115 : decode cX11_filterInt 115 = .ok (.iconst 0, 1) := by decide +kernel
theorem dX11_filterInt_116 : decode cX11_filterInt 116 = .ok (.ireturn, 1) := by decide +kernel
theorem dX11_filterInt_117 : decode cX11_filterInt 117 = .ok (.aload_n 0, 1) := by decide +kernel
theorem dX11_filterInt_118 : decode cX11_filterInt 118 = .ok (.aload_n 0, 1) := by decide +kernel
theorem dX11_filterInt_119 : decode cX11_filterInt 119 = .ok (.getfield 26, 3) := by decide +kernel
theorem dX11_filterInt_122 : decode cX11_filterInt 122 = .ok (.invokestatic 162, 3) := by decide +kernel
theorem dX11_filterInt_125 : decode cX11_filterInt 125 = .ok (.sipush 4096, 3) := by decide +kernel
theorem dX11_filterInt_128 : decode cX11_filterInt 128 = .ok (.idiv, 1) := by decide +kernel
theorem dX11_filterInt_129 : decode cX11_filterInt 129 = .ok (.i2l, 1) := by decide +kernel
theorem dX11_filterInt_130 : decode cX11_filterInt 130 = .ok (.invokevirtual 153, 3) := by decide +kernel
theorem dX11_filterInt_133 : decode cX11_filterInt 133 = .ok (.ireturn, 1) := by decide +kernel
theorem dX11_filterInt_134 : decode cX11_filterInt 134 = .ok (.iconst 2, 1) := by decide +kernel
theorem dX11_filterInt_135 : decode cX11_filterInt 135 = .ok (.ireturn, 1) := by decide +kernel
theorem dX11_filterReal_0 : decode cX11_filterReal 0 = .ok (.getstatic 144, 3) := by decide +kernel
theorem dX11_filterReal_3 : decode cX11_filterReal 3 = .ok (.aload_n 1, 1) := by decide +kernel
theorem dX11_filterReal_4 : decode cX11_filterReal 4 = .ok (.invokevirtual 149, 3) := by decide +kernel
theorem dX11_filterReal_7 : decode cX11_filterReal 7 = .ok (.iaload, 1) := by decide +kernel
theorem dX11_filterReal_8 : decode cX11_filterReal 8 = .ok (.tableswitch 126 1 7 #[44, 57, 70, 83, 96, 107, 109], 44) := by decide +kernel
theorem dX11_filterReal_52 : decode cX11_filterReal 52 = .ok (.aload_n 0, 1) := by decide +kernel
theorem dX11_filterReal_53 : decode cX11_filterReal 53 = .ok (.aload_n 0, 1) := by decide +kernel
theorem dX11_filterReal_54 : decode cX11_filterReal 54 = .ok (.getfield 29, 3) := by decide +kernel
theorem dX11_filterReal_57 : decode cX11_filterReal 57 = .ok (.iload_n 2, 1) := by decide +kernel
theorem dX11_filterReal_58 : decode cX11_filterReal 58 = .ok (.i2f, 1) := by decide +kernel
theorem dX11_filterReal_59 : decode cX11_filterReal 59 = .ok (.fadd, 1) := by decide +kernel
theorem dX11_filterReal_60 : decode cX11_filterReal 60 = .ok (.invokevirtual 158, 3) := by decide +kernel
theorem dX11_filterReal_63 : decode cX11_filterReal 63 = .ok (.iconst 0, 1) := by decide +kernel
theorem dX11_filterReal_64 : decode cX11_filterReal 64 = .ok (.ireturn, 1) := by decide +kernel
theorem dX11_filterReal_65 : decode cX11_filterReal 65 = .ok (.aload_n 0, 1) := by decide +kernel
theorem dX11_filterReal_66 : decode cX11_filterReal 66 = .ok (.aload_n 0, 1) := by decide +kernel
theorem dX11_filterReal_67 : decode cX11_filterReal 67 = .ok (.getfield 29, 3) := by decide +kernel
theorem dX11_filterReal_70 : decode cX11_filterReal 70 = .ok (.iload_n 2, 1) := by decide +kernel
theorem dX11_filterReal_71 : decode cX11_filterReal 71 = .ok (.i2f, 1) := by decide +kernel
theorem dX11_filterReal_72 : decode cX11_filterReal 72 = .ok (.fmul, 1) := by decide +kernel
theorem dX11_filterReal_73 : decode cX11_filterReal 73 = .ok (.invokevirtual 158, 3) := by decide +kernel
theorem dX11_filterReal_76 : decode cX11_filterReal 76 = .ok (.iconst 0, 1) := by decide +kernel
theorem dX11_filterReal_77 : decode cX11_filterReal 77 = .ok (.ireturn, 1) := by decide +kernel
theorem dX11_filterReal_78 : decode cX11_filterReal 78 = .ok (.aload_n 0, 1) := by decide +kernel
theorem dX11_filterReal_79 : decode cX11_filterReal 79 = .ok (.aload_n 0, 1) := by decide +kernel
theorem dX11_filterReal_80 : decode cX11_filterReal 80 = .ok (.getfield 29, 3) := by decide +kernel
theorem dX11_filterReal_83 : decode cX11_filterReal 83 = .ok (.ldc 165, 2) := by decide +kernel
theorem dX11_filterReal_85 : decode cX11_filterReal 85 = .ok (.fmul, 1) := by decide +kernel
theorem dX11_filterReal_86 : decode cX11_filterReal 86 = .ok (.invokevirtual 158, 3) := by decide +kernel
theorem dX11_filterReal_89 : decode cX11_filterReal 89 = .ok (.iconst 0, 1) := by decide +kernel
theorem dX11_filterReal_90 : decode cX11_filterReal 90 = .ok (.ireturn, 1) := by decide +kernel
theorem dX11_filterReal_91 : decode cX11_filterReal 91 = .ok (.aload_n 0, 1) := by decide +kernel
theorem dX11_filterReal_92 : decode cX11_filterReal 92 = .ok (.aload_n 0, 1) := by decide +kernel
theorem dX11_filterReal_93 : decode cX11_filterReal 93 = .ok (.getfield 29, 3) := by decide +kernel
theorem dX11_filterReal_96 : decode cX11_filterReal 96 = .ok (.ldc 157, 2) := by decide +kernel
theorem dX11_filterReal_98 : decode cX11_filterReal 98 = .ok (.fdiv, 1) := by decide +kernel
theorem dX11_filterReal_99 : decode cX11_filterReal 99 = .ok (.invokevirtual 158, 3) := by decide +kernel
theorem dX11_filterReal_102 : decode cX11_filterReal 102 = .ok (.iconst 0, 1) := by decide +kernel
theorem dX11_filterReal_103 : decode cX11_filterReal 103 = .ok (.ireturn, 1) := by decide +kernel
theorem dX11_filterReal_104 : decode cX11_filterReal 104 = .ok (.aload_n 0, 1) := by decide +kernel
theorem dX11_filterReal_105 : decode cX11_filterReal 105 = .ok (.aload_n 0, 1) := by decide +kernel
theorem dX11_filterReal_106 : decode cX11_filterReal 106 = .ok (.getfield 29, 3) := by decide +kernel
theorem dX11_filterReal_109 : decode cX11_filterReal 109 = .ok (.f2i, 1) := by decide +kernel
theorem dX11_filterReal_110 : decode cX11_filterReal 110 = .ok (.i2l, 1) := by decide +kernel
theorem dX11_filterReal_111 : decode cX11_filterReal 111 = .ok (.invokevirtual 153, 3) := by decide +kernel
theorem dX11_filterReal_114 : decode cX11_filterReal 114 = .ok (.ireturn, 1) := by decide +kernel
theorem dX11_filterReal_115 : decode cX11_filterReal 115 = .ok (.iconst 0, 1) := by decide +kernel
theorem dX11_filterReal_116 : decode cX11_filterReal 116 = .ok (.ireturn, 1) := by decide +kernel
theorem dX11_filterReal_117 : decode cX11_filterReal 117 = .ok (.aload_n 0, 1) := by decide +kernel
theorem dX11_filterReal_118 : decode cX11_filterReal 118 = .ok (.aload_n 0, 1) := by decide +kernel
theorem dX11_filterReal_119 : decode cX11_filterReal 119 = .ok (.getfield 29, 3) := by decide +kernel
theorem dX11_filterReal_122 : decode cX11_filterReal 122 = .ok (.invokestatic 66, 3) := by decide +kernel
theorem dX11_filterReal_125 : decode cX11_filterReal 125 = .ok (.sipush 4096, 3) := by decide +kernel
theorem dX11_filterReal_128 : decode cX11_filterReal 128 = .ok (.idiv, 1) := by decide +kernel
theorem dX11_filterReal_129 : decode cX11_filterReal 129 = .ok (.i2l, 1) := by decide +kernel
theorem dX11_filterReal_130 : decode cX11_filterReal 130 = .ok (.invokevirtual 153, 3) := by decide +kernel
theorem dX11_filterReal_133 : decode cX11_filterReal 133 = .ok (.ireturn, 1) := by decide +kernel
theorem dX11_filterReal_134 : decode cX11_filterReal 134 = .ok (.iconst 2, 1) := by decide +kernel
theorem dX11_filterReal_135 : decode cX11_filterReal 135 = .ok (.ireturn, 1) := by decide +kernel
theorem dX11_filterText_0 : decode cX11_filterText 0 = .ok (.getstatic 144, 3) := by decide +kernel
theorem dX11_filterText_3 : decode cX11_filterText 3 = .ok (.aload_n 1, 1) := by decide +kernel
theorem dX11_filterText_4 : decode cX11_filterText 4 = .ok (.invokevirtual 149, 3) := by decide +kernel
theorem dX11_filterText_7 : decode cX11_filterText 7 = .ok (.iaload, 1) := by decide +kernel
theorem dX11_filterText_8 : decode cX11_filterText 8 = .ok (.tableswitch 205 5 12 #[145, 205, 205, 48, 93, 138, 155, 169], 48) := by decide +kernel
theorem dX11_filterText_56 : decode cX11_filterText 56 = .ok (.iconst 0, 1) := by decide +kernel
theorem dX11_filterText_57 : decode cX11_filterText 57 = .ok (.istore_n 3, 1) := by decide +kernel
theorem dX11_filterText_58 : decode cX11_filterText 58 = .ok (.iload_n 3, 1) := by decide +kernel
theorem dX11_filterText_59 : decode cX11_filterText 59 = .ok (.aload_n 0, 1) := by decide +kernel
theorem dX11_filterText_60 : decode cX11_filterText 60 = .ok (.getfield 19, 3) := by decide +kernel
theorem dX11_filterText_63 : decode cX11_filterText 63 = .ok (.if_icmp .ge 36, 3) := by decide +kernel
theorem dX11_filterText_66 : decode cX11_filterText 66 = .ok (.aload_n 0, 1) := by decide +kernel
theorem dX11_filterText_67 : decode cX11_filterText 67 = .ok (.iload_n 3, 1) := by decide +kernel
theorem dX11_filterText_68 : decode cX11_filterText 68 = .ok (.invokevirtual 96, 3) := by decide +kernel
theorem dX11_filterText_71 : decode cX11_filterText 71 = .ok (.invokestatic 166, 3) := by decide +kernel
theorem dX11_filterText_74 : decode cX11_filterText 74 = .ok (.ifCond .eq 19, 3) := by decide +kernel
theorem dX11_filterText_77 : decode cX11_filterText 77 = .ok (.aload_n 0, 1) := by decide +kernel
theorem dX11_filterText_78 : decode cX11_filterText 78 = .ok (.iload_n 3, 1) := by decide +kernel
theorem dX11_filterText_79 : decode cX11_filterText 79 = .ok (.aload_n 0, 1) := by decide +kernel
theorem dX11_filterText_80 : decode cX11_filterText 80 = .ok (.iload_n 3, 1) := by decide +kernel
theorem dX11_filterText_81 : decode cX11_filterText 81 = .ok (.invokevirtual 96, 3) := by decide +kernel
theorem dX11_filterText_84 : decode cX11_filterText 84 = .ok (.bipush 97, 2) := by decide +kernel
theorem dX11_filterText_86 : decode cX11_filterText 86 = .ok (.isub, 1) := by decide +kernel
theorem dX11_filterText_87 : decode cX11_filterText 87 = .ok (.bipush 65, 2) := by decide +kernel
theorem dX11_filterText_89 : decode cX11_filterText 89 = .ok (.iadd, 1) := by decide +kernel
theorem dX11_filterText_90 : decode cX11_filterText 90 = .ok (.invokevirtual 45, 3) := by decide +kernel
theorem dX11_filterText_93 : decode cX11_filterText 93 = .ok (.iinc 3 1, 3) := by decide +kernel
theorem dX11_filterText_96 : decode cX11_filterText 96 = .ok (.goto (-38), 3) := by decide +kernel
theorem dX11_filterText_99 : decode cX11_filterText 99 = .ok (.iconst 0, 1) := by decide +kernel
theorem dX11_filterText_100 : decode cX11_filterText 100 = .ok (.ireturn, 1) := by decide +kernel
theorem dX11_filterText_101 : decode cX11_filterText 101 = .ok (.iconst 0, 1) := by decide +kernel
theorem dX11_filterText_102 : decode cX11_filterText 102 = .ok (.istore_n 3, 1) := by decide +kernel
theorem dX11_filterText_103 : decode cX11_filterText 103 = .ok (.iload_n 3, 1) := by decide +kernel
theorem dX11_filterText_104 : decode cX11_filterText 104 = .ok (.aload_n 0, 1) := by decide +kernel
theorem dX11_filterText_105 : decode cX11_filterText 105 = .ok (.getfield 19, 3) := by decide +kernel
theorem dX11_filterText_108 : decode cX11_filterText 108 = .ok (.if_icmp .ge 36, 3) := by decide +kernel
theorem dX11_filterText_111 : decode cX11_filterText 111 = .ok (.aload_n 0, 1) := by decide +kernel
theorem dX11_filterText_112 : decode cX11_filterText 112 = .ok (.iload_n 3, 1) := by decide +kernel
theorem dX11_filterText_113 : decode cX11_filterText 113 = .ok (.invokevirtual 96, 3) := by decide +kernel
theorem dX11_filterText_116 : decode cX11_filterText 116 = .ok (.invokestatic 169, 3) := by decide +kernel
theorem dX11_filterText_119 : decode cX11_filterText 119 = .ok (.ifCond .eq 19, 3) := by decide +kernel
theorem dX11_filterText_122 : decode cX11_filterText 122 = .ok (.aload_n 0, 1) := by decide +kernel
theorem dX11_filterText_123 : decode cX11_filterText 123 = .ok (.iload_n 3, 1) := by decide +kernel
theorem dX11_filterText_124 : decode cX11_filterText 124 = .ok (.aload_n 0, 1) := by decide +kernel
theorem dX11_filterText_125 : decode cX11_filterText 125 = .ok (.iload_n 3, 1) := by decide +kernel
theorem dX11_filterText_126 : decode cX11_filterText 126 = .ok (.invokevirtual 96, 3) := by decide +kernel
theorem dX11_filterText_129 : decode cX11_filterText 129 = .ok (.bipush 65, 2) := by decide +kernel
theorem dX11_filterText_131 : decode cX11_filterText 131 = .ok (.isub, 1) := by decide +kernel
theorem dX11_filterText_132 : decode cX11_filterText 132 = .ok (.bipush 97, 2) := by decide +kernel
theorem dX11_filterText_134 : decode cX11_filterText 134 = .ok (.iadd, 1) := by decide +kernel
theorem dX11_filterText_135 : decode cX11_filterText 135 = .ok (.invokevirtual 45, 3) := by decide +kernel
theorem dX11_filterText_138 : decode cX11_filterText 138 = .ok (.iinc 3 1, 3) := by decide +kernel
theorem dX11_filterText_141 : decode cX11_filterText 141 = .ok (.goto (-38), 3) := by decide +kernel
theorem dX11_filterText_144 : decode cX11_filterText 144 = .ok (.iconst 0, 1) := by decide +kernel
theorem dX11_filterText_145 : decode cX11_filterText 145 = .ok (.ireturn, 1) := by decide +kernel
theorem dX11_filterText_146 : decode cX11_filterText 146 = .ok (.aload_n 0, 1) := by decide +kernel
theorem dX11_filterText_147 : decode cX11_filterText 147 = .ok (.iload_n 2, 1) := by decide +kernel
theorem dX11_filterText_148 : decode cX11_filterText 148 = .ok (.invokevirtual 172, 3) := by decide +kernel
theorem dX11_filterText_151 : decode cX11_filterText 151 = .ok (.iconst 0, 1) := by decide +kernel
theorem dX11_filterText_152 : decode cX11_filterText 152 = .ok (.ireturn, 1) := by decide +kernel
theorem dX11_filterText_153 : decode cX11_filterText 153 = .ok (.aload_n 0, 1) := by decide +kernel
theorem dX11_filterText_154 : decode cX11_filterText 154 = .ok (.aload_n 0, 1) := by decide +kernel
theorem dX11_filterText_155 : decode cX11_filterText 155 = .ok (.invokevirtual 175, 3) := by decide +kernel
theorem dX11_filterText_158 : decode cX11_filterText 158 = .ok (.i2l, 1) := by decide +kernel
theorem dX11_filterText_159 : decode cX11_filterText 159 = .ok (.invokevirtual 153, 3) := by decide +kernel
theorem dX11_filterText_162 : decode cX11_filterText 162 = .ok (.ireturn, 1) := by decide +kernel
theorem dX11_filterText_163 : decode cX11_filterText 163 = .ok (.aload_n 0, 1) := by decide +kernel
theorem dX11_filterText_164 : decode cX11_filterText 164 = .ok (.aload_n 0, 1) := by decide +kernel
theorem dX11_filterText_165 : decode cX11_filterText 165 = .ok (.getfield 19, 3) := by decide +kernel
theorem dX11_filterText_168 : decode cX11_filterText 168 = .ok (.iconst 1, 1) := by decide +kernel
theorem dX11_filterText_169 : decode cX11_filterText 169 = .ok (.invokestatic 56, 3) := by decide +kernel
theorem dX11_filterText_172 : decode cX11_filterText 172 = .ok (.invokevirtual 41, 3) := by decide +kernel
theorem dX11_filterText_175 : decode cX11_filterText 175 = .ok (.iconst 0, 1) := by decide +kernel
theorem dX11_filterText_176 : decode cX11_filterText 176 = .ok (.ireturn, 1) := by decide +kernel
theorem dX11_filterText_177 : decode cX11_filterText 177 = .ok (.aload_n 0, 1) := by decide +kernel
theorem dX11_filterText_178 : decode cX11_filterText 178 = .ok (.getfield 19, 3) := by decide +kernel
theorem dX11_filterText_181 : decode cX11_filterText 181 = .ok (.ifCond .le 18, 3) := by decide +kernel
theorem dX11_filterText_184 : decode cX11_filterText 184 = .ok (.aload_n 0, 1) := by decide +kernel
theorem dX11_filterText_185 : decode cX11_filterText 185 = .ok (.iconst 0, 1) := by decide +kernel
theorem dX11_filterText_186 : decode cX11_filterText 186 = .ok (.aload_n 0, 1) := by decide +kernel
theorem dX11_filterText_187 : decode cX11_filterText 187 = .ok (.aload_n 0, 1) := by decide +kernel
theorem dX11_filterText_188 : decode cX11_filterText 188 = .ok (.getfield 19, 3) := by decide +kernel
theorem dX11_filterText_191 : decode cX11_filterText 191 = .ok (.iconst 1, 1) := by decide +kernel
theorem dX11_filterText_192 : decode cX11_filterText 192 = .ok (.isub, 1) := by decide +kernel
theorem dX11_filterText_193 : decode cX11_filterText 193 = .ok (.invokevirtual 96, 3) := by decide +kernel
theorem dX11_filterText_196 : decode cX11_filterText 196 = .ok (.invokevirtual 45, 3) := by decide +kernel
theorem dX11_filterText_199 : decode cX11_filterText 199 = .ok (.aload_n 0, 1) := by decide +kernel
theorem dX11_filterText_200 : decode cX11_filterText 200 = .ok (.aload_n 0, 1) := by decide +kernel
theorem dX11_filterText_201 : decode cX11_filterText 201 = .ok (.getfield 19, 3) := by decide +kernel
theorem dX11_filterText_204 : decode cX11_filterText 204 = .ok (.iconst 1, 1) := by decide +kernel
theorem dX11_filterText_205 : decode cX11_filterText 205 = .ok (.invokestatic 56, 3) := by decide +kernel
theorem dX11_filterText_208 : decode cX11_filterText 208 = .ok (.invokevirtual 41, 3) := by decide +kernel
theorem dX11_filterText_211 : decode cX11_filterText 211 = .ok (.iconst 0, 1) := by decide +kernel
theorem dX11_filterText_212 : decode cX11_filterText 212 = .ok (.ireturn, 1) := by decide +kernel
theorem dX11_filterText_213 : decode cX11_filterText 213 = .ok (.aload_n 0, 1) := by decide +kernel
theorem dX11_filterText_214 : decode cX11_filterText 214 = .ok (.aload_n 1, 1) := by decide +kernel
theorem dX11_filterText_215 : decode cX11_filterText 215 = .ok (.iload_n 2, 1) := by decide +kernel
theorem dX11_filterText_216 : decode cX11_filterText 216 = .ok (.invokevirtual 178, 3) := by decide +kernel
theorem dX11_filterText_219 : decode cX11_filterText 219 = .ok (.ireturn, 1) := by decide +kernel
theorem dX11_filterList_0 : decode cX11_filterList 0 = .ok (.getstatic 144, 3) := by decide +kernel
theorem dX11_filterList_3 : decode cX11_filterList 3 = .ok (.aload_n 1, 1) := by decide +kernel
theorem dX11_filterList_4 : decode cX11_filterList 4 = .ok (.invokevirtual 149, 3) := by decide +kernel
theorem dX11_filterList_7 : decode cX11_filterList 7 = .ok (.iaload, 1) := by decide +kernel
theorem dX11_filterList_8 : decode cX11_filterList 8 = .ok (.tableswitch 64 11 14 #[32, 38, 49, 58], 32) := by decide +kernel
theorem dX11_filterList_40 : decode cX11_filterList 40 = .ok (.aload_n 0, 1) := by decide +kernel
theorem dX11_filterList_41 : decode cX11_filterList 41 = .ok (.iconst 0, 1) := by decide +kernel
theorem dX11_filterList_42 : decode cX11_filterList 42 = .ok (.invokevirtual 181, 3) := by decide +kernel
theorem dX11_filterList_45 : decode cX11_filterList 45 = .ok (.ireturn, 1) := by decide +kernel
theorem dX11_filterList_46 : decode cX11_filterList 46 = .ok (.aload_n 0, 1) := by decide +kernel
theorem dX11_filterList_47 : decode cX11_filterList 47 = .ok (.aload_n 0, 1) := by decide +kernel
theorem dX11_filterList_48 : decode cX11_filterList 48 = .ok (.getfield 19, 3) := by decide +kernel
theorem dX11_filterList_51 : decode cX11_filterList 51 = .ok (.iconst 1, 1) := by decide +kernel
theorem dX11_filterList_52 : decode cX11_filterList 52 = .ok (.isub, 1) := by decide +kernel
theorem dX11_filterList_53 : decode cX11_filterList 53 = .ok (.invokevirtual 181, 3) := by decide +kernel
theorem dX11_filterList_56 : decode cX11_filterList 56 = .ok (.ireturn, 1) := by decide +kernel
theorem dX11_filterList_57 : decode cX11_filterList 57 = .ok (.aload_n 0, 1) := by decide +kernel
theorem dX11_filterList_58 : decode cX11_filterList 58 = .ok (.aload_n 0, 1) := by decide +kernel
theorem dX11_filterList_59 : decode cX11_filterList 59 = .ok (.invokevirtual 184, 3) := by decide +kernel
theorem dX11_filterList_62 : decode cX11_filterList 62 = .ok (.invokevirtual 153, 3) := by decide +kernel
theorem dX11_filterList_65 : decode cX11_filterList 65 = .ok (.ireturn, 1) := by decide +kernel
theorem dX11_filterList_66 : decode cX11_filterList 66 = .ok (.aload_n 0, 1) := by decide +kernel
theorem dX11_filterList_67 : decode cX11_filterList 67 = .ok (.invokevirtual 188, 3) := by decide +kernel
theorem dX11_filterList_70 : decode cX11_filterList 70 = .ok (.iconst 0, 1) := by decide +kernel
theorem dX11_filterList_71 : decode cX11_filterList 71 = .ok (.ireturn, 1) := by decide +kernel
theorem dX11_filterList_72 : decode cX11_filterList 72 = .ok (.aload_n 0, 1) := by decide +kernel
theorem dX11_filterList_73 : decode cX11_filterList 73 = .ok (.aload_n 1, 1) := by decide +kernel
theorem dX11_filterList_74 : decode cX11_filterList 74 = .ok (.iload_n 2, 1) := by decide +kernel
theorem dX11_filterList_75 : decode cX11_filterList 75 = .ok (.invokevirtual 178, 3) := by decide +kernel
theorem dX11_filterList_78 : decode cX11_filterList 78 = .ok (.ireturn, 1) := by decide +kernel
theorem dX11_filterItems_0 : decode cX11_filterItems 0 = .ok (.getstatic 144, 3) := by decide +kernel
theorem dX11_filterItems_3 : decode cX11_filterItems 3 = .ok (.aload_n 1, 1) := by decide +kernel
theorem dX11_filterItems_4 : decode cX11_filterItems 4 = .ok (.invokevirtual 149, 3) := by decide +kernel
theorem dX11_filterItems_7 : decode cX11_filterItems 7 = .ok (.iaload, 1) := by decide +kernel
theorem dX11_filterItems_8 : decode cX11_filterItems 8 = .ok (.tableswitch 85 15 17 #[28, 61, 71], 28) := by decide +kernel
theorem dX11_filterItems_36 : decode cX11_filterItems 36 = .ok (.iconst 0, 1) := by decide +kernel
theorem dX11_filterItems_37 : decode cX11_filterItems 37 = .ok (.istore_n 3, 1) := by decide +kernel
theorem dX11_filterItems_38 : decode cX11_filterItems 38 = .ok (.iload_n 3, 1) := by decide +kernel
theorem dX11_filterItems_39 : decode cX11_filterItems 39 = .ok (.aload_n 0, 1) := by decide +kernel
theorem dX11_filterItems_40 : decode cX11_filterItems 40 = .ok (.getfield 19, 3) := by decide +kernel
theorem dX11_filterItems_43 : decode cX11_filterItems 43 = .ok (.iconst 2, 1) := by decide +kernel
theorem dX11_filterItems_44 : decode cX11_filterItems 44 = .ok (.idiv, 1) := by decide +kernel
theorem dX11_filterItems_45 : decode cX11_filterItems 45 = .ok (.if_icmp .ge 22, 3) := by decide +kernel
theorem dX11_filterItems_48 : decode cX11_filterItems 48 = .ok (.aload_n 0, 1) := by decide +kernel
theorem dX11_filterItems_49 : decode cX11_filterItems 49 = .ok (.iload_n 3, 1) := by decide +kernel
theorem dX11_filterItems_50 : decode cX11_filterItems 50 = .ok (.aload_n 0, 1) := by decide +kernel
theorem dX11_filterItems_51 : decode cX11_filterItems 51 = .ok (.getfield 19, 3) := by decide +kernel
theorem dX11_filterItems_54 : decode cX11_filterItems 54 = .ok (.iconst 1, 1) := by decide +kernel
theorem dX11_filterItems_55 : decode cX11_filterItems 55 = .ok (.isub, 1) := by decide +kernel
theorem dX11_filterItems_56 : decode cX11_filterItems 56 = .ok (.iload_n 3, 1) := by decide +kernel
theorem dX11_filterItems_57 : decode cX11_filterItems 57 = .ok (.isub, 1) := by decide +kernel
theorem dX11_filterItems_58 : decode cX11_filterItems 58 = .ok (.invokevirtual 191, 3) := by decide +kernel
theorem dX11_filterItems_61 : decode cX11_filterItems 61 = .ok (.iinc 3 1, 3) := by decide +kernel
theorem dX11_filterItems_64 : decode cX11_filterItems 64 = .ok (.goto (-26), 3) := by decide +kernel
theorem dX11_filterItems_67 : decode cX11_filterItems 67 = .ok (.iconst 0, 1) := by decide +kernel
theorem dX11_filterItems_68 : decode cX11_filterItems 68 = .ok (.ireturn, 1) := by decide +kernel
theorem dX11_filterItems_69 : decode cX11_filterItems 69 = .ok (.aload_n 0, 1) := by decide +kernel
theorem dX11_filterItems_70 : decode cX11_filterItems 70 = .ok (.aload_n 0, 1) := by decide +kernel
theorem dX11_filterItems_71 : decode cX11_filterItems 71 = .ok (.getfield 19, 3) := by decide +kernel
theorem dX11_filterItems_74 : decode cX11_filterItems 74 = .ok (.invokevirtual 124, 3) := by decide +kernel
theorem dX11_filterItems_77 : decode cX11_filterItems 77 = .ok (.iconst 0, 1) := by decide +kernel
theorem dX11_filterItems_78 : decode cX11_filterItems 78 = .ok (.ireturn, 1) := by decide +kernel
theorem dX11_filterItems_79 : decode cX11_filterItems 79 = .ok (.aload_n 0, 1) := by decide +kernel
theorem dX11_filterItems_80 : decode cX11_filterItems 80 = .ok (.aload_n 0, 1) := by decide +kernel
theorem dX11_filterItems_81 : decode cX11_filterItems 81 = .ok (.getfield 19, 3) := by decide +kernel
theorem dX11_filterItems_84 : decode cX11_filterItems 84 = .ok (.iload_n 2, 1) := by decide +kernel
theorem dX11_filterItems_85 : decode cX11_filterItems 85 = .ok (.invokestatic 56, 3) := by decide +kernel
theorem dX11_filterItems_88 : decode cX11_filterItems 88 = .ok (.invokevirtual 41, 3) := by decide +kernel
theorem dX11_filterItems_91 : decode cX11_filterItems 91 = .ok (.iconst 0, 1) := by decide +kernel
theorem dX11_filterItems_92 : decode cX11_filterItems 92 = .ok (.ireturn, 1) := by decide +kernel
theorem dX11_filterItems_93 : decode cX11_filterItems 93 = .ok (.iconst 2, 1) := by decide +kernel
theorem dX11_filterItems_94 : decode cX11_filterItems 94 = .ok (.ireturn, 1) := by decide +kernel
theorem dX11_becomeItem_0 : decode cX11_becomeItem 0 = .ok (.aload_n 0, 1) := by decide +kernel
theorem dX11_becomeItem_1 : decode cX11_becomeItem 1 = .ok (.iload_n 1, 1) := by decide +kernel
theorem dX11_becomeItem_2 : decode cX11_becomeItem 2 = .ok (.invokevirtual 96, 3) := by decide +kernel
theorem dX11_becomeItem_5 : decode cX11_becomeItem 5 = .ok (.istore_n 2, 1) := by decide +kernel
theorem dX11_becomeItem_6 : decode cX11_becomeItem 6 = .ok (.iload_n 1, 1) := by decide +kernel
theorem dX11_becomeItem_7 : decode cX11_becomeItem 7 = .ok (.aload_n 0, 1) := by decide +kernel
theorem dX11_becomeItem_8 : decode cX11_becomeItem 8 = .ok (.getfield 19, 3) := by decide +kernel
theorem dX11_becomeItem_11 : decode cX11_becomeItem 11 = .ok (.invokestatic 194, 3) := by decide +kernel
theorem dX11_becomeItem_14 : decode cX11_becomeItem 14 = .ok (.ifCond .eq 11, 3) := by decide +kernel
theorem dX11_becomeItem_17 : decode cX11_becomeItem 17 = .ok (.aload_n 0, 1) := by decide +kernel
theorem dX11_becomeItem_18 : decode cX11_becomeItem 18 = .ok (.iload_n 2, 1) := by decide +kernel
theorem dX11_becomeItem_19 : decode cX11_becomeItem 19 = .ok (.invokevirtual 124, 3) := by decide +kernel
theorem dX11_becomeItem_22 : decode cX11_becomeItem 22 = .ok (.goto 7, 3) := by decide +kernel
theorem dX11_becomeItem_25 : decode cX11_becomeItem 25 = .ok (.aload_n 0, 1) := by decide +kernel
theorem dX11_becomeItem_26 : decode cX11_becomeItem 26 = .ok (.invokevirtual 198, 3) := by decide +kernel
theorem dX11_becomeItem_29 : decode cX11_becomeItem 29 = .ok (.iconst 0, 1) := by decide +kernel
theorem dX11_becomeItem_30 : decode cX11_becomeItem 30 = .ok (.ireturn, 1) := by decide +kernel
theorem dX11_countFigures_0 : decode cX11_countFigures 0 = .ok (.iconst 0, 1) := by decide +kernel
theorem dX11_countFigures_1 : decode cX11_countFigures 1 = .ok (.istore_n 1, 1) := by decide +kernel
theorem dX11_countFigures_2 : decode cX11_countFigures 2 = .ok (.iconst 0, 1) := by decide +kernel
theorem dX11_countFigures_3 : decode cX11_countFigures 3 = .ok (.istore_n 2, 1) := by decide +kernel
theorem dX11_countFigures_4 : decode cX11_countFigures 4 = .ok (.iload_n 2, 1) := by decide +kernel
theorem dX11_countFigures_5 : decode cX11_countFigures 5 = .ok (.aload_n 0, 1) := by decide +kernel
theorem dX11_countFigures_6 : decode cX11_countFigures 6 = .ok (.getfield 19, 3) := by decide +kernel
theorem dX11_countFigures_9 : decode cX11_countFigures 9 = .ok (.if_icmp .ge 24, 3) := by decide +kernel
theorem dX11_countFigures_12 : decode cX11_countFigures 12 = .ok (.aload_n 0, 1) := by decide +kernel
theorem dX11_countFigures_13 : decode cX11_countFigures 13 = .ok (.iload_n 2, 1) := by decide +kernel
theorem dX11_countFigures_14 : decode cX11_countFigures 14 = .ok (.invokevirtual 96, 3) := by decide +kernel
theorem dX11_countFigures_17 : decode cX11_countFigures 17 = .ok (.invokestatic 201, 3) := by decide +kernel
theorem dX11_countFigures_20 : decode cX11_countFigures 20 = .ok (.ifCond .eq 7, 3) := by decide +kernel
theorem dX11_countFigures_23 : decode cX11_countFigures 23 = .ok (.iload_n 1, 1) := by decide +kernel
theorem dX11_countFigures_24 : decode cX11_countFigures 24 = .ok (.iconst 1, 1) := by decide +kernel
theorem dX11_countFigures_25 : decode cX11_countFigures 25 = .ok (.iadd, 1) := by decide +kernel
theorem dX11_countFigures_26 : decode cX11_countFigures 26 = .ok (.istore_n 1, 1) := by decide +kernel
theorem dX11_countFigures_27 : decode cX11_countFigures 27 = .ok (.iinc 2 1, 3) := by decide +kernel
theorem dX11_countFigures_30 : decode cX11_countFigures 30 = .ok (.goto (-26), 3) := by decide +kernel
theorem dX11_countFigures_33 : decode cX11_countFigures 33 = .ok (.iload_n 1, 1) := by decide +kernel
theorem dX11_countFigures_34 : decode cX11_countFigures 34 = .ok (.ireturn, 1) := by decide +kernel
theorem dX11_padTo_0 : decode cX11_padTo 0 = .ok (.aload_n 0, 1) := by decide +kernel
theorem dX11_padTo_1 : decode cX11_padTo 1 = .ok (.getfield 19, 3) := by decide +kernel
theorem dX11_padTo_4 : decode cX11_padTo 4 = .ok (.istore_n 2, 1) := by decide +kernel
theorem dX11_padTo_5 : decode cX11_padTo 5 = .ok (.aload_n 0, 1) := by decide +kernel
theorem dX11_padTo_6 : decode cX11_padTo 6 = .ok (.iload_n 2, 1) := by decide +kernel
theorem dX11_padTo_7 : decode cX11_padTo 7 = .ok (.iload_n 1, 1) := by decide +kernel
theorem dX11_padTo_8 : decode cX11_padTo 8 = .ok (.invokestatic 204, 3) := by decide +kernel
theorem dX11_padTo_11 : decode cX11_padTo 11 = .ok (.invokevirtual 41, 3) := by decide +kernel
theorem dX11_padTo_14 : decode cX11_padTo 14 = .ok (.iload_n 2, 1) := by decide +kernel
theorem dX11_padTo_15 : decode cX11_padTo 15 = .ok (.istore_n 3, 1) := by decide +kernel
theorem dX11_padTo_16 : decode cX11_padTo 16 = .ok (.iload_n 3, 1) := by decide +kernel
theorem dX11_padTo_17 : decode cX11_padTo 17 = .ok (.aload_n 0, 1) := by decide +kernel
theorem dX11_padTo_18 : decode cX11_padTo 18 = .ok (.getfield 19, 3) := by decide +kernel
theorem dX11_padTo_21 : decode cX11_padTo 21 = .ok (.if_icmp .ge 16, 3) := by decide +kernel
theorem dX11_padTo_24 : decode cX11_padTo 24 = .ok (.aload_n 0, 1) := by decide +kernel
theorem dX11_padTo_25 : decode cX11_padTo 25 = .ok (.iload_n 3, 1) := by decide +kernel
theorem dX11_padTo_26 : decode cX11_padTo 26 = .ok (.bipush 32, 2) := by decide +kernel
theorem dX11_padTo_28 : decode cX11_padTo 28 = .ok (.invokevirtual 45, 3) := by decide +kernel
theorem dX11_padTo_31 : decode cX11_padTo 31 = .ok (.iinc 3 1, 3) := by decide +kernel
theorem dX11_padTo_34 : decode cX11_padTo 34 = .ok (.goto (-18), 3) := by decide +kernel
theorem dX11_padTo_37 : decode cX11_padTo 37 = .ok (.return_, 1) := by decide +kernel
theorem dX11_sumOfItems_0 : decode cX11_sumOfItems 0 = .ok (.lconst 0, 1) := by decide +kernel
theorem dX11_sumOfItems_1 : decode cX11_sumOfItems 1 = .ok (.lstore_n 1, 1) := by decide +kernel
theorem dX11_sumOfItems_2 : decode cX11_sumOfItems 2 = .ok (.iconst 0, 1) := by decide +kernel
theorem dX11_sumOfItems_3 : decode cX11_sumOfItems 3 = .ok (.istore_n 3, 1) := by decide +kernel
theorem dX11_sumOfItems_4 : decode cX11_sumOfItems 4 = .ok (.iload_n 3, 1) := by decide +kernel
theorem dX11_sumOfItems_5 : decode cX11_sumOfItems 5 = .ok (.aload_n 0, 1) := by decide +kernel
theorem dX11_sumOfItems_6 : decode cX11_sumOfItems 6 = .ok (.getfield 19, 3) := by decide +kernel
theorem dX11_sumOfItems_9 : decode cX11_sumOfItems 9 = .ok (.if_icmp .ge 18, 3) := by decide +kernel
theorem dX11_sumOfItems_12 : decode cX11_sumOfItems 12 = .ok (.lload_n 1, 1) := by decide +kernel
theorem dX11_sumOfItems_13 : decode cX11_sumOfItems 13 = .ok (.aload_n 0, 1) := by decide +kernel
theorem dX11_sumOfItems_14 : decode cX11_sumOfItems 14 = .ok (.iload_n 3, 1) := by decide +kernel
theorem dX11_sumOfItems_15 : decode cX11_sumOfItems 15 = .ok (.invokevirtual 96, 3) := by decide +kernel
theorem dX11_sumOfItems_18 : decode cX11_sumOfItems 18 = .ok (.i2l, 1) := by decide +kernel
theorem dX11_sumOfItems_19 : decode cX11_sumOfItems 19 = .ok (.ladd, 1) := by decide +kernel
theorem dX11_sumOfItems_20 : decode cX11_sumOfItems 20 = .ok (.lstore_n 1, 1) := by decide +kernel
theorem dX11_sumOfItems_21 : decode cX11_sumOfItems 21 = .ok (.iinc 3 1, 3) := by decide +kernel
theorem dX11_sumOfItems_24 : decode cX11_sumOfItems 24 = .ok (.goto (-20), 3) := by decide +kernel
theorem dX11_sumOfItems_27 : decode cX11_sumOfItems 27 = .ok (.lload_n 1, 1) := by decide +kernel
theorem dX11_sumOfItems_28 : decode cX11_sumOfItems 28 = .ok (.lreturn, 1) := by decide +kernel
theorem dX11_exchange_0 : decode cX11_exchange 0 = .ok (.iload_n 1, 1) := by decide +kernel
theorem dX11_exchange_1 : decode cX11_exchange 1 = .ok (.ifCond .lt 25, 3) := by decide +kernel
theorem dX11_exchange_4 : decode cX11_exchange 4 = .ok (.iload_n 1, 1) := by decide +kernel
theorem dX11_exchange_5 : decode cX11_exchange 5 = .ok (.aload_n 0, 1) := by decide +kernel
theorem dX11_exchange_6 : decode cX11_exchange 6 = .ok (.getfield 9, 3) := by decide +kernel
theorem dX11_exchange_9 : decode cX11_exchange 9 = .ok (.arraylength, 1) := by decide +kernel
theorem dX11_exchange_10 : decode cX11_exchange 10 = .ok (.if_icmp .ge 16, 3) := by decide +kernel
theorem dX11_exchange_13 : decode cX11_exchange 13 = .ok (.iload_n 2, 1) := by decide +kernel
theorem dX11_exchange_14 : decode cX11_exchange 14 = .ok (.ifCond .lt 12, 3) := by decide +kernel
theorem dX11_exchange_17 : decode cX11_exchange 17 = .ok (.iload_n 2, 1) := by decide +kernel
theorem dX11_exchange_18 : decode cX11_exchange 18 = .ok (.aload_n 0, 1) := by decide +kernel
theorem dX11_exchange_19 : decode cX11_exchange 19 = .ok (.getfield 9, 3) := by decide +kernel
theorem dX11_exchange_22 : decode cX11_exchange 22 = .ok (.arraylength, 1) := by decide +kernel
theorem dX11_exchange_23 : decode cX11_exchange 23 = .ok (.if_icmp .lt 4, 3) := by decide +kernel
theorem dX11_exchange_26 : decode cX11_exchange 26 = .ok (.return_, 1) := by decide +kernel
theorem dX11_exchange_27 : decode cX11_exchange 27 = .ok (.aload_n 0, 1) := by decide +kernel
theorem dX11_exchange_28 : decode cX11_exchange 28 = .ok (.getfield 9, 3) := by decide +kernel
theorem dX11_exchange_31 : decode cX11_exchange 31 = .ok (.iload_n 1, 1) := by decide +kernel
theorem dX11_exchange_32 : decode cX11_exchange 32 = .ok (.iaload, 1) := by decide +kernel
theorem dX11_exchange_33 : decode cX11_exchange 33 = .ok (.istore_n 3, 1) := by decide +kernel
theorem dX11_exchange_34 : decode cX11_exchange 34 = .ok (.aload_n 0, 1) := by decide +kernel
theorem dX11_exchange_35 : decode cX11_exchange 35 = .ok (.getfield 9, 3) := by decide +kernel
theorem dX11_exchange_38 : decode cX11_exchange 38 = .ok (.iload_n 1, 1) := by decide +kernel
theorem dX11_exchange_39 : decode cX11_exchange 39 = .ok (.aload_n 0, 1) := by decide +kernel
theorem dX11_exchange_40 : decode cX11_exchange 40 = .ok (.getfield 9, 3) := by decide +kernel
theorem dX11_exchange_43 : decode cX11_exchange 43 = .ok (.iload_n 2, 1) := by decide +kernel
theorem dX11_exchange_44 : decode cX11_exchange 44 = .ok (.iaload, 1) := by decide +kernel
theorem dX11_exchange_45 : decode cX11_exchange 45 = .ok (.iastore, 1) := by decide +kernel
theorem dX11_exchange_46 : decode cX11_exchange 46 = .ok (.aload_n 0, 1) := by decide +kernel
theorem dX11_exchange_47 : decode cX11_exchange 47 = .ok (.getfield 9, 3) := by decide +kernel
theorem dX11_exchange_50 : decode cX11_exchange 50 = .ok (.iload_n 2, 1) := by decide +kernel
theorem dX11_exchange_51 : decode cX11_exchange 51 = .ok (.iload_n 3, 1) := by decide +kernel
theorem dX11_exchange_52 : decode cX11_exchange 52 = .ok (.iastore, 1) := by decide +kernel
theorem dX11_exchange_53 : decode cX11_exchange 53 = .ok (.return_, 1) := by decide +kernel
theorem dX11_sortItems_0 : decode cX11_sortItems 0 = .ok (.iconst 1, 1) := by decide +kernel
theorem dX11_sortItems_1 : decode cX11_sortItems 1 = .ok (.istore_n 1, 1) := by decide +kernel
theorem dX11_sortItems_2 : decode cX11_sortItems 2 = .ok (.iload_n 1, 1) := by decide +kernel
theorem dX11_sortItems_3 : decode cX11_sortItems 3 = .ok (.aload_n 0, 1) := by decide +kernel
theorem dX11_sortItems_4 : decode cX11_sortItems 4 = .ok (.getfield 19, 3) := by decide +kernel
theorem dX11_sortItems_7 : decode cX11_sortItems 7 = .ok (.if_icmp .ge 44, 3) := by decide +kernel
theorem dX11_sortItems_10 : decode cX11_sortItems 10 = .ok (.iload_n 1, 1) := by decide +kernel
theorem dX11_sortItems_11 : decode cX11_sortItems 11 = .ok (.istore_n 2, 1) := by decide +kernel
theorem dX11_sortItems_12 : decode cX11_sortItems 12 = .ok (.iload_n 2, 1) := by decide +kernel
theorem dX11_sortItems_13 : decode cX11_sortItems 13 = .ok (.ifCond .le 32, 3) := by decide +kernel
theorem dX11_sortItems_16 : decode cX11_sortItems 16 = .ok (.aload_n 0, 1) := by decide +kernel
theorem dX11_sortItems_17 : decode cX11_sortItems 17 = .ok (.iload_n 2, 1) := by decide +kernel
theorem dX11_sortItems_18 : decode cX11_sortItems 18 = .ok (.invokevirtual 96, 3) := by decide +kernel
theorem dX11_sortItems_21 : decode cX11_sortItems 21 = .ok (.aload_n 0, 1) := by decide +kernel
theorem dX11_sortItems_22 : decode cX11_sortItems 22 = .ok (.iload_n 2, 1) := by decide +kernel
theorem dX11_sortItems_23 : decode cX11_sortItems 23 = .ok (.iconst 1, 1) := by decide +kernel
theorem dX11_sortItems_24 : decode cX11_sortItems 24 = .ok (.isub, 1) := by decide +kernel
theorem dX11_sortItems_25 : decode cX11_sortItems 25 = .ok (.invokevirtual 96, 3) := by decide +kernel
theorem dX11_sortItems_28 : decode cX11_sortItems 28 = .ok (.if_icmp .ge 17, 3) := by decide +kernel
theorem dX11_sortItems_31 : decode cX11_sortItems 31 = .ok (.aload_n 0, 1) := by decide +kernel
theorem dX11_sortItems_32 : decode cX11_sortItems 32 = .ok (.iload_n 2, 1) := by decide +kernel
theorem dX11_sortItems_33 : decode cX11_sortItems 33 = .ok (.iload_n 2, 1) := by decide +kernel
theorem dX11_sortItems_34 : decode cX11_sortItems 34 = .ok (.iconst 1, 1) := by decide +kernel
theorem dX11_sortItems_35 : decode cX11_sortItems 35 = .ok (.isub, 1) := by decide +kernel
theorem dX11_sortItems_36 : decode cX11_sortItems 36 = .ok (.invokevirtual 191, 3) := by decide +kernel
theorem dX11_sortItems_39 : decode cX11_sortItems 39 = .ok (.iinc 2 (-1), 3) := by decide +kernel
theorem dX11_sortItems_42 : decode cX11_sortItems 42 = .ok (.goto (-30), 3) := by decide +kernel
theorem dX11_sortItems_45 : decode cX11_sortItems 45 = .ok (.iinc 1 1, 3) := by decide +kernel
theorem dX11_sortItems_48 : decode cX11_sortItems 48 = .ok (.goto (-46), 3) := by decide +kernel
theorem dX11_sortItems_51 : decode cX11_sortItems 51 = .ok (.return_, 1) := by decide +kernel
theorem dX12_init_0 : decode cX12_init 0 = .ok (.aload_n 0, 1) := by decide +kernel
theorem dX12_init_1 : decode cX12_init 1 = .ok (.invokespecial 5, 3) := by decide +kernel
theorem dX12_init_4 : decode cX12_init 4 = .ok (.aload_n 0, 1) := by decide +kernel
theorem dX12_init_5 : decode cX12_init 5 = .ok (.bipush 9, 2) := by decide +kernel
theorem dX12_init_7 : decode cX12_init 7 = .ok (.anewarray 11, 3) := by decide +kernel
theorem dX12_init_10 : decode cX12_init 10 = .ok (.putfield 13, 3) := by decide +kernel
theorem dX12_init_13 : decode cX12_init 13 = .ok (.aload_n 0, 1) := by decide +kernel
theorem dX12_init_14 : decode cX12_init 14 = .ok (.bipush 48, 2) := by decide +kernel
theorem dX12_init_16 : decode cX12_init 16 = .ok (.anewarray 17, 3) := by decide +kernel
theorem dX12_init_19 : decode cX12_init 19 = .ok (.putfield 19, 3) := by decide +kernel
theorem dX12_init_22 : decode cX12_init 22 = .ok (.aload_n 0, 1) := by decide +kernel
theorem dX12_init_23 : decode cX12_init 23 = .ok (.new 17, 3) := by decide +kernel
theorem dX12_init_26 : decode cX12_init 26 = .ok (.dup, 1) := by decide +kernel
theorem dX12_init_27 : decode cX12_init 27 = .ok (.invokespecial 23, 3) := by decide +kernel
theorem dX12_init_30 : decode cX12_init 30 = .ok (.putfield 24, 3) := by decide +kernel
theorem dX12_init_33 : decode cX12_init 33 = .ok (.aload_n 0, 1) := by decide +kernel
theorem dX12_init_34 : decode cX12_init 34 = .ok (.new 17, 3) := by decide +kernel
theorem dX12_init_37 : decode cX12_init 37 = .ok (.dup, 1) := by decide +kernel
theorem dX12_init_38 : decode cX12_init 38 = .ok (.invokespecial 23, 3) := by decide +kernel
theorem dX12_init_41 : decode cX12_init 41 = .ok (.putfield 28, 3) := by decide +kernel
theorem dX12_init_44 : decode cX12_init 44 = .ok (.aload_n 0, 1) := by decide +kernel
theorem dX12_init_45 : decode cX12_init 45 = .ok (.new 31, 3) := by decide +kernel
theorem dX12_init_48 : decode cX12_init 48 = .ok (.dup, 1) := by decide +kernel
theorem dX12_init_49 : decode cX12_init 49 = .ok (.bipush 53, 2) := by decide +kernel
theorem dX12_init_51 : decode cX12_init 51 = .ok (.invokespecial 33, 3) := by decide +kernel
theorem dX12_init_54 : decode cX12_init 54 = .ok (.putfield 36, 3) := by decide +kernel
theorem dX12_init_57 : decode cX12_init 57 = .ok (.aload_n 0, 1) := by decide +kernel
theorem dX12_init_58 : decode cX12_init 58 = .ok (.new 31, 3) := by decide +kernel
theorem dX12_init_61 : decode cX12_init 61 = .ok (.dup, 1) := by decide +kernel
theorem dX12_init_62 : decode cX12_init 62 = .ok (.sipush 400, 3) := by decide +kernel
theorem dX12_init_65 : decode cX12_init 65 = .ok (.invokespecial 33, 3) := by decide +kernel
theorem dX12_init_68 : decode cX12_init 68 = .ok (.putfield 40, 3) := by decide +kernel
theorem dX12_init_71 : decode cX12_init 71 = .ok (.aload_n 0, 1) := by decide +kernel
theorem dX12_init_72 : decode cX12_init 72 = .ok (.sipush 348, 3) := by decide +kernel
theorem dX12_init_75 : decode cX12_init 75 = .ok (.anewarray 17, 3) := by decide +kernel
theorem dX12_init_78 : decode cX12_init 78 = .ok (.putfield 43, 3) := by decide +kernel
theorem dX12_init_81 : decode cX12_init 81 = .ok (.aload_n 0, 1) := by decide +kernel
theorem dX12_init_82 : decode cX12_init 82 = .ok (.sipush 348, 3) := by decide +kernel
theorem dX12_init_85 : decode cX12_init 85 = .ok (.newarray .int, 2) := by decide +kernel
theorem dX12_init_87 : decode cX12_init 87 = .ok (.putfield 46, 3) := by decide +kernel
theorem dX12_init_90 : decode cX12_init 90 = .ok (.aload_n 0, 1) := by decide +kernel
theorem dX12_init_91 : decode cX12_init 91 = .ok (.aload_n 1, 1) := by decide +kernel
theorem dX12_init_92 : decode cX12_init 92 = .ok (.putfield 50, 3) := by decide +kernel
theorem dX12_init_95 : decode cX12_init 95 = .ok (.aload_n 0, 1) := by decide +kernel
theorem dX12_init_96 : decode cX12_init 96 = .ok (.aload_n 2, 1) := by decide +kernel
theorem dX12_init_97 : decode cX12_init 97 = .ok (.putfield 54, 3) := by decide +kernel
theorem dX12_init_100 : decode cX12_init 100 = .ok (.iconst 0, 1) := by decide +kernel
theorem dX12_init_101 : decode cX12_init 101 = .ok (.istore_n 3, 1) := by decide +kernel
theorem dX12_init_102 : decode cX12_init 102 = .ok (.iload_n 3, 1) := by decide +kernel
theorem dX12_init_103 : decode cX12_init 103 = .ok (.aload_n 0, 1) := by decide +kernel
theorem dX12_init_104 : decode cX12_init 104 = .ok (.getfield 13, 3) := by decide +kernel
theorem dX12_init_107 : decode cX12_init 107 = .ok (.arraylength, 1) := by decide +kernel
theorem dX12_init_108 : decode cX12_init 108 = .ok (.if_icmp .ge 22, 3) := by decide +kernel
theorem dX12_init_111 : decode cX12_init 111 = .ok (.aload_n 0, 1) := by decide +kernel
theorem dX12_init_112 : decode cX12_init 112 = .ok (.getfield 13, 3) := by decide +kernel
theorem dX12_init_115 : decode cX12_init 115 = .ok (.iload_n 3, 1) := by decide +kernel
theorem dX12_init_116 : decode cX12_init 116 = .ok (.new 11, 3) := by decide +kernel
theorem dX12_init_119 : decode cX12_init 119 = .ok (.dup, 1) := by decide +kernel
theorem dX12_init_120 : decode cX12_init 120 = .ok (.invokespecial 57, 3) := by decide +kernel
theorem dX12_init_123 : decode cX12_init 123 = .ok (.aastore, 1) := by decide +kernel
theorem dX12_init_124 : decode cX12_init 124 = .ok (.iinc 3 1, 3) := by decide +kernel
theorem dX12_init_127 : decode cX12_init 127 = .ok (.goto (-25), 3) := by decide +kernel
theorem dX12_init_130 : decode cX12_init 130 = .ok (.return_, 1) := by decide +kernel
theorem dX12_begin_0 : decode cX12_begin 0 = .ok (.aload_n 0, 1) := by decide +kernel
theorem dX12_begin_1 : decode cX12_begin 1 = .ok (.getfield 40, 3) := by decide +kernel
theorem dX12_begin_4 : decode cX12_begin 4 = .ok (.invokevirtual 58, 3) := by decide +kernel
theorem dX12_begin_7 : decode cX12_begin 7 = .ok (.aload_n 0, 1) := by decide +kernel
theorem dX12_begin_8 : decode cX12_begin 8 = .ok (.iconst 0, 1) := by decide +kernel
theorem dX12_begin_9 : decode cX12_begin 9 = .ok (.putfield 61, 3) := by decide +kernel
theorem dX12_begin_12 : decode cX12_begin 12 = .ok (.aload_n 0, 1) := by decide +kernel
theorem dX12_begin_13 : decode cX12_begin 13 = .ok (.iconst 0, 1) := by decide +kernel
theorem dX12_begin_14 : decode cX12_begin 14 = .ok (.putfield 65, 3) := by decide +kernel
theorem dX12_begin_17 : decode cX12_begin 17 = .ok (.aload_n 0, 1) := by decide +kernel
theorem dX12_begin_18 : decode cX12_begin 18 = .ok (.iload_n 1, 1) := by decide +kernel
theorem dX12_begin_19 : decode cX12_begin 19 = .ok (.putfield 68, 3) := by decide +kernel
theorem dX12_begin_22 : decode cX12_begin 22 = .ok (.aload_n 0, 1) := by decide +kernel
theorem dX12_begin_23 : decode cX12_begin 23 = .ok (.iconst 0, 1) := by decide +kernel
theorem dX12_begin_24 : decode cX12_begin 24 = .ok (.putfield 71, 3) := by decide +kernel
theorem dX12_begin_27 : decode cX12_begin 27 = .ok (.aload_n 0, 1) := by decide +kernel
theorem dX12_begin_28 : decode cX12_begin 28 = .ok (.iconst (-1), 1) := by decide +kernel
theorem dX12_begin_29 : decode cX12_begin 29 = .ok (.putfield 74, 3) := by decide +kernel
theorem dX12_begin_32 : decode cX12_begin 32 = .ok (.aload_n 0, 1) := by decide +kernel
theorem dX12_begin_33 : decode cX12_begin 33 = .ok (.iload_n 2, 1) := by decide +kernel
theorem dX12_begin_34 : decode cX12_begin 34 = .ok (.putfield 77, 3) := by decide +kernel
theorem dX12_begin_37 : decode cX12_begin 37 = .ok (.aload_n 0, 1) := by decide +kernel
theorem dX12_begin_38 : decode cX12_begin 38 = .ok (.iconst 0, 1) := by decide +kernel
theorem dX12_begin_39 : decode cX12_begin 39 = .ok (.putfield 81, 3) := by decide +kernel
theorem dX12_begin_42 : decode cX12_begin 42 = .ok (.return_, 1) := by decide +kernel
theorem dX12_fail_0 : decode cX12_fail 0 = .ok (.aload_n 0, 1) := by decide +kernel
theorem dX12_fail_1 : decode cX12_fail 1 = .ok (.getfield 81, 3) := by decide +kernel
theorem dX12_fail_4 : decode cX12_fail 4 = .ok (.ifCond .eq 4, 3) := by decide +kernel
theorem dX12_fail_7 : decode cX12_fail 7 = .ok (.return_, 1) := by decide +kernel
theorem dX12_fail_8 : decode cX12_fail 8 = .ok (.aload_n 0, 1) := by decide +kernel
theorem dX12_fail_9 : decode cX12_fail 9 = .ok (.iconst 1, 1) := by decide +kernel
theorem dX12_fail_10 : decode cX12_fail 10 = .ok (.putfield 81, 3) := by decide +kernel
theorem dX12_fail_13 : decode cX12_fail 13 = .ok (.aload_n 0, 1) := by decide +kernel
theorem dX12_fail_14 : decode cX12_fail 14 = .ok (.getfield 54, 3) := by decide +kernel
theorem dX12_fail_17 : decode cX12_fail 17 = .ok (.invokevirtual 58, 3) := by decide +kernel
theorem dX12_fail_20 : decode cX12_fail 20 = .ok (.iconst 0, 1) := by decide +kernel
theorem dX12_fail_21 : decode cX12_fail 21 = .ok (.istore_n 3, 1) := by decide +kernel
theorem dX12_fail_22 : decode cX12_fail 22 = .ok (.iload_n 3, 1) := by decide +kernel
theorem dX12_fail_23 : decode cX12_fail 23 = .ok (.aload_n 0, 1) := by decide +kernel
theorem dX12_fail_24 : decode cX12_fail 24 = .ok (.getfield 61, 3) := by decide +kernel
theorem dX12_fail_27 : decode cX12_fail 27 = .ok (.if_icmp .ge 70, 3) := by decide +kernel
theorem dX12_fail_30 : decode cX12_fail 30 = .ok (.iload_n 3, 1) := by decide +kernel
theorem dX12_fail_31 : decode cX12_fail 31 = .ok (.aload_n 0, 1) := by decide +kernel
theorem dX12_fail_32 : decode cX12_fail 32 = .ok (.getfield 13, 3) := by decide +kernel
theorem dX12_fail_35 : decode cX12_fail 35 = .ok (.arraylength, 1) := by decide +kernel
theorem dX12_fail_36 : decode cX12_fail 36 = .ok (.if_icmp .ge 61, 3) := by decide +kernel
theorem dX12_fail_39 : decode cX12_fail 39 = .ok (.iload_n 3, 1) := by decide +kernel
theorem dX12_fail_40 : decode cX12_fail 40 = .ok (.aload_n 0, 1) := by decide +kernel
theorem dX12_fail_41 : decode cX12_fail 41 = .ok (.getfield 61, 3) := by decide +kernel
theorem dX12_fail_44 : decode cX12_fail 44 = .ok (.iconst 1, 1) := by decide +kernel
theorem dX12_fail_45 : decode cX12_fail 45 = .ok (.isub, 1) := by decide +kernel
theorem dX12_fail_46 : decode cX12_fail 46 = .ok (.if_icmp .ge 30, 3) := by decide +kernel
theorem dX12_fail_49 : decode cX12_fail 49 = .ok (.aload_n 0, 1) := by decide +kernel
theorem dX12_fail_50 : decode cX12_fail 50 = .ok (.getfield 13, 3) := by decide +kernel
theorem dX12_fail_53 : decode cX12_fail 53 = .ok (.iload_n 3, 1) := by decide +kernel
theorem dX12_fail_54 : decode cX12_fail 54 = .ok (.aaload, 1) := by decide +kernel
theorem dX12_fail_55 : decode cX12_fail 55 = .ok (.aload_n 0, 1) := by decide +kernel
theorem dX12_fail_56 : decode cX12_fail 56 = .ok (.getfield 54, 3) := by decide +kernel
theorem dX12_fail_59 : decode cX12_fail 59 = .ok (.aload_n 0, 1) := by decide +kernel
theorem dX12_fail_60 : decode cX12_fail 60 = .ok (.getfield 13, 3) := by decide +kernel
theorem dX12_fail_63 : decode cX12_fail 63 = .ok (.iload_n 3, 1) := by decide +kernel
theorem dX12_fail_64 : decode cX12_fail 64 = .ok (.aaload, 1) := by decide +kernel
theorem dX12_fail_65 : decode cX12_fail 65 = .ok (.getfield 84, 3) := by decide +kernel
theorem dX12_fail_68 : decode cX12_fail 68 = .ok (.bipush 10, 2) := by decide +kernel
theorem dX12_fail_70 : decode cX12_fail 70 = .ok (.invokevirtual 87, 3) := by decide +kernel
theorem dX12_fail_73 : decode cX12_fail 73 = .ok (.goto 18, 3) := by decide +kernel
theorem dX12_fail_76 : decode cX12_fail 76 = .ok (.aload_n 0, 1) := by decide +kernel
theorem dX12_fail_77 : decode cX12_fail 77 = .ok (.getfield 13, 3) := by decide +kernel
theorem dX12_fail_80 : decode cX12_fail 80 = .ok (.iload_n 3, 1) := by decide +kernel
theorem dX12_fail_81 : decode cX12_fail 81 = .ok (.aaload, 1) := by decide +kernel
theorem dX12_fail_82 : decode cX12_fail 82 = .ok (.aload_n 0, 1) := by decide +kernel
theorem dX12_fail_83 : decode cX12_fail 83 = .ok (.getfield 54, 3) := by decide +kernel
theorem dX12_fail_86 : decode cX12_fail 86 = .ok (.iload_n 1, 1) := by decide +kernel
theorem dX12_fail_87 : decode cX12_fail 87 = .ok (.iload_n 2, 1) := by decide +kernel
theorem dX12_fail_88 : decode cX12_fail 88 = .ok (.invokevirtual 87, 3) := by decide +kernel
theorem dX12_fail_91 : decode cX12_fail 91 = .ok (.iinc 3 1, 3) := by decide +kernel
theorem dX12_fail_94 : decode cX12_fail 94 = .ok (.goto (-72), 3) := by decide +kernel
theorem dX12_fail_97 : decode cX12_fail 97 = .ok (.return_, 1) := by decide +kernel
theorem dX12_walkTemplate_0 : decode cX12_walkTemplate 0 = .ok (.aload_n 0, 1) := by decide +kernel
theorem dX12_walkTemplate_1 : decode cX12_walkTemplate 1 = .ok (.getfield 61, 3) := by decide +kernel
theorem dX12_walkTemplate_4 : decode cX12_walkTemplate 4 = .ok (.aload_n 0, 1) := by decide +kernel
theorem dX12_walkTemplate_5 : decode cX12_walkTemplate 5 = .ok (.getfield 13, 3) := by decide +kernel
theorem dX12_walkTemplate_8 : decode cX12_walkTemplate 8 = .ok (.arraylength, 1) := by decide +kernel
theorem dX12_walkTemplate_9 : decode cX12_walkTemplate 9 = .ok (.invokestatic 91, 3) := by decide +kernel
theorem dX12_walkTemplate_12 : decode cX12_walkTemplate 12 = .ok (.ifCond .ne 11, 3) := by decide +kernel
theorem dX12_walkTemplate_15 : decode cX12_walkTemplate 15 = .ok (.aload_n 0, 1) := by decide +kernel
theorem dX12_walkTemplate_16 : decode cX12_walkTemplate 16 = .ok (.iconst 0, 1) := by decide +kernel
theorem dX12_walkTemplate_17 : decode cX12_walkTemplate 17 = .ok (.bipush 7, 2) := by decide +kernel
theorem dX12_walkTemplate_19 : decode cX12_walkTemplate 19 = .ok (.invokevirtual 95, 3) := by decide +kernel
theorem dX12_walkTemplate_22 : decode cX12_walkTemplate 22 = .ok (.return_, 1) := by decide +kernel
theorem dX12_walkTemplate_23 : decode cX12_walkTemplate 23 = .ok (.aload_n 0, 1) := by decide +kernel
theorem dX12_walkTemplate_24 : decode cX12_walkTemplate 24 = .ok (.getfield 13, 3) := by decide +kernel
theorem dX12_walkTemplate_27 : decode cX12_walkTemplate 27 = .ok (.aload_n 0, 1) := by decide +kernel
theorem dX12_walkTemplate_28 : decode cX12_walkTemplate 28 = .ok (.getfield 61, 3) := by decide +kernel
theorem dX12_walkTemplate_31 : decode cX12_walkTemplate 31 = .ok (.aaload, 1) := by decide +kernel
theorem dX12_walkTemplate_32 : decode cX12_walkTemplate 32 = .ok (.astore_n 3, 1) := by decide +kernel
theorem dX12_walkTemplate_33 : decode cX12_walkTemplate 33 = .ok (.aload_n 0, 1) := by decide +kernel
theorem dX12_walkTemplate_34 : decode cX12_walkTemplate 34 = .ok (.aload_n 0, 1) := by decide +kernel
theorem dX12_walkTemplate_35 : decode cX12_walkTemplate 35 = .ok (.getfield 61, 3) := by decide +kernel
theorem dX12_walkTemplate_38 : decode cX12_walkTemplate 38 = .ok (.iconst 1, 1) := by decide +kernel
theorem dX12_walkTemplate_39 : decode cX12_walkTemplate 39 = .ok (.iadd, 1) := by decide +kernel
theorem dX12_walkTemplate_40 : decode cX12_walkTemplate 40 = .ok (.putfield 61, 3) := by decide +kernel
theorem dX12_walkTemplate_43 : decode cX12_walkTemplate 43 = .ok (.aload_n 0, 1) := by decide +kernel
theorem dX12_walkTemplate_44 : decode cX12_walkTemplate 44 = .ok (.aload_n 3, 1) := by decide +kernel
theorem dX12_walkTemplate_45 : decode cX12_walkTemplate 45 = .ok (.iload_n 1, 1) := by decide +kernel
theorem dX12_walkTemplate_46 : decode cX12_walkTemplate 46 = .ok (.invokevirtual 99, 3) := by decide +kernel
theorem dX12_walkTemplate_49 : decode cX12_walkTemplate 49 = .ok (.astore 4, 2) := by decide +kernel
theorem dX12_walkTemplate_51 : decode cX12_walkTemplate 51 = .ok (.aload 4, 2) := by decide +kernel
theorem dX12_walkTemplate_53 : decode cX12_walkTemplate 53 = .ok (.ifnull 39, 3) := by decide +kernel
theorem dX12_walkTemplate_56 : decode cX12_walkTemplate 56 = .ok (.aload_n 0, 1) := by decide +kernel
theorem dX12_walkTemplate_57 : decode cX12_walkTemplate 57 = .ok (.getfield 68, 3) := by decide +kernel
theorem dX12_walkTemplate_60 : decode cX12_walkTemplate 60 = .ok (.istore 5, 2) := by decide +kernel
theorem dX12_walkTemplate_62 : decode cX12_walkTemplate 62 = .ok (.aload_n 0, 1) := by decide +kernel
theorem dX12_walkTemplate_63 : decode cX12_walkTemplate 63 = .ok (.aload 4, 2) := by decide +kernel
theorem dX12_walkTemplate_65 : decode cX12_walkTemplate 65 = .ok (.getfield 103, 3) := by decide +kernel
theorem dX12_walkTemplate_68 : decode cX12_walkTemplate 68 = .ok (.iload_n 2, 1) := by decide +kernel
theorem dX12_walkTemplate_69 : decode cX12_walkTemplate 69 = .ok (.invokevirtual 109, 3) := by decide +kernel
theorem dX12_walkTemplate_72 : decode cX12_walkTemplate 72 = .ok (.aload_n 3, 1) := by decide +kernel
theorem dX12_walkTemplate_73 : decode cX12_walkTemplate 73 = .ok (.iconst 0, 1) := by decide +kernel
theorem dX12_walkTemplate_74 : decode cX12_walkTemplate 74 = .ok (.putfield 113, 3) := by decide +kernel
theorem dX12_walkTemplate_77 : decode cX12_walkTemplate 77 = .ok (.aload_n 0, 1) := by decide +kernel
theorem dX12_walkTemplate_78 : decode cX12_walkTemplate 78 = .ok (.getfield 68, 3) := by decide +kernel
theorem dX12_walkTemplate_81 : decode cX12_walkTemplate 81 = .ok (.iload 5, 2) := by decide +kernel
theorem dX12_walkTemplate_83 : decode cX12_walkTemplate 83 = .ok (.if_icmp .eq 9, 3) := by decide +kernel
theorem dX12_walkTemplate_86 : decode cX12_walkTemplate 86 = .ok (.aload_n 0, 1) := by decide +kernel
theorem dX12_walkTemplate_87 : decode cX12_walkTemplate 87 = .ok (.iconst 0, 1) := by decide +kernel
theorem dX12_walkTemplate_88 : decode cX12_walkTemplate 88 = .ok (.iconst 3, 1) := by decide +kernel
theorem dX12_walkTemplate_89 : decode cX12_walkTemplate 89 = .ok (.invokevirtual 95, 3) := by decide +kernel
theorem dX12_walkTemplate_92 : decode cX12_walkTemplate 92 = .ok (.aload_n 0, 1) := by decide +kernel
theorem dX12_walkTemplate_93 : decode cX12_walkTemplate 93 = .ok (.aload_n 0, 1) := by decide +kernel
theorem dX12_walkTemplate_94 : decode cX12_walkTemplate 94 = .ok (.getfield 61, 3) := by decide +kernel
theorem dX12_walkTemplate_97 : decode cX12_walkTemplate 97 = .ok (.iconst 1, 1) := by decide +kernel
theorem dX12_walkTemplate_98 : decode cX12_walkTemplate 98 = .ok (.isub, 1) := by decide +kernel
theorem dX12_walkTemplate_99 : decode cX12_walkTemplate 99 = .ok (.putfield 61, 3) := by decide +kernel
theorem dX12_walkTemplate_102 : decode cX12_walkTemplate 102 = .ok (.return_, 1) := by decide +kernel
theorem dX12_lastOf_0 : decode cX12_lastOf 0 = .ok (.iload_n 2, 1) := by decide +kernel
theorem dX12_lastOf_1 : decode cX12_lastOf 1 = .ok (.istore_n 3, 1) := by decide +kernel
theorem dX12_lastOf_2 : decode cX12_lastOf 2 = .ok (.aload_n 1, 1) := by decide +kernel
theorem dX12_lastOf_3 : decode cX12_lastOf 3 = .ok (.invokevirtual 116, 3) := by decide +kernel
theorem dX12_lastOf_6 : decode cX12_lastOf 6 = .ok (.iconst 0, 1) := by decide +kernel
theorem dX12_lastOf_7 : decode cX12_lastOf 7 = .ok (.istore 4, 2) := by decide +kernel
theorem dX12_lastOf_9 : decode cX12_lastOf 9 = .ok (.iload 4, 2) := by decide +kernel
theorem dX12_lastOf_11 : decode cX12_lastOf 11 = .ok (.bipush 6, 2) := by decide +kernel
theorem dX12_lastOf_13 : decode cX12_lastOf 13 = .ok (.if_icmp .ge 54, 3) := by decide +kernel
theorem dX12_lastOf_16 : decode cX12_lastOf 16 = .ok (.aload_n 1, 1) := by decide +kernel
theorem dX12_lastOf_17 : decode cX12_lastOf 17 = .ok (.iload_n 3, 1) := by decide +kernel
theorem dX12_lastOf_18 : decode cX12_lastOf 18 = .ok (.invokevirtual 119, 3) := by decide +kernel
theorem dX12_lastOf_21 : decode cX12_lastOf 21 = .ok (.aload_n 0, 1) := by decide +kernel
theorem dX12_lastOf_22 : decode cX12_lastOf 22 = .ok (.getfield 50, 3) := by decide +kernel
theorem dX12_lastOf_25 : decode cX12_lastOf 25 = .ok (.iload_n 3, 1) := by decide +kernel
