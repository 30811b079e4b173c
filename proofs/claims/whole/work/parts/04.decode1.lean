theorem d_C_init_0 : decode b_C_init 0 = .ok (.aload_n 0, 1) := by decide +kernel
theorem d_C_init_1 : decode b_C_init 1 = .ok (.invokespecial 1, 3) := by decide +kernel
theorem d_C_init_4 : decode b_C_init 4 = .ok (.aload_n 0, 1) := by decide +kernel
theorem d_C_init_5 : decode b_C_init 5 = .ok (.bipush 16, 2) := by decide +kernel
theorem d_C_init_7 : decode b_C_init 7 = .ok (.anewarray 9, 3) := by decide +kernel
theorem d_C_init_10 : decode b_C_init 10 = .ok (.putfield 11, 3) := by decide +kernel
theorem d_C_init_13 : decode b_C_init 13 = .ok (.aload_n 0, 1) := by decide +kernel
theorem d_C_init_14 : decode b_C_init 14 = .ok (.new 15, 3) := by decide +kernel
theorem d_C_init_17 : decode b_C_init 17 = .ok (.dup, 1) := by decide +kernel
theorem d_C_init_18 : decode b_C_init 18 = .ok (.invokespecial 17, 3) := by decide +kernel
theorem d_C_init_21 : decode b_C_init 21 = .ok (.putfield 18, 3) := by decide +kernel
theorem d_C_init_24 : decode b_C_init 24 = .ok (.aload_n 0, 1) := by decide +kernel
theorem d_C_init_25 : decode b_C_init 25 = .ok (.bipush 16, 2) := by decide +kernel
theorem d_C_init_27 : decode b_C_init 27 = .ok (.anewarray 22, 3) := by decide +kernel
theorem d_C_init_30 : decode b_C_init 30 = .ok (.putfield 24, 3) := by decide +kernel
theorem d_C_init_33 : decode b_C_init 33 = .ok (.aload_n 0, 1) := by decide +kernel
theorem d_C_init_34 : decode b_C_init 34 = .ok (.bipush 16, 2) := by decide +kernel
theorem d_C_init_36 : decode b_C_init 36 = .ok (.newarray .int, 2) := by decide +kernel
theorem d_C_init_38 : decode b_C_init 38 = .ok (.putfield 28, 3) := by decide +kernel
theorem d_C_init_41 : decode b_C_init 41 = .ok (.aload_n 0, 1) := by decide +kernel
theorem d_C_init_42 : decode b_C_init 42 = .ok (.new 32, 3) := by decide +kernel
theorem d_C_init_45 : decode b_C_init 45 = .ok (.dup, 1) := by decide +kernel
theorem d_C_init_46 : decode b_C_init 46 = .ok (.new 9, 3) := by decide +kernel
theorem d_C_init_49 : decode b_C_init 49 = .ok (.dup, 1) := by decide +kernel
theorem d_C_init_50 : decode b_C_init 50 = .ok (.iconst (-1), 1) := by decide +kernel
theorem d_C_init_51 : decode b_C_init 51 = .ok (.iconst 0, 1) := by decide +kernel
theorem d_C_init_52 : decode b_C_init 52 = .ok (.invokespecial 34, 3) := by decide +kernel
theorem d_C_init_55 : decode b_C_init 55 = .ok (.bipush 16, 2) := by decide +kernel
theorem d_C_init_57 : decode b_C_init 57 = .ok (.newarray .int, 2) := by decide +kernel
theorem d_C_init_59 : decode b_C_init 59 = .ok (.iconst 0, 1) := by decide +kernel
theorem d_C_init_60 : decode b_C_init 60 = .ok (.invokespecial 37, 3) := by decide +kernel
theorem d_C_init_63 : decode b_C_init 63 = .ok (.putfield 40, 3) := by decide +kernel
theorem d_C_init_66 : decode b_C_init 66 = .ok (.aload_n 0, 1) := by decide +kernel
theorem d_C_init_67 : decode b_C_init 67 = .ok (.iconst 0, 1) := by decide +kernel
theorem d_C_init_68 : decode b_C_init 68 = .ok (.putfield 44, 3) := by decide +kernel
theorem d_C_init_71 : decode b_C_init 71 = .ok (.aload_n 0, 1) := by decide +kernel
theorem d_C_init_72 : decode b_C_init 72 = .ok (.iconst 0, 1) := by decide +kernel
theorem d_C_init_73 : decode b_C_init 73 = .ok (.putfield 48, 3) := by decide +kernel
theorem d_C_init_76 : decode b_C_init 76 = .ok (.aload_n 0, 1) := by decide +kernel
theorem d_C_init_77 : decode b_C_init 77 = .ok (.iconst 0, 1) := by decide +kernel
theorem d_C_init_78 : decode b_C_init 78 = .ok (.putfield 51, 3) := by decide +kernel
theorem d_C_init_81 : decode b_C_init 81 = .ok (.return_, 1) := by decide +kernel
theorem d_AL_init_0 : decode b_AL_init 0 = .ok (.aload_n 0, 1) := by decide +kernel
theorem d_AL_init_1 : decode b_AL_init 1 = .ok (.invokespecial 1, 3) := by decide +kernel
theorem d_AL_init_4 : decode b_AL_init 4 = .ok (.aload_n 0, 1) := by decide +kernel
theorem d_AL_init_5 : decode b_AL_init 5 = .ok (.getstatic 39, 3) := by decide +kernel
theorem d_AL_init_8 : decode b_AL_init 8 = .ok (.putfield 9, 3) := by decide +kernel
theorem d_AL_init_11 : decode b_AL_init 11 = .ok (.return_, 1) := by decide +kernel
theorem d_AB_init_0 : decode b_AB_init 0 = .ok (.aload_n 0, 1) := by decide +kernel
theorem d_AB_init_1 : decode b_AB_init 1 = .ok (.invokespecial 1, 3) := by decide +kernel
theorem d_AB_init_4 : decode b_AB_init 4 = .ok (.aload_n 0, 1) := by decide +kernel
theorem d_AB_init_5 : decode b_AB_init 5 = .ok (.iconst 0, 1) := by decide +kernel
theorem d_AB_init_6 : decode b_AB_init 6 = .ok (.putfield 7, 3) := by decide +kernel
theorem d_AB_init_9 : decode b_AB_init 9 = .ok (.return_, 1) := by decide +kernel
theorem d_AC_init_0 : decode b_AC_init 0 = .ok (.aload_n 0, 1) := by decide +kernel
theorem d_AC_init_1 : decode b_AC_init 1 = .ok (.invokespecial 1, 3) := by decide +kernel
theorem d_AC_init_4 : decode b_AC_init 4 = .ok (.return_, 1) := by decide +kernel
theorem d_A_init_0 : decode b_A_init 0 = .ok (.aload_n 0, 1) := by decide +kernel
theorem d_A_init_1 : decode b_A_init 1 = .ok (.invokespecial 1, 3) := by decide +kernel
theorem d_A_init_4 : decode b_A_init 4 = .ok (.aload_n 0, 1) := by decide +kernel
theorem d_A_init_5 : decode b_A_init 5 = .ok (.iload_n 1, 1) := by decide +kernel
theorem d_A_init_6 : decode b_A_init 6 = .ok (.putfield 7, 3) := by decide +kernel
theorem d_A_init_9 : decode b_A_init 9 = .ok (.aload_n 0, 1) := by decide +kernel
theorem d_A_init_10 : decode b_A_init 10 = .ok (.iload_n 2, 1) := by decide +kernel
theorem d_A_init_11 : decode b_A_init 11 = .ok (.putfield 13, 3) := by decide +kernel
theorem d_A_init_14 : decode b_A_init 14 = .ok (.aload_n 0, 1) := by decide +kernel
theorem d_A_init_15 : decode b_A_init 15 = .ok (.new 16, 3) := by decide +kernel
theorem d_A_init_18 : decode b_A_init 18 = .ok (.dup, 1) := by decide +kernel
theorem d_A_init_19 : decode b_A_init 19 = .ok (.invokespecial 18, 3) := by decide +kernel
theorem d_A_init_22 : decode b_A_init 22 = .ok (.putfield 19, 3) := by decide +kernel
theorem d_A_init_25 : decode b_A_init 25 = .ok (.return_, 1) := by decide +kernel
theorem d_N_init_0 : decode b_N_init 0 = .ok (.aload_n 0, 1) := by decide +kernel
theorem d_N_init_1 : decode b_N_init 1 = .ok (.aload_n 1, 1) := by decide +kernel
theorem d_N_init_2 : decode b_N_init 2 = .ok (.aload_n 2, 1) := by decide +kernel
theorem d_N_init_3 : decode b_N_init 3 = .ok (.invokespecial 3, 3) := by decide +kernel
theorem d_N_init_6 : decode b_N_init 6 = .ok (.aload_n 0, 1) := by decide +kernel
theorem d_N_init_7 : decode b_N_init 7 = .ok (.iload_n 3, 1) := by decide +kernel
theorem d_N_init_8 : decode b_N_init 8 = .ok (.putfield 9, 3) := by decide +kernel
theorem d_N_init_11 : decode b_N_init 11 = .ok (.aload_n 0, 1) := by decide +kernel
theorem d_N_init_12 : decode b_N_init 12 = .ok (.ldc 15, 2) := by decide +kernel
theorem d_N_init_14 : decode b_N_init 14 = .ok (.putfield 16, 3) := by decide +kernel
theorem d_N_init_17 : decode b_N_init 17 = .ok (.return_, 1) := by decide +kernel
theorem d_E_init_0 : decode b_E_init 0 = .ok (.aload_n 0, 1) := by decide +kernel
theorem d_E_init_1 : decode b_E_init 1 = .ok (.invokespecial 3, 3) := by decide +kernel
theorem d_E_init_4 : decode b_E_init 4 = .ok (.aload_n 0, 1) := by decide +kernel
theorem d_E_init_5 : decode b_E_init 5 = .ok (.aload_n 1, 1) := by decide +kernel
theorem d_E_init_6 : decode b_E_init 6 = .ok (.putfield 9, 3) := by decide +kernel
theorem d_E_init_9 : decode b_E_init 9 = .ok (.aload_n 0, 1) := by decide +kernel
theorem d_E_init_10 : decode b_E_init 10 = .ok (.aload_n 1, 1) := by decide +kernel
theorem d_E_init_11 : decode b_E_init 11 = .ok (.getfield 15, 3) := by decide +kernel
theorem d_E_init_14 : decode b_E_init 14 = .ok (.invokevirtual 21, 3) := by decide +kernel
theorem d_E_init_17 : decode b_E_init 17 = .ok (.putfield 27, 3) := by decide +kernel
theorem d_E_init_20 : decode b_E_init 20 = .ok (.aload_n 0, 1) := by decide +kernel
theorem d_E_init_21 : decode b_E_init 21 = .ok (.aload_n 2, 1) := by decide +kernel
theorem d_E_init_22 : decode b_E_init 22 = .ok (.putfield 31, 3) := by decide +kernel
theorem d_E_init_25 : decode b_E_init 25 = .ok (.return_, 1) := by decide +kernel
theorem d_AL_size_0 : decode b_AL_size 0 = .ok (.aload_n 0, 1) := by decide +kernel
theorem d_AL_size_1 : decode b_AL_size 1 = .ok (.getfield 48, 3) := by decide +kernel
theorem d_AL_size_4 : decode b_AL_size 4 = .ok (.ireturn, 1) := by decide +kernel
theorem d_C_heads_0 : decode b_C_heads 0 = .ok (.aload_n 0, 1) := by decide +kernel
theorem d_C_heads_1 : decode b_C_heads 1 = .ok (.iconst 0, 1) := by decide +kernel
theorem d_C_heads_2 : decode b_C_heads 2 = .ok (.putfield 48, 3) := by decide +kernel
theorem d_C_heads_5 : decode b_C_heads 5 = .ok (.iconst 0, 1) := by decide +kernel
theorem d_C_heads_6 : decode b_C_heads 6 = .ok (.istore_n 1, 1) := by decide +kernel
theorem d_C_heads_7 : decode b_C_heads 7 = .ok (.iload_n 1, 1) := by decide +kernel
theorem d_C_heads_8 : decode b_C_heads 8 = .ok (.aload_n 0, 1) := by decide +kernel
theorem d_C_heads_9 : decode b_C_heads 9 = .ok (.getfield 44, 3) := by decide +kernel
theorem d_C_heads_12 : decode b_C_heads 12 = .ok (.if_icmp .ge 36, 3) := by decide +kernel
theorem d_C_heads_15 : decode b_C_heads 15 = .ok (.aload_n 0, 1) := by decide +kernel
theorem d_C_heads_16 : decode b_C_heads 16 = .ok (.getfield 11, 3) := by decide +kernel
theorem d_C_heads_19 : decode b_C_heads 19 = .ok (.iload_n 1, 1) := by decide +kernel
theorem d_C_heads_20 : decode b_C_heads 20 = .ok (.aaload, 1) := by decide +kernel
theorem d_C_heads_21 : decode b_C_heads 21 = .ok (.invokevirtual 75, 3) := by decide +kernel
theorem d_C_heads_24 : decode b_C_heads 24 = .ok (.astore_n 2, 1) := by decide +kernel
theorem d_C_heads_25 : decode b_C_heads 25 = .ok (.aload_n 2, 1) := by decide +kernel
theorem d_C_heads_26 : decode b_C_heads 26 = .ok (.ifnull 16, 3) := by decide +kernel
theorem d_C_heads_29 : decode b_C_heads 29 = .ok (.aload_n 0, 1) := by decide +kernel
theorem d_C_heads_30 : decode b_C_heads 30 = .ok (.aload_n 2, 1) := by decide +kernel
theorem d_C_heads_31 : decode b_C_heads 31 = .ok (.invokevirtual 79, 3) := by decide +kernel
theorem d_C_heads_34 : decode b_C_heads 34 = .ok (.ifCond .ne 8, 3) := by decide +kernel
theorem d_C_heads_37 : decode b_C_heads 37 = .ok (.aload_n 0, 1) := by decide +kernel
theorem d_C_heads_38 : decode b_C_heads 38 = .ok (.aload_n 2, 1) := by decide +kernel
theorem d_C_heads_39 : decode b_C_heads 39 = .ok (.invokevirtual 71, 3) := by decide +kernel
theorem d_C_heads_42 : decode b_C_heads 42 = .ok (.iinc 1 1, 3) := by decide +kernel
theorem d_C_heads_45 : decode b_C_heads 45 = .ok (.goto (-38), 3) := by decide +kernel
theorem d_C_heads_48 : decode b_C_heads 48 = .ok (.aload_n 0, 1) := by decide +kernel
theorem d_C_heads_49 : decode b_C_heads 49 = .ok (.getfield 48, 3) := by decide +kernel
theorem d_C_heads_52 : decode b_C_heads 52 = .ok (.ireturn, 1) := by decide +kernel
theorem d_A_latest_0 : decode b_A_latest 0 = .ok (.aload_n 0, 1) := by decide +kernel
theorem d_A_latest_1 : decode b_A_latest 1 = .ok (.getfield 19, 3) := by decide +kernel
theorem d_A_latest_4 : decode b_A_latest 4 = .ok (.invokevirtual 23, 3) := by decide +kernel
theorem d_A_latest_7 : decode b_A_latest 7 = .ok (.ifCond .eq 7, 3) := by decide +kernel
theorem d_A_latest_10 : decode b_A_latest 10 = .ok (.aconst_null, 1) := by decide +kernel
theorem d_A_latest_11 : decode b_A_latest 11 = .ok (.goto 22, 3) := by decide +kernel
theorem d_A_latest_14 : decode b_A_latest 14 = .ok (.aload_n 0, 1) := by decide +kernel
theorem d_A_latest_15 : decode b_A_latest 15 = .ok (.getfield 19, 3) := by decide +kernel
theorem d_A_latest_18 : decode b_A_latest 18 = .ok (.aload_n 0, 1) := by decide +kernel
theorem d_A_latest_19 : decode b_A_latest 19 = .ok (.getfield 19, 3) := by decide +kernel
theorem d_A_latest_22 : decode b_A_latest 22 = .ok (.invokevirtual 27, 3) := by decide +kernel
theorem d_A_latest_25 : decode b_A_latest 25 = .ok (.iconst 1, 1) := by decide +kernel
theorem d_A_latest_26 : decode b_A_latest 26 = .ok (.isub, 1) := by decide +kernel
theorem d_A_latest_27 : decode b_A_latest 27 = .ok (.invokevirtual 31, 3) := by decide +kernel
theorem d_A_latest_30 : decode b_A_latest 30 = .ok (.checkcast 35, 3) := by decide +kernel
theorem d_A_latest_33 : decode b_A_latest 33 = .ok (.areturn, 1) := by decide +kernel
theorem d_AL_isEmpty_0 : decode b_AL_isEmpty 0 = .ok (.aload_n 0, 1) := by decide +kernel
theorem d_AL_isEmpty_1 : decode b_AL_isEmpty 1 = .ok (.getfield 48, 3) := by decide +kernel
theorem d_AL_isEmpty_4 : decode b_AL_isEmpty 4 = .ok (.ifCond .ne 7, 3) := by decide +kernel
theorem d_AL_isEmpty_7 : decode b_AL_isEmpty 7 = .ok (.iconst 1, 1) := by decide +kernel
theorem d_AL_isEmpty_8 : decode b_AL_isEmpty 8 = .ok (.goto 4, 3) := by decide +kernel
theorem d_AL_isEmpty_11 : decode b_AL_isEmpty 11 = .ok (.iconst 0, 1) := by decide +kernel
theorem d_AL_isEmpty_12 : decode b_AL_isEmpty 12 = .ok (.ireturn, 1) := by decide +kernel
theorem d_AL_get_0 : decode b_AL_get 0 = .ok (.iload_n 1, 1) := by decide +kernel
theorem d_AL_get_1 : decode b_AL_get 1 = .ok (.aload_n 0, 1) := by decide +kernel
theorem d_AL_get_2 : decode b_AL_get 2 = .ok (.getfield 48, 3) := by decide +kernel
theorem d_AL_get_5 : decode b_AL_get 5 = .ok (.invokestatic 118, 3) := by decide +kernel
theorem d_AL_get_8 : decode b_AL_get 8 = .ok (.pop, 1) := by decide +kernel
theorem d_AL_get_9 : decode b_AL_get 9 = .ok (.aload_n 0, 1) := by decide +kernel
theorem d_AL_get_10 : decode b_AL_get 10 = .ok (.iload_n 1, 1) := by decide +kernel
theorem d_AL_get_11 : decode b_AL_get 11 = .ok (.invokevirtual 123, 3) := by decide +kernel
theorem d_AL_get_14 : decode b_AL_get 14 = .ok (.areturn, 1) := by decide +kernel
theorem d_OB_checkIndex_0 : decode b_OB_checkIndex 0 = .ok (.iload_n 0, 1) := by decide +kernel
theorem d_OB_checkIndex_1 : decode b_OB_checkIndex 1 = .ok (.iload_n 1, 1) := by decide +kernel
theorem d_OB_checkIndex_2 : decode b_OB_checkIndex 2 = .ok (.aconst_null, 1) := by decide +kernel
theorem d_OB_checkIndex_3 : decode b_OB_checkIndex 3 = .ok (.invokestatic 105, 3) := by decide +kernel
theorem d_OB_checkIndex_6 : decode b_OB_checkIndex 6 = .ok (.ireturn, 1) := by decide +kernel
theorem d_PC_checkIndex_0 : decode b_PC_checkIndex 0 = .ok (.iload_n 0, 1) := by decide +kernel
theorem d_PC_checkIndex_1 : decode b_PC_checkIndex 1 = .ok (.ifCond .lt 8, 3) := by decide +kernel
theorem d_PC_checkIndex_4 : decode b_PC_checkIndex 4 = .ok (.iload_n 0, 1) := by decide +kernel
theorem d_PC_checkIndex_5 : decode b_PC_checkIndex 5 = .ok (.iload_n 1, 1) := by decide +kernel
theorem d_PC_checkIndex_6 : decode b_PC_checkIndex 6 = .ok (.if_icmp .lt 10, 3) := by decide +kernel
theorem d_PC_checkIndex_9 : decode b_PC_checkIndex 9 = .ok (.aload_n 2, 1) := by decide +kernel
theorem d_PC_checkIndex_10 : decode b_PC_checkIndex 10 = .ok (.iload_n 0, 1) := by decide +kernel
theorem d_PC_checkIndex_11 : decode b_PC_checkIndex 11 = .ok (.iload_n 1, 1) := by decide +kernel
theorem d_PC_checkIndex_12 : decode b_PC_checkIndex 12 = .ok (.invokestatic 95, 3) := by decide +kernel
theorem d_PC_checkIndex_15 : decode b_PC_checkIndex 15 = .ok (.athrow, 1) := by decide +kernel
theorem d_PC_checkIndex_16 : decode b_PC_checkIndex 16 = .ok (.iload_n 0, 1) := by decide +kernel
theorem d_PC_checkIndex_17 : decode b_PC_checkIndex 17 = .ok (.ireturn, 1) := by decide +kernel
theorem d_AL_elementData_0 : decode b_AL_elementData 0 = .ok (.aload_n 0, 1) := by decide +kernel
theorem d_AL_elementData_1 : decode b_AL_elementData 1 = .ok (.getfield 9, 3) := by decide +kernel
theorem d_AL_elementData_4 : decode b_AL_elementData 4 = .ok (.iload_n 1, 1) := by decide +kernel
theorem d_AL_elementData_5 : decode b_AL_elementData 5 = .ok (.aaload, 1) := by decide +kernel
theorem d_AL_elementData_6 : decode b_AL_elementData 6 = .ok (.areturn, 1) := by decide +kernel
theorem d_C_hasFollower_0 : decode b_C_hasFollower 0 = .ok (.iconst 0, 1) := by decide +kernel
theorem d_C_hasFollower_1 : decode b_C_hasFollower 1 = .ok (.istore_n 2, 1) := by decide +kernel
theorem d_C_hasFollower_2 : decode b_C_hasFollower 2 = .ok (.iload_n 2, 1) := by decide +kernel
theorem d_C_hasFollower_3 : decode b_C_hasFollower 3 = .ok (.aload_n 0, 1) := by decide +kernel
theorem d_C_hasFollower_4 : decode b_C_hasFollower 4 = .ok (.getfield 44, 3) := by decide +kernel
theorem d_C_hasFollower_7 : decode b_C_hasFollower 7 = .ok (.if_icmp .ge 33, 3) := by decide +kernel
theorem d_C_hasFollower_10 : decode b_C_hasFollower 10 = .ok (.aload_n 0, 1) := by decide +kernel
theorem d_C_hasFollower_11 : decode b_C_hasFollower 11 = .ok (.getfield 11, 3) := by decide +kernel
theorem d_C_hasFollower_14 : decode b_C_hasFollower 14 = .ok (.iload_n 2, 1) := by decide +kernel
theorem d_C_hasFollower_15 : decode b_C_hasFollower 15 = .ok (.aaload, 1) := by decide +kernel
theorem d_C_hasFollower_16 : decode b_C_hasFollower 16 = .ok (.invokevirtual 75, 3) := by decide +kernel
theorem d_C_hasFollower_19 : decode b_C_hasFollower 19 = .ok (.astore_n 3, 1) := by decide +kernel
theorem d_C_hasFollower_20 : decode b_C_hasFollower 20 = .ok (.aload_n 3, 1) := by decide +kernel
theorem d_C_hasFollower_21 : decode b_C_hasFollower 21 = .ok (.ifnull 13, 3) := by decide +kernel
theorem d_C_hasFollower_24 : decode b_C_hasFollower 24 = .ok (.aload_n 3, 1) := by decide +kernel
theorem d_C_hasFollower_25 : decode b_C_hasFollower 25 = .ok (.aload_n 1, 1) := by decide +kernel
theorem d_C_hasFollower_26 : decode b_C_hasFollower 26 = .ok (.invokevirtual 179, 3) := by decide +kernel
theorem d_C_hasFollower_29 : decode b_C_hasFollower 29 = .ok (.ifCond .eq 5, 3) := by decide +kernel
theorem d_C_hasFollower_32 : decode b_C_hasFollower 32 = .ok (.iconst 1, 1) := by decide +kernel
theorem d_C_hasFollower_33 : decode b_C_hasFollower 33 = .ok (.ireturn, 1) := by decide +kernel
theorem d_C_hasFollower_34 : decode b_C_hasFollower 34 = .ok (.iinc 2 1, 3) := by decide +kernel
theorem d_C_hasFollower_37 : decode b_C_hasFollower 37 = .ok (.goto (-35), 3) := by decide +kernel
theorem d_C_hasFollower_40 : decode b_C_hasFollower 40 = .ok (.iconst 0, 1) := by decide +kernel
theorem d_C_hasFollower_41 : decode b_C_hasFollower 41 = .ok (.ireturn, 1) := by decide +kernel
theorem d_E_isAfter_0 : decode b_E_isAfter 0 = .ok (.aload_n 1, 1) := by decide +kernel
theorem d_E_isAfter_1 : decode b_E_isAfter 1 = .ok (.getfield 9, 3) := by decide +kernel
theorem d_E_isAfter_4 : decode b_E_isAfter 4 = .ok (.aload_n 0, 1) := by decide +kernel
theorem d_E_isAfter_5 : decode b_E_isAfter 5 = .ok (.getfield 9, 3) := by decide +kernel
theorem d_E_isAfter_8 : decode b_E_isAfter 8 = .ok (.if_acmp .ne 22, 3) := by decide +kernel
theorem d_E_isAfter_11 : decode b_E_isAfter 11 = .ok (.aload_n 1, 1) := by decide +kernel
theorem d_E_isAfter_12 : decode b_E_isAfter 12 = .ok (.getfield 27, 3) := by decide +kernel
theorem d_E_isAfter_15 : decode b_E_isAfter 15 = .ok (.aload_n 0, 1) := by decide +kernel
theorem d_E_isAfter_16 : decode b_E_isAfter 16 = .ok (.getfield 27, 3) := by decide +kernel
theorem d_E_isAfter_19 : decode b_E_isAfter 19 = .ok (.if_icmp .ge 7, 3) := by decide +kernel
theorem d_E_isAfter_22 : decode b_E_isAfter 22 = .ok (.iconst 1, 1) := by decide +kernel
theorem d_E_isAfter_23 : decode b_E_isAfter 23 = .ok (.goto 15, 3) := by decide +kernel
theorem d_E_isAfter_26 : decode b_E_isAfter 26 = .ok (.iconst 0, 1) := by decide +kernel
theorem d_E_isAfter_27 : decode b_E_isAfter 27 = .ok (.goto 11, 3) := by decide +kernel
theorem d_E_isAfter_30 : decode b_E_isAfter 30 = .ok (.aload_n 1, 1) := by decide +kernel
theorem d_E_isAfter_31 : decode b_E_isAfter 31 = .ok (.aload_n 0, 1) := by decide +kernel
theorem d_E_isAfter_32 : decode b_E_isAfter 32 = .ok (.getfield 31, 3) := by decide +kernel
theorem d_E_isAfter_35 : decode b_E_isAfter 35 = .ok (.invokevirtual 38, 3) := by decide +kernel
theorem d_E_isAfter_38 : decode b_E_isAfter 38 = .ok (.ireturn, 1) := by decide +kernel
theorem d_E_isIn_0 : decode b_E_isIn 0 = .ok (.aload_n 0, 1) := by decide +kernel
theorem d_E_isIn_1 : decode b_E_isIn 1 = .ok (.getfield 27, 3) := by decide +kernel
theorem d_E_isIn_4 : decode b_E_isIn 4 = .ok (.aload_n 1, 1) := by decide +kernel
theorem d_E_isIn_5 : decode b_E_isIn 5 = .ok (.aload_n 0, 1) := by decide +kernel
theorem d_E_isIn_6 : decode b_E_isIn 6 = .ok (.getfield 9, 3) := by decide +kernel
theorem d_E_isIn_9 : decode b_E_isIn 9 = .ok (.getfield 35, 3) := by decide +kernel
theorem d_E_isIn_12 : decode b_E_isIn 12 = .ok (.iaload, 1) := by decide +kernel
theorem d_E_isIn_13 : decode b_E_isIn 13 = .ok (.if_icmp .ge 7, 3) := by decide +kernel
theorem d_E_isIn_16 : decode b_E_isIn 16 = .ok (.iconst 1, 1) := by decide +kernel
theorem d_E_isIn_17 : decode b_E_isIn 17 = .ok (.goto 4, 3) := by decide +kernel
theorem d_E_isIn_20 : decode b_E_isIn 20 = .ok (.iconst 0, 1) := by decide +kernel
theorem d_E_isIn_21 : decode b_E_isIn 21 = .ok (.ireturn, 1) := by decide +kernel
theorem d_C_enlist_0 : decode b_C_enlist 0 = .ok (.aload_n 0, 1) := by decide +kernel
theorem d_C_enlist_1 : decode b_C_enlist 1 = .ok (.getfield 48, 3) := by decide +kernel
theorem d_C_enlist_4 : decode b_C_enlist 4 = .ok (.bipush 16, 2) := by decide +kernel
theorem d_C_enlist_6 : decode b_C_enlist 6 = .ok (.if_icmp .ge 23, 3) := by decide +kernel
theorem d_C_enlist_9 : decode b_C_enlist 9 = .ok (.aload_n 0, 1) := by decide +kernel
theorem d_C_enlist_10 : decode b_C_enlist 10 = .ok (.getfield 24, 3) := by decide +kernel
theorem d_C_enlist_13 : decode b_C_enlist 13 = .ok (.aload_n 0, 1) := by decide +kernel
theorem d_C_enlist_14 : decode b_C_enlist 14 = .ok (.getfield 48, 3) := by decide +kernel
theorem d_C_enlist_17 : decode b_C_enlist 17 = .ok (.aload_n 1, 1) := by decide +kernel
theorem d_C_enlist_18 : decode b_C_enlist 18 = .ok (.aastore, 1) := by decide +kernel
theorem d_C_enlist_19 : decode b_C_enlist 19 = .ok (.aload_n 0, 1) := by decide +kernel
theorem d_C_enlist_20 : decode b_C_enlist 20 = .ok (.dup, 1) := by decide +kernel
theorem d_C_enlist_21 : decode b_C_enlist 21 = .ok (.getfield 48, 3) := by decide +kernel
theorem d_C_enlist_24 : decode b_C_enlist 24 = .ok (.iconst 1, 1) := by decide +kernel
theorem d_C_enlist_25 : decode b_C_enlist 25 = .ok (.iadd, 1) := by decide +kernel
theorem d_C_enlist_26 : decode b_C_enlist 26 = .ok (.putfield 48, 3) := by decide +kernel
theorem d_C_enlist_29 : decode b_C_enlist 29 = .ok (.return_, 1) := by decide +kernel
theorem d_C_length_0 : decode b_C_length 0 = .ok (.aload_n 0, 1) := by decide +kernel
theorem d_C_length_1 : decode b_C_length 1 = .ok (.getfield 51, 3) := by decide +kernel
theorem d_C_length_4 : decode b_C_length 4 = .ok (.ireturn, 1) := by decide +kernel
theorem d_L_parent_0 : decode b_L_parent 0 = .ok (.aload_n 3, 1) := by decide +kernel
theorem d_L_parent_1 : decode b_L_parent 1 = .ok (.iconst 0, 1) := by decide +kernel
theorem d_L_parent_2 : decode b_L_parent 2 = .ok (.aload_n 0, 1) := by decide +kernel
theorem d_L_parent_3 : decode b_L_parent 3 = .ok (.iload_n 1, 1) := by decide +kernel
theorem d_L_parent_4 : decode b_L_parent 4 = .ok (.iload_n 2, 1) := by decide +kernel
theorem d_L_parent_5 : decode b_L_parent 5 = .ok (.invokevirtual 7, 3) := by decide +kernel
theorem d_L_parent_8 : decode b_L_parent 8 = .ok (.i2l, 1) := by decide +kernel
theorem d_L_parent_9 : decode b_L_parent 9 = .ok (.lastore, 1) := by decide +kernel
theorem d_L_parent_10 : decode b_L_parent 10 = .ok (.goto 15, 3) := by decide +kernel
theorem d_L_parent_13 : decode b_L_parent 13 = .ok (.astore 4, 2) := by decide +kernel
theorem d_L_parent_15 : decode b_L_parent 15 = .ok (.iconst 1, 1) := by decide +kernel
theorem d_L_parent_16 : decode b_L_parent 16 = .ok (.ireturn, 1) := by decide +kernel
theorem d_L_parent_17 : decode b_L_parent 17 = .ok (.astore 4, 2) := by decide +kernel
theorem d_L_parent_19 : decode b_L_parent 19 = .ok (.iconst 2, 1) := by decide +kernel
theorem d_L_parent_20 : decode b_L_parent 20 = .ok (.ireturn, 1) := by decide +kernel
theorem d_L_parent_21 : decode b_L_parent 21 = .ok (.astore 4, 2) := by decide +kernel
theorem d_L_parent_23 : decode b_L_parent 23 = .ok (.iconst 3, 1) := by decide +kernel
theorem d_L_parent_24 : decode b_L_parent 24 = .ok (.ireturn, 1) := by decide +kernel
theorem d_L_parent_25 : decode b_L_parent 25 = .ok (.iconst 0, 1) := by decide +kernel
theorem d_L_parent_26 : decode b_L_parent 26 = .ok (.ireturn, 1) := by decide +kernel
theorem d_C_parent_0 : decode b_C_parent 0 = .ok (.aload_n 0, 1) := by decide +kernel
theorem d_C_parent_1 : decode b_C_parent 1 = .ok (.iload_n 1, 1) := by decide +kernel
theorem d_C_parent_2 : decode b_C_parent 2 = .ok (.iload_n 2, 1) := by decide +kernel
theorem d_C_parent_3 : decode b_C_parent 3 = .ok (.invokevirtual 54, 3) := by decide +kernel
theorem d_C_parent_6 : decode b_C_parent 6 = .ok (.astore_n 3, 1) := by decide +kernel
theorem d_C_parent_7 : decode b_C_parent 7 = .ok (.aload_n 3, 1) := by decide +kernel
theorem d_C_parent_8 : decode b_C_parent 8 = .ok (.ifnonnull 11, 3) := by decide +kernel
theorem d_C_parent_11 : decode b_C_parent 11 = .ok (.new 58, 3) := by decide +kernel
theorem d_C_parent_14 : decode b_C_parent 14 = .ok (.dup, 1) := by decide +kernel
theorem d_C_parent_15 : decode b_C_parent 15 = .ok (.invokespecial 60, 3) := by decide +kernel
theorem d_C_parent_18 : decode b_C_parent 18 = .ok (.athrow, 1) := by decide +kernel
theorem d_C_parent_19 : decode b_C_parent 19 = .ok (.aload_n 0, 1) := by decide +kernel
theorem d_C_parent_20 : decode b_C_parent 20 = .ok (.aload_n 3, 1) := by decide +kernel
theorem d_C_parent_21 : decode b_C_parent 21 = .ok (.invokevirtual 61, 3) := by decide +kernel
theorem d_C_parent_24 : decode b_C_parent 24 = .ok (.ifCond .eq 11, 3) := by decide +kernel
theorem d_C_parent_27 : decode b_C_parent 27 = .ok (.new 65, 3) := by decide +kernel
theorem d_C_parent_30 : decode b_C_parent 30 = .ok (.dup, 1) := by decide +kernel
theorem d_C_parent_31 : decode b_C_parent 31 = .ok (.invokespecial 67, 3) := by decide +kernel
theorem d_C_parent_34 : decode b_C_parent 34 = .ok (.athrow, 1) := by decide +kernel
theorem d_C_parent_35 : decode b_C_parent 35 = .ok (.aload_n 0, 1) := by decide +kernel
theorem d_C_parent_36 : decode b_C_parent 36 = .ok (.getfield 48, 3) := by decide +kernel
theorem d_C_parent_39 : decode b_C_parent 39 = .ok (.bipush 16, 2) := by decide +kernel
theorem d_C_parent_41 : decode b_C_parent 41 = .ok (.if_icmp .lt 11, 3) := by decide +kernel
theorem d_C_parent_44 : decode b_C_parent 44 = .ok (.new 68, 3) := by decide +kernel
theorem d_C_parent_47 : decode b_C_parent 47 = .ok (.dup, 1) := by decide +kernel
theorem d_C_parent_48 : decode b_C_parent 48 = .ok (.invokespecial 70, 3) := by decide +kernel
theorem d_C_parent_51 : decode b_C_parent 51 = .ok (.athrow, 1) := by decide +kernel
theorem d_C_parent_52 : decode b_C_parent 52 = .ok (.aload_n 0, 1) := by decide +kernel
theorem d_C_parent_53 : decode b_C_parent 53 = .ok (.aload_n 3, 1) := by decide +kernel
theorem d_C_parent_54 : decode b_C_parent 54 = .ok (.invokevirtual 71, 3) := by decide +kernel
theorem d_C_parent_57 : decode b_C_parent 57 = .ok (.aload_n 0, 1) := by decide +kernel
theorem d_C_parent_58 : decode b_C_parent 58 = .ok (.getfield 48, 3) := by decide +kernel
theorem d_C_parent_61 : decode b_C_parent 61 = .ok (.ireturn, 1) := by decide +kernel
theorem d_C_findEvent_0 : decode b_C_findEvent 0 = .ok (.aload_n 0, 1) := by decide +kernel
theorem d_C_findEvent_1 : decode b_C_findEvent 1 = .ok (.iload_n 1, 1) := by decide +kernel
theorem d_C_findEvent_2 : decode b_C_findEvent 2 = .ok (.invokevirtual 168, 3) := by decide +kernel
theorem d_C_findEvent_5 : decode b_C_findEvent 5 = .ok (.astore_n 3, 1) := by decide +kernel
theorem d_C_findEvent_6 : decode b_C_findEvent 6 = .ok (.aload_n 3, 1) := by decide +kernel
theorem d_C_findEvent_7 : decode b_C_findEvent 7 = .ok (.ifnull 18, 3) := by decide +kernel
theorem d_C_findEvent_10 : decode b_C_findEvent 10 = .ok (.iload_n 2, 1) := by decide +kernel
theorem d_C_findEvent_11 : decode b_C_findEvent 11 = .ok (.ifCond .lt 14, 3) := by decide +kernel
theorem d_C_findEvent_14 : decode b_C_findEvent 14 = .ok (.iload_n 2, 1) := by decide +kernel
theorem d_C_findEvent_15 : decode b_C_findEvent 15 = .ok (.aload_n 3, 1) := by decide +kernel
theorem d_C_findEvent_16 : decode b_C_findEvent 16 = .ok (.getfield 171, 3) := by decide +kernel
theorem d_C_findEvent_19 : decode b_C_findEvent 19 = .ok (.invokevirtual 126, 3) := by decide +kernel
theorem d_C_findEvent_22 : decode b_C_findEvent 22 = .ok (.if_icmp .lt 5, 3) := by decide +kernel
theorem d_C_findEvent_25 : decode b_C_findEvent 25 = .ok (.aconst_null, 1) := by decide +kernel
theorem d_C_findEvent_26 : decode b_C_findEvent 26 = .ok (.areturn, 1) := by decide +kernel
theorem d_C_findEvent_27 : decode b_C_findEvent 27 = .ok (.aload_n 3, 1) := by decide +kernel
theorem d_C_findEvent_28 : decode b_C_findEvent 28 = .ok (.getfield 171, 3) := by decide +kernel
theorem d_C_findEvent_31 : decode b_C_findEvent 31 = .ok (.iload_n 2, 1) := by decide +kernel
theorem d_C_findEvent_32 : decode b_C_findEvent 32 = .ok (.invokevirtual 175, 3) := by decide +kernel
theorem d_C_findEvent_35 : decode b_C_findEvent 35 = .ok (.checkcast 22, 3) := by decide +kernel
theorem d_C_findEvent_38 : decode b_C_findEvent 38 = .ok (.areturn, 1) := by decide +kernel
theorem d_C_findAgent_0 : decode b_C_findAgent 0 = .ok (.iconst 0, 1) := by decide +kernel
theorem d_C_findAgent_1 : decode b_C_findAgent 1 = .ok (.istore_n 2, 1) := by decide +kernel
theorem d_C_findAgent_2 : decode b_C_findAgent 2 = .ok (.iload_n 2, 1) := by decide +kernel
theorem d_C_findAgent_3 : decode b_C_findAgent 3 = .ok (.aload_n 0, 1) := by decide +kernel
theorem d_C_findAgent_4 : decode b_C_findAgent 4 = .ok (.getfield 44, 3) := by decide +kernel
theorem d_C_findAgent_7 : decode b_C_findAgent 7 = .ok (.if_icmp .ge 29, 3) := by decide +kernel
theorem d_C_findAgent_10 : decode b_C_findAgent 10 = .ok (.aload_n 0, 1) := by decide +kernel
theorem d_C_findAgent_11 : decode b_C_findAgent 11 = .ok (.getfield 11, 3) := by decide +kernel
theorem d_C_findAgent_14 : decode b_C_findAgent 14 = .ok (.iload_n 2, 1) := by decide +kernel
theorem d_C_findAgent_15 : decode b_C_findAgent 15 = .ok (.aaload, 1) := by decide +kernel
theorem d_C_findAgent_16 : decode b_C_findAgent 16 = .ok (.getfield 142, 3) := by decide +kernel
theorem d_C_findAgent_19 : decode b_C_findAgent 19 = .ok (.iload_n 1, 1) := by decide +kernel
theorem d_C_findAgent_20 : decode b_C_findAgent 20 = .ok (.if_icmp .ne 10, 3) := by decide +kernel
theorem d_C_findAgent_23 : decode b_C_findAgent 23 = .ok (.aload_n 0, 1) := by decide +kernel
theorem d_C_findAgent_24 : decode b_C_findAgent 24 = .ok (.getfield 11, 3) := by decide +kernel
theorem d_C_findAgent_27 : decode b_C_findAgent 27 = .ok (.iload_n 2, 1) := by decide +kernel
theorem d_C_findAgent_28 : decode b_C_findAgent 28 = .ok (.aaload, 1) := by decide +kernel
theorem d_C_findAgent_29 : decode b_C_findAgent 29 = .ok (.areturn, 1) := by decide +kernel
theorem d_C_findAgent_30 : decode b_C_findAgent 30 = .ok (.iinc 2 1, 3) := by decide +kernel
theorem d_C_findAgent_33 : decode b_C_findAgent 33 = .ok (.goto (-31), 3) := by decide +kernel
theorem d_C_findAgent_36 : decode b_C_findAgent 36 = .ok (.aconst_null, 1) := by decide +kernel
theorem d_C_findAgent_37 : decode b_C_findAgent 37 = .ok (.areturn, 1) := by decide +kernel
theorem d_C_isListed_0 : decode b_C_isListed 0 = .ok (.iconst 0, 1) := by decide +kernel
theorem d_C_isListed_1 : decode b_C_isListed 1 = .ok (.istore_n 2, 1) := by decide +kernel
theorem d_C_isListed_2 : decode b_C_isListed 2 = .ok (.iload_n 2, 1) := by decide +kernel
theorem d_C_isListed_3 : decode b_C_isListed 3 = .ok (.aload_n 0, 1) := by decide +kernel
theorem d_C_isListed_4 : decode b_C_isListed 4 = .ok (.getfield 48, 3) := by decide +kernel
theorem d_C_isListed_7 : decode b_C_isListed 7 = .ok (.if_icmp .ge 21, 3) := by decide +kernel
theorem d_C_isListed_10 : decode b_C_isListed 10 = .ok (.aload_n 0, 1) := by decide +kernel
theorem d_C_isListed_11 : decode b_C_isListed 11 = .ok (.getfield 24, 3) := by decide +kernel
theorem d_C_isListed_14 : decode b_C_isListed 14 = .ok (.iload_n 2, 1) := by decide +kernel
theorem d_C_isListed_15 : decode b_C_isListed 15 = .ok (.aaload, 1) := by decide +kernel
theorem d_C_isListed_16 : decode b_C_isListed 16 = .ok (.aload_n 1, 1) := by decide +kernel
theorem d_C_isListed_17 : decode b_C_isListed 17 = .ok (.if_acmp .ne 5, 3) := by decide +kernel
theorem d_C_isListed_20 : decode b_C_isListed 20 = .ok (.iconst 1, 1) := by decide +kernel
theorem d_C_isListed_21 : decode b_C_isListed 21 = .ok (.ireturn, 1) := by decide +kernel
theorem d_C_isListed_22 : decode b_C_isListed 22 = .ok (.iinc 2 1, 3) := by decide +kernel
theorem d_C_isListed_25 : decode b_C_isListed 25 = .ok (.goto (-23), 3) := by decide +kernel
theorem d_C_isListed_28 : decode b_C_isListed 28 = .ok (.iconst 0, 1) := by decide +kernel
theorem d_C_isListed_29 : decode b_C_isListed 29 = .ok (.ireturn, 1) := by decide +kernel
theorem d_L_seen_0 : decode b_L_seen 0 = .ok (.aload_n 1, 1) := by decide +kernel
theorem d_L_seen_1 : decode b_L_seen 1 = .ok (.iconst 0, 1) := by decide +kernel
theorem d_L_seen_2 : decode b_L_seen 2 = .ok (.aload_n 0, 1) := by decide +kernel
theorem d_L_seen_3 : decode b_L_seen 3 = .ok (.invokevirtual 19, 3) := by decide +kernel
theorem d_L_seen_6 : decode b_L_seen 6 = .ok (.i2l, 1) := by decide +kernel
theorem d_L_seen_7 : decode b_L_seen 7 = .ok (.lastore, 1) := by decide +kernel
theorem d_L_seen_8 : decode b_L_seen 8 = .ok (.goto 6, 3) := by decide +kernel
theorem d_L_seen_11 : decode b_L_seen 11 = .ok (.astore_n 2, 1) := by decide +kernel
theorem d_L_seen_12 : decode b_L_seen 12 = .ok (.iconst 1, 1) := by decide +kernel
theorem d_L_seen_13 : decode b_L_seen 13 = .ok (.ireturn, 1) := by decide +kernel
theorem d_L_seen_14 : decode b_L_seen 14 = .ok (.iconst 0, 1) := by decide +kernel
theorem d_L_seen_15 : decode b_L_seen 15 = .ok (.ireturn, 1) := by decide +kernel
theorem d_C_seen_0 : decode b_C_seen 0 = .ok (.aload_n 0, 1) := by decide +kernel
theorem d_C_seen_1 : decode b_C_seen 1 = .ok (.invokevirtual 82, 3) := by decide +kernel
theorem d_C_seen_4 : decode b_C_seen 4 = .ok (.ifCond .eq 11, 3) := by decide +kernel
theorem d_C_seen_7 : decode b_C_seen 7 = .ok (.new 65, 3) := by decide +kernel
theorem d_C_seen_10 : decode b_C_seen 10 = .ok (.dup, 1) := by decide +kernel
theorem d_C_seen_11 : decode b_C_seen 11 = .ok (.invokespecial 67, 3) := by decide +kernel
theorem d_C_seen_14 : decode b_C_seen 14 = .ok (.athrow, 1) := by decide +kernel
theorem d_C_seen_15 : decode b_C_seen 15 = .ok (.aload_n 0, 1) := by decide +kernel
theorem d_C_seen_16 : decode b_C_seen 16 = .ok (.invokevirtual 86, 3) := by decide +kernel
theorem d_C_seen_19 : decode b_C_seen 19 = .ok (.aload_n 0, 1) := by decide +kernel
theorem d_C_seen_20 : decode b_C_seen 20 = .ok (.invokevirtual 89, 3) := by decide +kernel
theorem d_C_seen_23 : decode b_C_seen 23 = .ok (.ireturn, 1) := by decide +kernel
theorem d_C_isListTangled_0 : decode b_C_isListTangled 0 = .ok (.iconst 0, 1) := by decide +kernel
theorem d_C_isListTangled_1 : decode b_C_isListTangled 1 = .ok (.istore_n 1, 1) := by decide +kernel
theorem d_C_isListTangled_2 : decode b_C_isListTangled 2 = .ok (.iload_n 1, 1) := by decide +kernel
theorem d_C_isListTangled_3 : decode b_C_isListTangled 3 = .ok (.aload_n 0, 1) := by decide +kernel
theorem d_C_isListTangled_4 : decode b_C_isListTangled 4 = .ok (.getfield 48, 3) := by decide +kernel
theorem d_C_isListTangled_7 : decode b_C_isListTangled 7 = .ok (.if_icmp .ge 45, 3) := by decide +kernel
theorem d_C_isListTangled_10 : decode b_C_isListTangled 10 = .ok (.iconst 0, 1) := by decide +kernel
theorem d_C_isListTangled_11 : decode b_C_isListTangled 11 = .ok (.istore_n 2, 1) := by decide +kernel
theorem d_C_isListTangled_12 : decode b_C_isListTangled 12 = .ok (.iload_n 2, 1) := by decide +kernel
theorem d_C_isListTangled_13 : decode b_C_isListTangled 13 = .ok (.aload_n 0, 1) := by decide +kernel
theorem d_C_isListTangled_14 : decode b_C_isListTangled 14 = .ok (.getfield 48, 3) := by decide +kernel
theorem d_C_isListTangled_17 : decode b_C_isListTangled 17 = .ok (.if_icmp .ge 29, 3) := by decide +kernel
theorem d_C_isListTangled_20 : decode b_C_isListTangled 20 = .ok (.aload_n 0, 1) := by decide +kernel
theorem d_C_isListTangled_21 : decode b_C_isListTangled 21 = .ok (.getfield 24, 3) := by decide +kernel
theorem d_C_isListTangled_24 : decode b_C_isListTangled 24 = .ok (.iload_n 1, 1) := by decide +kernel
theorem d_C_isListTangled_25 : decode b_C_isListTangled 25 = .ok (.aaload, 1) := by decide +kernel
theorem d_C_isListTangled_26 : decode b_C_isListTangled 26 = .ok (.aload_n 0, 1) := by decide +kernel
theorem d_C_isListTangled_27 : decode b_C_isListTangled 27 = .ok (.getfield 24, 3) := by decide +kernel
theorem d_C_isListTangled_30 : decode b_C_isListTangled 30 = .ok (.iload_n 2, 1) := by decide +kernel
theorem d_C_isListTangled_31 : decode b_C_isListTangled 31 = .ok (.aaload, 1) := by decide +kernel
theorem d_C_isListTangled_32 : decode b_C_isListTangled 32 = .ok (.invokevirtual 179, 3) := by decide +kernel
theorem d_C_isListTangled_35 : decode b_C_isListTangled 35 = .ok (.ifCond .eq 5, 3) := by decide +kernel
theorem d_C_isListTangled_38 : decode b_C_isListTangled 38 = .ok (.iconst 1, 1) := by decide +kernel
theorem d_C_isListTangled_39 : decode b_C_isListTangled 39 = .ok (.ireturn, 1) := by decide +kernel
theorem d_C_isListTangled_40 : decode b_C_isListTangled 40 = .ok (.iinc 2 1, 3) := by decide +kernel
theorem d_C_isListTangled_43 : decode b_C_isListTangled 43 = .ok (.goto (-31), 3) := by decide +kernel
theorem d_C_isListTangled_46 : decode b_C_isListTangled 46 = .ok (.iinc 1 1, 3) := by decide +kernel
theorem d_C_isListTangled_49 : decode b_C_isListTangled 49 = .ok (.goto (-47), 3) := by decide +kernel
theorem d_C_isListTangled_52 : decode b_C_isListTangled 52 = .ok (.iconst 0, 1) := by decide +kernel
theorem d_C_isListTangled_53 : decode b_C_isListTangled 53 = .ok (.ireturn, 1) := by decide +kernel
theorem d_C_lookFromList_0 : decode b_C_lookFromList 0 = .ok (.aload_n 0, 1) := by decide +kernel
theorem d_C_lookFromList_1 : decode b_C_lookFromList 1 = .ok (.getfield 28, 3) := by decide +kernel
theorem d_C_lookFromList_4 : decode b_C_lookFromList 4 = .ok (.iconst 0, 1) := by decide +kernel
theorem d_C_lookFromList_5 : decode b_C_lookFromList 5 = .ok (.invokestatic 182, 3) := by decide +kernel
theorem d_C_lookFromList_8 : decode b_C_lookFromList 8 = .ok (.iconst 0, 1) := by decide +kernel
theorem d_C_lookFromList_9 : decode b_C_lookFromList 9 = .ok (.istore_n 1, 1) := by decide +kernel
theorem d_C_lookFromList_10 : decode b_C_lookFromList 10 = .ok (.iload_n 1, 1) := by decide +kernel
theorem d_C_lookFromList_11 : decode b_C_lookFromList 11 = .ok (.aload_n 0, 1) := by decide +kernel
theorem d_C_lookFromList_12 : decode b_C_lookFromList 12 = .ok (.getfield 48, 3) := by decide +kernel
theorem d_C_lookFromList_15 : decode b_C_lookFromList 15 = .ok (.if_icmp .ge 22, 3) := by decide +kernel
theorem d_C_lookFromList_18 : decode b_C_lookFromList 18 = .ok (.aload_n 0, 1) := by decide +kernel
theorem d_C_lookFromList_19 : decode b_C_lookFromList 19 = .ok (.getfield 24, 3) := by decide +kernel
theorem d_C_lookFromList_22 : decode b_C_lookFromList 22 = .ok (.iload_n 1, 1) := by decide +kernel
theorem d_C_lookFromList_23 : decode b_C_lookFromList 23 = .ok (.aaload, 1) := by decide +kernel
theorem d_C_lookFromList_24 : decode b_C_lookFromList 24 = .ok (.aload_n 0, 1) := by decide +kernel
theorem d_C_lookFromList_25 : decode b_C_lookFromList 25 = .ok (.getfield 28, 3) := by decide +kernel
theorem d_C_lookFromList_28 : decode b_C_lookFromList 28 = .ok (.invokevirtual 188, 3) := by decide +kernel
theorem d_C_lookFromList_31 : decode b_C_lookFromList 31 = .ok (.iinc 1 1, 3) := by decide +kernel
theorem d_C_lookFromList_34 : decode b_C_lookFromList 34 = .ok (.goto (-24), 3) := by decide +kernel
theorem d_C_lookFromList_37 : decode b_C_lookFromList 37 = .ok (.return_, 1) := by decide +kernel
theorem d_AR_fillI_0 : decode b_AR_fillI 0 = .ok (.iconst 0, 1) := by decide +kernel
theorem d_AR_fillI_1 : decode b_AR_fillI 1 = .ok (.istore_n 2, 1) := by decide +kernel
theorem d_AR_fillI_2 : decode b_AR_fillI 2 = .ok (.aload_n 0, 1) := by decide +kernel
theorem d_AR_fillI_3 : decode b_AR_fillI 3 = .ok (.arraylength, 1) := by decide +kernel
theorem d_AR_fillI_4 : decode b_AR_fillI 4 = .ok (.istore_n 3, 1) := by decide +kernel
theorem d_AR_fillI_5 : decode b_AR_fillI 5 = .ok (.iload_n 2, 1) := by decide +kernel
theorem d_AR_fillI_6 : decode b_AR_fillI 6 = .ok (.iload_n 3, 1) := by decide +kernel
theorem d_AR_fillI_7 : decode b_AR_fillI 7 = .ok (.if_icmp .ge 13, 3) := by decide +kernel
theorem d_AR_fillI_10 : decode b_AR_fillI 10 = .ok (.aload_n 0, 1) := by decide +kernel
theorem d_AR_fillI_11 : decode b_AR_fillI 11 = .ok (.iload_n 2, 1) := by decide +kernel
theorem d_AR_fillI_12 : decode b_AR_fillI 12 = .ok (.iload_n 1, 1) := by decide +kernel
theorem d_AR_fillI_13 : decode b_AR_fillI 13 = .ok (.iastore, 1) := by decide +kernel
theorem d_AR_fillI_14 : decode b_AR_fillI 14 = .ok (.iinc 2 1, 3) := by decide +kernel
theorem d_AR_fillI_17 : decode b_AR_fillI 17 = .ok (.goto (-12), 3) := by decide +kernel
theorem d_AR_fillI_20 : decode b_AR_fillI 20 = .ok (.return_, 1) := by decide +kernel
theorem d_E_joinTo_0 : decode b_E_joinTo 0 = .ok (.iconst 0, 1) := by decide +kernel
theorem d_E_joinTo_1 : decode b_E_joinTo 1 = .ok (.istore_n 2, 1) := by decide +kernel
theorem d_E_joinTo_2 : decode b_E_joinTo 2 = .ok (.iload_n 2, 1) := by decide +kernel
theorem d_E_joinTo_3 : decode b_E_joinTo 3 = .ok (.bipush 16, 2) := by decide +kernel
theorem d_E_joinTo_5 : decode b_E_joinTo 5 = .ok (.if_icmp .ge 24, 3) := by decide +kernel
theorem d_E_joinTo_8 : decode b_E_joinTo 8 = .ok (.aload_n 1, 1) := by decide +kernel
theorem d_E_joinTo_9 : decode b_E_joinTo 9 = .ok (.iload_n 2, 1) := by decide +kernel
theorem d_E_joinTo_10 : decode b_E_joinTo 10 = .ok (.aload_n 1, 1) := by decide +kernel
theorem d_E_joinTo_11 : decode b_E_joinTo 11 = .ok (.iload_n 2, 1) := by decide +kernel
theorem d_E_joinTo_12 : decode b_E_joinTo 12 = .ok (.iaload, 1) := by decide +kernel
theorem d_E_joinTo_13 : decode b_E_joinTo 13 = .ok (.aload_n 0, 1) := by decide +kernel
theorem d_E_joinTo_14 : decode b_E_joinTo 14 = .ok (.getfield 31, 3) := by decide +kernel
theorem d_E_joinTo_17 : decode b_E_joinTo 17 = .ok (.iload_n 2, 1) := by decide +kernel
theorem d_E_joinTo_18 : decode b_E_joinTo 18 = .ok (.iaload, 1) := by decide +kernel
theorem d_E_joinTo_19 : decode b_E_joinTo 19 = .ok (.invokestatic 45, 3) := by decide +kernel
theorem d_E_joinTo_22 : decode b_E_joinTo 22 = .ok (.iastore, 1) := by decide +kernel
theorem d_E_joinTo_23 : decode b_E_joinTo 23 = .ok (.iinc 2 1, 3) := by decide +kernel
theorem d_E_joinTo_26 : decode b_E_joinTo 26 = .ok (.goto (-24), 3) := by decide +kernel
theorem d_E_joinTo_29 : decode b_E_joinTo 29 = .ok (.aload_n 1, 1) := by decide +kernel
theorem d_E_joinTo_30 : decode b_E_joinTo 30 = .ok (.aload_n 0, 1) := by decide +kernel
theorem d_E_joinTo_31 : decode b_E_joinTo 31 = .ok (.getfield 9, 3) := by decide +kernel
theorem d_E_joinTo_34 : decode b_E_joinTo 34 = .ok (.getfield 35, 3) := by decide +kernel
theorem d_E_joinTo_37 : decode b_E_joinTo 37 = .ok (.aload_n 1, 1) := by decide +kernel
theorem d_E_joinTo_38 : decode b_E_joinTo 38 = .ok (.aload_n 0, 1) := by decide +kernel
theorem d_E_joinTo_39 : decode b_E_joinTo 39 = .ok (.getfield 9, 3) := by decide +kernel
theorem d_E_joinTo_42 : decode b_E_joinTo 42 = .ok (.getfield 35, 3) := by decide +kernel
theorem d_E_joinTo_45 : decode b_E_joinTo 45 = .ok (.iaload, 1) := by decide +kernel
theorem d_E_joinTo_46 : decode b_E_joinTo 46 = .ok (.aload_n 0, 1) := by decide +kernel
theorem d_E_joinTo_47 : decode b_E_joinTo 47 = .ok (.getfield 27, 3) := by decide +kernel
theorem d_E_joinTo_50 : decode b_E_joinTo 50 = .ok (.iconst 1, 1) := by decide +kernel
theorem d_E_joinTo_51 : decode b_E_joinTo 51 = .ok (.iadd, 1) := by decide +kernel
theorem d_E_joinTo_52 : decode b_E_joinTo 52 = .ok (.invokestatic 45, 3) := by decide +kernel
theorem d_E_joinTo_55 : decode b_E_joinTo 55 = .ok (.iastore, 1) := by decide +kernel
theorem d_E_joinTo_56 : decode b_E_joinTo 56 = .ok (.return_, 1) := by decide +kernel
theorem d_MA_max_0 : decode b_MA_max 0 = .ok (.iload_n 0, 1) := by decide +kernel
theorem d_MA_max_1 : decode b_MA_max 1 = .ok (.iload_n 1, 1) := by decide +kernel
theorem d_MA_max_2 : decode b_MA_max 2 = .ok (.if_icmp .lt 7, 3) := by decide +kernel
theorem d_MA_max_5 : decode b_MA_max 5 = .ok (.iload_n 0, 1) := by decide +kernel
theorem d_MA_max_6 : decode b_MA_max 6 = .ok (.goto 4, 3) := by decide +kernel
theorem d_MA_max_9 : decode b_MA_max 9 = .ok (.iload_n 1, 1) := by decide +kernel
theorem d_MA_max_10 : decode b_MA_max 10 = .ok (.ireturn, 1) := by decide +kernel
theorem d_C_countSeen_0 : decode b_C_countSeen 0 = .ok (.iconst 0, 1) := by decide +kernel
theorem d_C_countSeen_1 : decode b_C_countSeen 1 = .ok (.istore_n 1, 1) := by decide +kernel
theorem d_C_countSeen_2 : decode b_C_countSeen 2 = .ok (.aload_n 0, 1) := by decide +kernel
theorem d_C_countSeen_3 : decode b_C_countSeen 3 = .ok (.aload_n 0, 1) := by decide +kernel
theorem d_C_countSeen_4 : decode b_C_countSeen 4 = .ok (.getfield 40, 3) := by decide +kernel
theorem d_C_countSeen_7 : decode b_C_countSeen 7 = .ok (.invokevirtual 202, 3) := by decide +kernel
theorem d_C_countSeen_10 : decode b_C_countSeen 10 = .ok (.astore_n 2, 1) := by decide +kernel
theorem d_C_countSeen_11 : decode b_C_countSeen 11 = .ok (.aload_n 2, 1) := by decide +kernel
theorem d_C_countSeen_12 : decode b_C_countSeen 12 = .ok (.ifnull 15, 3) := by decide +kernel
theorem d_C_countSeen_15 : decode b_C_countSeen 15 = .ok (.iinc 1 1, 3) := by decide +kernel
theorem d_C_countSeen_18 : decode b_C_countSeen 18 = .ok (.aload_n 0, 1) := by decide +kernel
theorem d_C_countSeen_19 : decode b_C_countSeen 19 = .ok (.aload_n 2, 1) := by decide +kernel
theorem d_C_countSeen_20 : decode b_C_countSeen 20 = .ok (.invokevirtual 202, 3) := by decide +kernel
theorem d_C_countSeen_23 : decode b_C_countSeen 23 = .ok (.astore_n 2, 1) := by decide +kernel
theorem d_C_countSeen_24 : decode b_C_countSeen 24 = .ok (.goto (-13), 3) := by decide +kernel
theorem d_C_countSeen_27 : decode b_C_countSeen 27 = .ok (.iload_n 1, 1) := by decide +kernel
theorem d_C_countSeen_28 : decode b_C_countSeen 28 = .ok (.ireturn, 1) := by decide +kernel
theorem d_C_nextSeen_0 : decode b_C_nextSeen 0 = .ok (.aload_n 1, 1) := by decide +kernel
theorem d_C_nextSeen_1 : decode b_C_nextSeen 1 = .ok (.getfield 159, 3) := by decide +kernel
theorem d_C_nextSeen_4 : decode b_C_nextSeen 4 = .ok (.astore_n 2, 1) := by decide +kernel
theorem d_C_nextSeen_5 : decode b_C_nextSeen 5 = .ok (.aload_n 2, 1) := by decide +kernel
theorem d_C_nextSeen_6 : decode b_C_nextSeen 6 = .ok (.ifnull 24, 3) := by decide +kernel
theorem d_C_nextSeen_9 : decode b_C_nextSeen 9 = .ok (.aload_n 2, 1) := by decide +kernel
theorem d_C_nextSeen_10 : decode b_C_nextSeen 10 = .ok (.aload_n 0, 1) := by decide +kernel
theorem d_C_nextSeen_11 : decode b_C_nextSeen 11 = .ok (.getfield 28, 3) := by decide +kernel
theorem d_C_nextSeen_14 : decode b_C_nextSeen 14 = .ok (.invokevirtual 195, 3) := by decide +kernel
theorem d_C_nextSeen_17 : decode b_C_nextSeen 17 = .ok (.ifCond .eq 5, 3) := by decide +kernel
theorem d_C_nextSeen_20 : decode b_C_nextSeen 20 = .ok (.aload_n 2, 1) := by decide +kernel
theorem d_C_nextSeen_21 : decode b_C_nextSeen 21 = .ok (.areturn, 1) := by decide +kernel
theorem d_C_nextSeen_22 : decode b_C_nextSeen 22 = .ok (.aload_n 2, 1) := by decide +kernel
theorem d_C_nextSeen_23 : decode b_C_nextSeen 23 = .ok (.getfield 159, 3) := by decide +kernel
theorem d_C_nextSeen_26 : decode b_C_nextSeen 26 = .ok (.astore_n 2, 1) := by decide +kernel
theorem d_C_nextSeen_27 : decode b_C_nextSeen 27 = .ok (.goto (-22), 3) := by decide +kernel
theorem d_C_nextSeen_30 : decode b_C_nextSeen 30 = .ok (.aconst_null, 1) := by decide +kernel
theorem d_C_nextSeen_31 : decode b_C_nextSeen 31 = .ok (.areturn, 1) := by decide +kernel
theorem d_N_isSeenIn_0 : decode b_N_isSeenIn 0 = .ok (.aload_n 0, 1) := by decide +kernel
theorem d_N_isSeenIn_1 : decode b_N_isSeenIn 1 = .ok (.aload_n 1, 1) := by decide +kernel
theorem d_N_isSeenIn_2 : decode b_N_isSeenIn 2 = .ok (.invokevirtual 19, 3) := by decide +kernel
theorem d_N_isSeenIn_5 : decode b_N_isSeenIn 5 = .ok (.ifCond .ne 5, 3) := by decide +kernel
theorem d_N_isSeenIn_8 : decode b_N_isSeenIn 8 = .ok (.iconst 0, 1) := by decide +kernel
theorem d_N_isSeenIn_9 : decode b_N_isSeenIn 9 = .ok (.ireturn, 1) := by decide +kernel
theorem d_N_isSeenIn_10 : decode b_N_isSeenIn 10 = .ok (.aload_n 0, 1) := by decide +kernel
theorem d_N_isSeenIn_11 : decode b_N_isSeenIn 11 = .ok (.getfield 23, 3) := by decide +kernel
theorem d_N_isSeenIn_14 : decode b_N_isSeenIn 14 = .ok (.astore_n 2, 1) := by decide +kernel
theorem d_N_isSeenIn_15 : decode b_N_isSeenIn 15 = .ok (.aload_n 2, 1) := by decide +kernel
theorem d_N_isSeenIn_16 : decode b_N_isSeenIn 16 = .ok (.ifnull 21, 3) := by decide +kernel
theorem d_N_isSeenIn_19 : decode b_N_isSeenIn 19 = .ok (.aload_n 2, 1) := by decide +kernel
theorem d_N_isSeenIn_20 : decode b_N_isSeenIn 20 = .ok (.aload_n 1, 1) := by decide +kernel
theorem d_N_isSeenIn_21 : decode b_N_isSeenIn 21 = .ok (.invokevirtual 27, 3) := by decide +kernel
theorem d_N_isSeenIn_24 : decode b_N_isSeenIn 24 = .ok (.ifCond .eq 5, 3) := by decide +kernel
theorem d_N_isSeenIn_27 : decode b_N_isSeenIn 27 = .ok (.iconst 0, 1) := by decide +kernel
theorem d_N_isSeenIn_28 : decode b_N_isSeenIn 28 = .ok (.ireturn, 1) := by decide +kernel
theorem d_N_isSeenIn_29 : decode b_N_isSeenIn 29 = .ok (.aload_n 2, 1) := by decide +kernel
theorem d_N_isSeenIn_30 : decode b_N_isSeenIn 30 = .ok (.getfield 30, 3) := by decide +kernel
theorem d_N_isSeenIn_33 : decode b_N_isSeenIn 33 = .ok (.astore_n 2, 1) := by decide +kernel
theorem d_N_isSeenIn_34 : decode b_N_isSeenIn 34 = .ok (.goto (-19), 3) := by decide +kernel
theorem d_N_isSeenIn_37 : decode b_N_isSeenIn 37 = .ok (.iconst 1, 1) := by decide +kernel
theorem d_N_isSeenIn_38 : decode b_N_isSeenIn 38 = .ok (.ireturn, 1) := by decide +kernel
theorem d_L_insert_0 : decode b_L_insert 0 = .ok (.aload 5, 2) := by decide +kernel
theorem d_L_insert_2 : decode b_L_insert 2 = .ok (.iconst 0, 1) := by decide +kernel
theorem d_L_insert_3 : decode b_L_insert 3 = .ok (.aload_n 0, 1) := by decide +kernel
theorem d_L_insert_4 : decode b_L_insert 4 = .ok (.iload_n 1, 1) := by decide +kernel
theorem d_L_insert_5 : decode b_L_insert 5 = .ok (.iload_n 2, 1) := by decide +kernel
theorem d_L_insert_6 : decode b_L_insert 6 = .ok (.iload_n 3, 1) := by decide +kernel
theorem d_L_insert_7 : decode b_L_insert 7 = .ok (.iload 4, 2) := by decide +kernel
theorem d_L_insert_9 : decode b_L_insert 9 = .ok (.invokevirtual 23, 3) := by decide +kernel
theorem d_L_insert_12 : decode b_L_insert 12 = .ok (.i2l, 1) := by decide +kernel
theorem d_L_insert_13 : decode b_L_insert 13 = .ok (.lastore, 1) := by decide +kernel
theorem d_L_insert_14 : decode b_L_insert 14 = .ok (.goto 19, 3) := by decide +kernel
theorem d_L_insert_17 : decode b_L_insert 17 = .ok (.astore 6, 2) := by decide +kernel
theorem d_L_insert_19 : decode b_L_insert 19 = .ok (.iconst 1, 1) := by decide +kernel
theorem d_L_insert_20 : decode b_L_insert 20 = .ok (.ireturn, 1) := by decide +kernel
theorem d_L_insert_21 : decode b_L_insert 21 = .ok (.astore 6, 2) := by decide +kernel
theorem d_L_insert_23 : decode b_L_insert 23 = .ok (.iconst 2, 1) := by decide +kernel
theorem d_L_insert_24 : decode b_L_insert 24 = .ok (.ireturn, 1) := by decide +kernel
theorem d_L_insert_25 : decode b_L_insert 25 = .ok (.astore 6, 2) := by decide +kernel
theorem d_L_insert_27 : decode b_L_insert 27 = .ok (.iconst 3, 1) := by decide +kernel
theorem d_L_insert_28 : decode b_L_insert 28 = .ok (.ireturn, 1) := by decide +kernel
theorem d_L_insert_29 : decode b_L_insert 29 = .ok (.astore 6, 2) := by decide +kernel
theorem d_L_insert_31 : decode b_L_insert 31 = .ok (.iconst 4, 1) := by decide +kernel
theorem d_L_insert_32 : decode b_L_insert 32 = .ok (.ireturn, 1) := by decide +kernel
theorem d_L_insert_33 : decode b_L_insert 33 = .ok (.iconst 0, 1) := by decide +kernel
theorem d_L_insert_34 : decode b_L_insert 34 = .ok (.ireturn, 1) := by decide +kernel
theorem d_C_insert_0 : decode b_C_insert 0 = .ok (.iload_n 1, 1) := by decide +kernel
theorem d_C_insert_1 : decode b_C_insert 1 = .ok (.iload_n 2, 1) := by decide +kernel
theorem d_C_insert_2 : decode b_C_insert 2 = .ok (.iload 4, 2) := by decide +kernel
theorem d_C_insert_4 : decode b_C_insert 4 = .ok (.invokestatic 93, 3) := by decide +kernel
theorem d_C_insert_7 : decode b_C_insert 7 = .ok (.ifCond .eq 12, 3) := by decide +kernel
theorem d_C_insert_10 : decode b_C_insert 10 = .ok (.iload_n 3, 1) := by decide +kernel
theorem d_C_insert_11 : decode b_C_insert 11 = .ok (.iload 4, 2) := by decide +kernel
theorem d_C_insert_13 : decode b_C_insert 13 = .ok (.invokestatic 97, 3) := by decide +kernel
theorem d_C_insert_16 : decode b_C_insert 16 = .ok (.ifCond .ne 11, 3) := by decide +kernel
theorem d_C_insert_19 : decode b_C_insert 19 = .ok (.new 101, 3) := by decide +kernel
theorem d_C_insert_22 : decode b_C_insert 22 = .ok (.dup, 1) := by decide +kernel
theorem d_C_insert_23 : decode b_C_insert 23 = .ok (.invokespecial 103, 3) := by decide +kernel
theorem d_C_insert_26 : decode b_C_insert 26 = .ok (.athrow, 1) := by decide +kernel
theorem d_C_insert_27 : decode b_C_insert 27 = .ok (.aload_n 0, 1) := by decide +kernel
theorem d_C_insert_28 : decode b_C_insert 28 = .ok (.iload_n 1, 1) := by decide +kernel
theorem d_C_insert_29 : decode b_C_insert 29 = .ok (.invokevirtual 104, 3) := by decide +kernel
theorem d_C_insert_32 : decode b_C_insert 32 = .ok (.ifCond .ne 11, 3) := by decide +kernel
theorem d_C_insert_35 : decode b_C_insert 35 = .ok (.new 65, 3) := by decide +kernel
theorem d_C_insert_38 : decode b_C_insert 38 = .ok (.dup, 1) := by decide +kernel
theorem d_C_insert_39 : decode b_C_insert 39 = .ok (.invokespecial 67, 3) := by decide +kernel
theorem d_C_insert_42 : decode b_C_insert 42 = .ok (.athrow, 1) := by decide +kernel
theorem d_C_insert_43 : decode b_C_insert 43 = .ok (.iload_n 2, 1) := by decide +kernel
theorem d_C_insert_44 : decode b_C_insert 44 = .ok (.aload_n 0, 1) := by decide +kernel
theorem d_C_insert_45 : decode b_C_insert 45 = .ok (.invokevirtual 89, 3) := by decide +kernel
theorem d_C_insert_48 : decode b_C_insert 48 = .ok (.if_icmp .le 11, 3) := by decide +kernel
theorem d_C_insert_51 : decode b_C_insert 51 = .ok (.new 108, 3) := by decide +kernel
theorem d_C_insert_54 : decode b_C_insert 54 = .ok (.dup, 1) := by decide +kernel
theorem d_C_insert_55 : decode b_C_insert 55 = .ok (.invokespecial 110, 3) := by decide +kernel
theorem d_C_insert_58 : decode b_C_insert 58 = .ok (.athrow, 1) := by decide +kernel
theorem d_C_insert_59 : decode b_C_insert 59 = .ok (.aload_n 0, 1) := by decide +kernel
theorem d_C_insert_60 : decode b_C_insert 60 = .ok (.iload_n 1, 1) := by decide +kernel
theorem d_C_insert_61 : decode b_C_insert 61 = .ok (.iload 4, 2) := by decide +kernel
theorem d_C_insert_63 : decode b_C_insert 63 = .ok (.invokevirtual 111, 3) := by decide +kernel
theorem d_C_insert_66 : decode b_C_insert 66 = .ok (.ifCond .ne 11, 3) := by decide +kernel
theorem d_C_insert_69 : decode b_C_insert 69 = .ok (.new 68, 3) := by decide +kernel
theorem d_C_insert_72 : decode b_C_insert 72 = .ok (.dup, 1) := by decide +kernel
theorem d_C_insert_73 : decode b_C_insert 73 = .ok (.invokespecial 70, 3) := by decide +kernel
theorem d_C_insert_76 : decode b_C_insert 76 = .ok (.athrow, 1) := by decide +kernel
theorem d_C_insert_77 : decode b_C_insert 77 = .ok (.aload_n 0, 1) := by decide +kernel
theorem d_C_insert_78 : decode b_C_insert 78 = .ok (.aload_n 0, 1) := by decide +kernel
theorem d_C_insert_79 : decode b_C_insert 79 = .ok (.iload_n 1, 1) := by decide +kernel
theorem d_C_insert_80 : decode b_C_insert 80 = .ok (.invokevirtual 114, 3) := by decide +kernel
theorem d_C_insert_83 : decode b_C_insert 83 = .ok (.iload_n 2, 1) := by decide +kernel
theorem d_C_insert_84 : decode b_C_insert 84 = .ok (.iload_n 3, 1) := by decide +kernel
theorem d_C_insert_85 : decode b_C_insert 85 = .ok (.iload 4, 2) := by decide +kernel
theorem d_C_insert_87 : decode b_C_insert 87 = .ok (.invokevirtual 118, 3) := by decide +kernel
theorem d_C_insert_90 : decode b_C_insert 90 = .ok (.aload_n 0, 1) := by decide +kernel
theorem d_C_insert_91 : decode b_C_insert 91 = .ok (.getfield 51, 3) := by decide +kernel
theorem d_C_insert_94 : decode b_C_insert 94 = .ok (.ireturn, 1) := by decide +kernel
theorem d_C_canBeEdit_0 : decode b_C_canBeEdit 0 = .ok (.iload_n 0, 1) := by decide +kernel
theorem d_C_canBeEdit_1 : decode b_C_canBeEdit 1 = .ok (.invokestatic 165, 3) := by decide +kernel
theorem d_C_canBeEdit_4 : decode b_C_canBeEdit 4 = .ok (.ifCond .eq 22, 3) := by decide +kernel
theorem d_C_canBeEdit_7 : decode b_C_canBeEdit 7 = .ok (.iload_n 2, 1) := by decide +kernel
theorem d_C_canBeEdit_8 : decode b_C_canBeEdit 8 = .ok (.iconst 1, 1) := by decide +kernel
theorem d_C_canBeEdit_9 : decode b_C_canBeEdit 9 = .ok (.if_icmp .lt 17, 3) := by decide +kernel
theorem d_C_canBeEdit_12 : decode b_C_canBeEdit 12 = .ok (.iload_n 2, 1) := by decide +kernel
theorem d_C_canBeEdit_13 : decode b_C_canBeEdit 13 = .ok (.bipush 100, 2) := by decide +kernel
theorem d_C_canBeEdit_15 : decode b_C_canBeEdit 15 = .ok (.if_icmp .gt 11, 3) := by decide +kernel
theorem d_C_canBeEdit_18 : decode b_C_canBeEdit 18 = .ok (.iload_n 1, 1) := by decide +kernel
theorem d_C_canBeEdit_19 : decode b_C_canBeEdit 19 = .ok (.ifCond .lt 7, 3) := by decide +kernel
theorem d_C_canBeEdit_22 : decode b_C_canBeEdit 22 = .ok (.iconst 1, 1) := by decide +kernel
theorem d_C_canBeEdit_23 : decode b_C_canBeEdit 23 = .ok (.goto 4, 3) := by decide +kernel
theorem d_C_canBeEdit_26 : decode b_C_canBeEdit 26 = .ok (.iconst 0, 1) := by decide +kernel
theorem d_C_canBeEdit_27 : decode b_C_canBeEdit 27 = .ok (.ireturn, 1) := by decide +kernel
theorem d_C_isName_0 : decode b_C_isName 0 = .ok (.iload_n 0, 1) := by decide +kernel
theorem d_C_isName_1 : decode b_C_isName 1 = .ok (.ifCond .lt 14, 3) := by decide +kernel
theorem d_C_isName_4 : decode b_C_isName 4 = .ok (.iload_n 0, 1) := by decide +kernel
theorem d_C_isName_5 : decode b_C_isName 5 = .ok (.sipush 255, 3) := by decide +kernel
theorem d_C_isName_8 : decode b_C_isName 8 = .ok (.if_icmp .gt 7, 3) := by decide +kernel
theorem d_C_isName_11 : decode b_C_isName 11 = .ok (.iconst 1, 1) := by decide +kernel
theorem d_C_isName_12 : decode b_C_isName 12 = .ok (.goto 4, 3) := by decide +kernel
theorem d_C_isName_15 : decode b_C_isName 15 = .ok (.iconst 0, 1) := by decide +kernel
theorem d_C_isName_16 : decode b_C_isName 16 = .ok (.ireturn, 1) := by decide +kernel
theorem d_C_areCodes_0 : decode b_C_areCodes 0 = .ok (.iload_n 0, 1) := by decide +kernel
theorem d_C_areCodes_1 : decode b_C_areCodes 1 = .ok (.ifCond .lt 17, 3) := by decide +kernel
theorem d_C_areCodes_4 : decode b_C_areCodes 4 = .ok (.iload_n 0, 1) := by decide +kernel
theorem d_C_areCodes_5 : decode b_C_areCodes 5 = .ok (.ldc 174, 2) := by decide +kernel
theorem d_C_areCodes_7 : decode b_C_areCodes 7 = .ok (.iload_n 1, 1) := by decide +kernel
theorem d_C_areCodes_8 : decode b_C_areCodes 8 = .ok (.iconst 1, 1) := by decide +kernel
theorem d_C_areCodes_9 : decode b_C_areCodes 9 = .ok (.isub, 1) := by decide +kernel
theorem d_C_areCodes_10 : decode b_C_areCodes 10 = .ok (.isub, 1) := by decide +kernel
theorem d_C_areCodes_11 : decode b_C_areCodes 11 = .ok (.if_icmp .gt 7, 3) := by decide +kernel
theorem d_C_areCodes_14 : decode b_C_areCodes 14 = .ok (.iconst 1, 1) := by decide +kernel
theorem d_C_areCodes_15 : decode b_C_areCodes 15 = .ok (.goto 4, 3) := by decide +kernel
theorem d_C_areCodes_18 : decode b_C_areCodes 18 = .ok (.iconst 0, 1) := by decide +kernel
theorem d_C_areCodes_19 : decode b_C_areCodes 19 = .ok (.ireturn, 1) := by decide +kernel
theorem d_C_takeList_0 : decode b_C_takeList 0 = .ok (.aload_n 0, 1) := by decide +kernel
theorem d_C_takeList_1 : decode b_C_takeList 1 = .ok (.invokevirtual 82, 3) := by decide +kernel
theorem d_C_takeList_4 : decode b_C_takeList 4 = .ok (.istore_n 2, 1) := by decide +kernel
theorem d_C_takeList_5 : decode b_C_takeList 5 = .ok (.aload_n 0, 1) := by decide +kernel
theorem d_C_takeList_6 : decode b_C_takeList 6 = .ok (.invokevirtual 86, 3) := by decide +kernel
theorem d_C_takeList_9 : decode b_C_takeList 9 = .ok (.aload_n 0, 1) := by decide +kernel
theorem d_C_takeList_10 : decode b_C_takeList 10 = .ok (.iconst 0, 1) := by decide +kernel
theorem d_C_takeList_11 : decode b_C_takeList 11 = .ok (.putfield 48, 3) := by decide +kernel
theorem d_C_takeList_14 : decode b_C_takeList 14 = .ok (.aload_n 0, 1) := by decide +kernel
theorem d_C_takeList_15 : decode b_C_takeList 15 = .ok (.iload_n 1, 1) := by decide +kernel
theorem d_C_takeList_16 : decode b_C_takeList 16 = .ok (.invokevirtual 168, 3) := by decide +kernel
theorem d_C_takeList_19 : decode b_C_takeList 19 = .ok (.astore_n 3, 1) := by decide +kernel
theorem d_C_takeList_20 : decode b_C_takeList 20 = .ok (.iload_n 2, 1) := by decide +kernel
theorem d_C_takeList_21 : decode b_C_takeList 21 = .ok (.ifCond .ne 30, 3) := by decide +kernel
theorem d_C_takeList_24 : decode b_C_takeList 24 = .ok (.aload_n 3, 1) := by decide +kernel
theorem d_C_takeList_25 : decode b_C_takeList 25 = .ok (.ifnull 22, 3) := by decide +kernel
theorem d_C_takeList_28 : decode b_C_takeList 28 = .ok (.aload_n 3, 1) := by decide +kernel
theorem d_C_takeList_29 : decode b_C_takeList 29 = .ok (.getfield 171, 3) := by decide +kernel
theorem d_C_takeList_32 : decode b_C_takeList 32 = .ok (.invokevirtual 126, 3) := by decide +kernel
theorem d_C_takeList_35 : decode b_C_takeList 35 = .ok (.aload_n 0, 1) := by decide +kernel
theorem d_C_takeList_36 : decode b_C_takeList 36 = .ok (.getfield 28, 3) := by decide +kernel
theorem d_C_takeList_39 : decode b_C_takeList 39 = .ok (.aload_n 3, 1) := by decide +kernel
theorem d_C_takeList_40 : decode b_C_takeList 40 = .ok (.getfield 192, 3) := by decide +kernel
theorem d_C_takeList_43 : decode b_C_takeList 43 = .ok (.iaload, 1) := by decide +kernel
theorem d_C_takeList_44 : decode b_C_takeList 44 = .ok (.if_icmp .ne 7, 3) := by decide +kernel
theorem d_C_takeList_47 : decode b_C_takeList 47 = .ok (.iconst 1, 1) := by decide +kernel
theorem d_C_takeList_48 : decode b_C_takeList 48 = .ok (.goto 4, 3) := by decide +kernel
theorem d_C_takeList_51 : decode b_C_takeList 51 = .ok (.iconst 0, 1) := by decide +kernel
theorem d_C_takeList_52 : decode b_C_takeList 52 = .ok (.ireturn, 1) := by decide +kernel
theorem d_C_hasRoom_0 : decode b_C_hasRoom 0 = .ok (.aload_n 0, 1) := by decide +kernel
theorem d_C_hasRoom_1 : decode b_C_hasRoom 1 = .ok (.getfield 18, 3) := by decide +kernel
theorem d_C_hasRoom_4 : decode b_C_hasRoom 4 = .ok (.invokevirtual 126, 3) := by decide +kernel
theorem d_C_hasRoom_7 : decode b_C_hasRoom 7 = .ok (.iload_n 2, 1) := by decide +kernel
theorem d_C_hasRoom_8 : decode b_C_hasRoom 8 = .ok (.iadd, 1) := by decide +kernel
theorem d_C_hasRoom_9 : decode b_C_hasRoom 9 = .ok (.sipush 8192, 3) := by decide +kernel
theorem d_C_hasRoom_12 : decode b_C_hasRoom 12 = .ok (.if_icmp .gt 24, 3) := by decide +kernel
theorem d_C_hasRoom_15 : decode b_C_hasRoom 15 = .ok (.aload_n 0, 1) := by decide +kernel
theorem d_C_hasRoom_16 : decode b_C_hasRoom 16 = .ok (.getfield 44, 3) := by decide +kernel
theorem d_C_hasRoom_19 : decode b_C_hasRoom 19 = .ok (.bipush 16, 2) := by decide +kernel
theorem d_C_hasRoom_21 : decode b_C_hasRoom 21 = .ok (.if_icmp .lt 11, 3) := by decide +kernel
theorem d_C_hasRoom_24 : decode b_C_hasRoom 24 = .ok (.aload_n 0, 1) := by decide +kernel
theorem d_C_hasRoom_25 : decode b_C_hasRoom 25 = .ok (.iload_n 1, 1) := by decide +kernel
theorem d_C_hasRoom_26 : decode b_C_hasRoom 26 = .ok (.invokevirtual 168, 3) := by decide +kernel
theorem d_C_hasRoom_29 : decode b_C_hasRoom 29 = .ok (.ifnull 7, 3) := by decide +kernel
theorem d_C_hasRoom_32 : decode b_C_hasRoom 32 = .ok (.iconst 1, 1) := by decide +kernel
theorem d_C_hasRoom_33 : decode b_C_hasRoom 33 = .ok (.goto 4, 3) := by decide +kernel
theorem d_C_hasRoom_36 : decode b_C_hasRoom 36 = .ok (.iconst 0, 1) := by decide +kernel
theorem d_C_hasRoom_37 : decode b_C_hasRoom 37 = .ok (.ireturn, 1) := by decide +kernel
theorem d_C_authorNamed_0 : decode b_C_authorNamed 0 = .ok (.aload_n 0, 1) := by decide +kernel
theorem d_C_authorNamed_1 : decode b_C_authorNamed 1 = .ok (.iload_n 1, 1) := by decide +kernel
theorem d_C_authorNamed_2 : decode b_C_authorNamed 2 = .ok (.invokevirtual 168, 3) := by decide +kernel
theorem d_C_authorNamed_5 : decode b_C_authorNamed 5 = .ok (.astore_n 2, 1) := by decide +kernel
theorem d_C_authorNamed_6 : decode b_C_authorNamed 6 = .ok (.aload_n 2, 1) := by decide +kernel
theorem d_C_authorNamed_7 : decode b_C_authorNamed 7 = .ok (.ifnonnull 36, 3) := by decide +kernel
theorem d_C_authorNamed_10 : decode b_C_authorNamed 10 = .ok (.new 9, 3) := by decide +kernel
theorem d_C_authorNamed_13 : decode b_C_authorNamed 13 = .ok (.dup, 1) := by decide +kernel
theorem d_C_authorNamed_14 : decode b_C_authorNamed 14 = .ok (.iload_n 1, 1) := by decide +kernel
theorem d_C_authorNamed_15 : decode b_C_authorNamed 15 = .ok (.aload_n 0, 1) := by decide +kernel
theorem d_C_authorNamed_16 : decode b_C_authorNamed 16 = .ok (.getfield 44, 3) := by decide +kernel
theorem d_C_authorNamed_19 : decode b_C_authorNamed 19 = .ok (.invokespecial 34, 3) := by decide +kernel
theorem d_C_authorNamed_22 : decode b_C_authorNamed 22 = .ok (.astore_n 2, 1) := by decide +kernel
theorem d_C_authorNamed_23 : decode b_C_authorNamed 23 = .ok (.aload_n 0, 1) := by decide +kernel
theorem d_C_authorNamed_24 : decode b_C_authorNamed 24 = .ok (.getfield 11, 3) := by decide +kernel
theorem d_C_authorNamed_27 : decode b_C_authorNamed 27 = .ok (.aload_n 0, 1) := by decide +kernel
theorem d_C_authorNamed_28 : decode b_C_authorNamed 28 = .ok (.getfield 44, 3) := by decide +kernel
theorem d_C_authorNamed_31 : decode b_C_authorNamed 31 = .ok (.aload_n 2, 1) := by decide +kernel
theorem d_C_authorNamed_32 : decode b_C_authorNamed 32 = .ok (.aastore, 1) := by decide +kernel
theorem d_C_authorNamed_33 : decode b_C_authorNamed 33 = .ok (.aload_n 0, 1) := by decide +kernel
theorem d_C_authorNamed_34 : decode b_C_authorNamed 34 = .ok (.dup, 1) := by decide +kernel
theorem d_C_authorNamed_35 : decode b_C_authorNamed 35 = .ok (.getfield 44, 3) := by decide +kernel
theorem d_C_authorNamed_38 : decode b_C_authorNamed 38 = .ok (.iconst 1, 1) := by decide +kernel
theorem d_C_authorNamed_39 : decode b_C_authorNamed 39 = .ok (.iadd, 1) := by decide +kernel
theorem d_C_authorNamed_40 : decode b_C_authorNamed 40 = .ok (.putfield 44, 3) := by decide +kernel
theorem d_C_authorNamed_43 : decode b_C_authorNamed 43 = .ok (.aload_n 2, 1) := by decide +kernel
theorem d_C_authorNamed_44 : decode b_C_authorNamed 44 = .ok (.areturn, 1) := by decide +kernel
theorem d_C_weaveIn_0 : decode b_C_weaveIn 0 = .ok (.aload_n 0, 1) := by decide +kernel
theorem d_C_weaveIn_1 : decode b_C_weaveIn 1 = .ok (.getfield 28, 3) := by decide +kernel
theorem d_C_weaveIn_4 : decode b_C_weaveIn 4 = .ok (.invokevirtual 206, 3) := by decide +kernel
theorem d_C_weaveIn_7 : decode b_C_weaveIn 7 = .ok (.checkcast 207, 3) := by decide +kernel
theorem d_C_weaveIn_10 : decode b_C_weaveIn 10 = .ok (.astore 5, 2) := by decide +kernel
theorem d_C_weaveIn_12 : decode b_C_weaveIn 12 = .ok (.aload_n 0, 1) := by decide +kernel
theorem d_C_weaveIn_13 : decode b_C_weaveIn 13 = .ok (.iload_n 2, 1) := by decide +kernel
theorem d_C_weaveIn_14 : decode b_C_weaveIn 14 = .ok (.invokevirtual 211, 3) := by decide +kernel
theorem d_C_weaveIn_17 : decode b_C_weaveIn 17 = .ok (.astore 6, 2) := by decide +kernel
theorem d_C_weaveIn_19 : decode b_C_weaveIn 19 = .ok (.iconst 0, 1) := by decide +kernel
theorem d_C_weaveIn_20 : decode b_C_weaveIn 20 = .ok (.istore 7, 2) := by decide +kernel
theorem d_C_weaveIn_22 : decode b_C_weaveIn 22 = .ok (.iload 7, 2) := by decide +kernel
theorem d_C_weaveIn_24 : decode b_C_weaveIn 24 = .ok (.iload 4, 2) := by decide +kernel
theorem d_C_weaveIn_26 : decode b_C_weaveIn 26 = .ok (.if_icmp .ge 58, 3) := by decide +kernel
theorem d_C_weaveIn_29 : decode b_C_weaveIn 29 = .ok (.aload 6, 2) := by decide +kernel
theorem d_C_weaveIn_31 : decode b_C_weaveIn 31 = .ok (.ifnull 53, 3) := by decide +kernel
theorem d_C_weaveIn_34 : decode b_C_weaveIn 34 = .ok (.new 32, 3) := by decide +kernel
theorem d_C_weaveIn_37 : decode b_C_weaveIn 37 = .ok (.dup, 1) := by decide +kernel
theorem d_C_weaveIn_38 : decode b_C_weaveIn 38 = .ok (.aload_n 1, 1) := by decide +kernel
theorem d_C_weaveIn_39 : decode b_C_weaveIn 39 = .ok (.aload 5, 2) := by decide +kernel
theorem d_C_weaveIn_41 : decode b_C_weaveIn 41 = .ok (.iload_n 3, 1) := by decide +kernel
theorem d_C_weaveIn_42 : decode b_C_weaveIn 42 = .ok (.iload 7, 2) := by decide +kernel
theorem d_C_weaveIn_44 : decode b_C_weaveIn 44 = .ok (.iadd, 1) := by decide +kernel
theorem d_C_weaveIn_45 : decode b_C_weaveIn 45 = .ok (.invokespecial 37, 3) := by decide +kernel
theorem d_C_weaveIn_48 : decode b_C_weaveIn 48 = .ok (.astore 8, 2) := by decide +kernel
theorem d_C_weaveIn_50 : decode b_C_weaveIn 50 = .ok (.aload_n 0, 1) := by decide +kernel
theorem d_C_weaveIn_51 : decode b_C_weaveIn 51 = .ok (.aload 8, 2) := by decide +kernel
theorem d_C_weaveIn_53 : decode b_C_weaveIn 53 = .ok (.aload 6, 2) := by decide +kernel
theorem d_C_weaveIn_55 : decode b_C_weaveIn 55 = .ok (.invokevirtual 215, 3) := by decide +kernel
theorem d_C_weaveIn_58 : decode b_C_weaveIn 58 = .ok (.aload_n 0, 1) := by decide +kernel
theorem d_C_weaveIn_59 : decode b_C_weaveIn 59 = .ok (.dup, 1) := by decide +kernel
theorem d_C_weaveIn_60 : decode b_C_weaveIn 60 = .ok (.getfield 51, 3) := by decide +kernel
theorem d_C_weaveIn_63 : decode b_C_weaveIn 63 = .ok (.iconst 1, 1) := by decide +kernel
theorem d_C_weaveIn_64 : decode b_C_weaveIn 64 = .ok (.iadd, 1) := by decide +kernel
theorem d_C_weaveIn_65 : decode b_C_weaveIn 65 = .ok (.putfield 51, 3) := by decide +kernel
theorem d_C_weaveIn_68 : decode b_C_weaveIn 68 = .ok (.aload_n 0, 1) := by decide +kernel
theorem d_C_weaveIn_69 : decode b_C_weaveIn 69 = .ok (.aload 8, 2) := by decide +kernel
theorem d_C_weaveIn_71 : decode b_C_weaveIn 71 = .ok (.invokevirtual 219, 3) := by decide +kernel
theorem d_C_weaveIn_74 : decode b_C_weaveIn 74 = .ok (.aload 8, 2) := by decide +kernel
theorem d_C_weaveIn_76 : decode b_C_weaveIn 76 = .ok (.astore 6, 2) := by decide +kernel
theorem d_C_weaveIn_78 : decode b_C_weaveIn 78 = .ok (.iinc 7 1, 3) := by decide +kernel
theorem d_C_weaveIn_81 : decode b_C_weaveIn 81 = .ok (.goto (-59), 3) := by decide +kernel
theorem d_C_weaveIn_84 : decode b_C_weaveIn 84 = .ok (.return_, 1) := by decide +kernel
theorem d_C_seenNode_0 : decode b_C_seenNode 0 = .ok (.aload_n 0, 1) := by decide +kernel
theorem d_C_seenNode_1 : decode b_C_seenNode 1 = .ok (.getfield 40, 3) := by decide +kernel
theorem d_C_seenNode_4 : decode b_C_seenNode 4 = .ok (.astore_n 2, 1) := by decide +kernel
theorem d_C_seenNode_5 : decode b_C_seenNode 5 = .ok (.iconst 0, 1) := by decide +kernel
theorem d_C_seenNode_6 : decode b_C_seenNode 6 = .ok (.istore_n 3, 1) := by decide +kernel
theorem d_C_seenNode_7 : decode b_C_seenNode 7 = .ok (.iload_n 3, 1) := by decide +kernel
theorem d_C_seenNode_8 : decode b_C_seenNode 8 = .ok (.iload_n 1, 1) := by decide +kernel
theorem d_C_seenNode_9 : decode b_C_seenNode 9 = .ok (.if_icmp .ge 19, 3) := by decide +kernel
theorem d_C_seenNode_12 : decode b_C_seenNode 12 = .ok (.aload_n 2, 1) := by decide +kernel
theorem d_C_seenNode_13 : decode b_C_seenNode 13 = .ok (.ifnull 15, 3) := by decide +kernel
theorem d_C_seenNode_16 : decode b_C_seenNode 16 = .ok (.aload_n 0, 1) := by decide +kernel
theorem d_C_seenNode_17 : decode b_C_seenNode 17 = .ok (.aload_n 2, 1) := by decide +kernel
theorem d_C_seenNode_18 : decode b_C_seenNode 18 = .ok (.invokevirtual 202, 3) := by decide +kernel
theorem d_C_seenNode_21 : decode b_C_seenNode 21 = .ok (.astore_n 2, 1) := by decide +kernel
theorem d_C_seenNode_22 : decode b_C_seenNode 22 = .ok (.iinc 3 1, 3) := by decide +kernel
theorem d_C_seenNode_25 : decode b_C_seenNode 25 = .ok (.goto (-18), 3) := by decide +kernel
theorem d_C_seenNode_28 : decode b_C_seenNode 28 = .ok (.aload_n 2, 1) := by decide +kernel
theorem d_C_seenNode_29 : decode b_C_seenNode 29 = .ok (.areturn, 1) := by decide +kernel
theorem d_C_hang_0 : decode b_C_hang 0 = .ok (.aload_n 2, 1) := by decide +kernel
theorem d_C_hang_1 : decode b_C_hang 1 = .ok (.aload_n 0, 1) := by decide +kernel
theorem d_C_hang_2 : decode b_C_hang 2 = .ok (.getfield 28, 3) := by decide +kernel
theorem d_C_hang_5 : decode b_C_hang 5 = .ok (.invokevirtual 222, 3) := by decide +kernel
theorem d_C_hang_8 : decode b_C_hang 8 = .ok (.ifCond .eq 11, 3) := by decide +kernel
theorem d_C_hang_11 : decode b_C_hang 11 = .ok (.aload_n 0, 1) := by decide +kernel
theorem d_C_hang_12 : decode b_C_hang 12 = .ok (.aload_n 2, 1) := by decide +kernel
theorem d_C_hang_13 : decode b_C_hang 13 = .ok (.invokevirtual 225, 3) := by decide +kernel
theorem d_C_hang_16 : decode b_C_hang 16 = .ok (.goto 4, 3) := by decide +kernel
theorem d_C_hang_19 : decode b_C_hang 19 = .ok (.aconst_null, 1) := by decide +kernel
theorem d_C_hang_20 : decode b_C_hang 20 = .ok (.astore_n 3, 1) := by decide +kernel
theorem d_C_hang_21 : decode b_C_hang 21 = .ok (.aload_n 3, 1) := by decide +kernel
theorem d_C_hang_22 : decode b_C_hang 22 = .ok (.ifnonnull 11, 3) := by decide +kernel
theorem d_C_hang_25 : decode b_C_hang 25 = .ok (.aload_n 2, 1) := by decide +kernel
theorem d_C_hang_26 : decode b_C_hang 26 = .ok (.aload_n 1, 1) := by decide +kernel
theorem d_C_hang_27 : decode b_C_hang 27 = .ok (.invokevirtual 228, 3) := by decide +kernel
theorem d_C_hang_30 : decode b_C_hang 30 = .ok (.goto 8, 3) := by decide +kernel
theorem d_C_hang_33 : decode b_C_hang 33 = .ok (.aload_n 3, 1) := by decide +kernel
theorem d_C_hang_34 : decode b_C_hang 34 = .ok (.aload_n 1, 1) := by decide +kernel
theorem d_C_hang_35 : decode b_C_hang 35 = .ok (.invokevirtual 232, 3) := by decide +kernel
theorem d_C_hang_38 : decode b_C_hang 38 = .ok (.return_, 1) := by decide +kernel
theorem d_N_hasRightIn_0 : decode b_N_hasRightIn 0 = .ok (.aload_n 0, 1) := by decide +kernel
theorem d_N_hasRightIn_1 : decode b_N_hasRightIn 1 = .ok (.getfield 36, 3) := by decide +kernel
theorem d_N_hasRightIn_4 : decode b_N_hasRightIn 4 = .ok (.astore_n 2, 1) := by decide +kernel
theorem d_N_hasRightIn_5 : decode b_N_hasRightIn 5 = .ok (.aload_n 2, 1) := by decide +kernel
theorem d_N_hasRightIn_6 : decode b_N_hasRightIn 6 = .ok (.ifnull 21, 3) := by decide +kernel
theorem d_N_hasRightIn_9 : decode b_N_hasRightIn 9 = .ok (.aload_n 2, 1) := by decide +kernel
theorem d_N_hasRightIn_10 : decode b_N_hasRightIn 10 = .ok (.aload_n 1, 1) := by decide +kernel
theorem d_N_hasRightIn_11 : decode b_N_hasRightIn 11 = .ok (.invokevirtual 19, 3) := by decide +kernel
theorem d_N_hasRightIn_14 : decode b_N_hasRightIn 14 = .ok (.ifCond .eq 5, 3) := by decide +kernel
theorem d_N_hasRightIn_17 : decode b_N_hasRightIn 17 = .ok (.iconst 1, 1) := by decide +kernel
theorem d_N_hasRightIn_18 : decode b_N_hasRightIn 18 = .ok (.ireturn, 1) := by decide +kernel
theorem d_N_hasRightIn_19 : decode b_N_hasRightIn 19 = .ok (.aload_n 2, 1) := by decide +kernel
theorem d_N_hasRightIn_20 : decode b_N_hasRightIn 20 = .ok (.getfield 40, 3) := by decide +kernel
theorem d_N_hasRightIn_23 : decode b_N_hasRightIn 23 = .ok (.astore_n 2, 1) := by decide +kernel
theorem d_N_hasRightIn_24 : decode b_N_hasRightIn 24 = .ok (.goto (-19), 3) := by decide +kernel
theorem d_N_hasRightIn_27 : decode b_N_hasRightIn 27 = .ok (.iconst 0, 1) := by decide +kernel
theorem d_N_hasRightIn_28 : decode b_N_hasRightIn 28 = .ok (.ireturn, 1) := by decide +kernel
theorem d_C_nextKnown_0 : decode b_C_nextKnown 0 = .ok (.aload_n 1, 1) := by decide +kernel
theorem d_C_nextKnown_1 : decode b_C_nextKnown 1 = .ok (.getfield 159, 3) := by decide +kernel
theorem d_C_nextKnown_4 : decode b_C_nextKnown 4 = .ok (.astore_n 2, 1) := by decide +kernel
theorem d_C_nextKnown_5 : decode b_C_nextKnown 5 = .ok (.aload_n 2, 1) := by decide +kernel
theorem d_C_nextKnown_6 : decode b_C_nextKnown 6 = .ok (.ifnull 24, 3) := by decide +kernel
theorem d_C_nextKnown_9 : decode b_C_nextKnown 9 = .ok (.aload_n 2, 1) := by decide +kernel
theorem d_C_nextKnown_10 : decode b_C_nextKnown 10 = .ok (.aload_n 0, 1) := by decide +kernel
theorem d_C_nextKnown_11 : decode b_C_nextKnown 11 = .ok (.getfield 28, 3) := by decide +kernel
theorem d_C_nextKnown_14 : decode b_C_nextKnown 14 = .ok (.invokevirtual 199, 3) := by decide +kernel
theorem d_C_nextKnown_17 : decode b_C_nextKnown 17 = .ok (.ifCond .eq 5, 3) := by decide +kernel
theorem d_C_nextKnown_20 : decode b_C_nextKnown 20 = .ok (.aload_n 2, 1) := by decide +kernel
theorem d_C_nextKnown_21 : decode b_C_nextKnown 21 = .ok (.areturn, 1) := by decide +kernel
theorem d_C_nextKnown_22 : decode b_C_nextKnown 22 = .ok (.aload_n 2, 1) := by decide +kernel
theorem d_C_nextKnown_23 : decode b_C_nextKnown 23 = .ok (.getfield 159, 3) := by decide +kernel
theorem d_C_nextKnown_26 : decode b_C_nextKnown 26 = .ok (.astore_n 2, 1) := by decide +kernel
theorem d_C_nextKnown_27 : decode b_C_nextKnown 27 = .ok (.goto (-22), 3) := by decide +kernel
theorem d_C_nextKnown_30 : decode b_C_nextKnown 30 = .ok (.aconst_null, 1) := by decide +kernel
theorem d_C_nextKnown_31 : decode b_C_nextKnown 31 = .ok (.areturn, 1) := by decide +kernel
theorem d_N_hangRight_0 : decode b_N_hangRight 0 = .ok (.aload_n 1, 1) := by decide +kernel
theorem d_N_hangRight_1 : decode b_N_hangRight 1 = .ok (.aload_n 0, 1) := by decide +kernel
theorem d_N_hangRight_2 : decode b_N_hangRight 2 = .ok (.getfield 36, 3) := by decide +kernel
theorem d_N_hangRight_5 : decode b_N_hangRight 5 = .ok (.invokevirtual 43, 3) := by decide +kernel
theorem d_N_hangRight_8 : decode b_N_hangRight 8 = .ok (.astore_n 2, 1) := by decide +kernel
theorem d_N_hangRight_9 : decode b_N_hangRight 9 = .ok (.aload_n 2, 1) := by decide +kernel
theorem d_N_hangRight_10 : decode b_N_hangRight 10 = .ok (.ifnonnull 24, 3) := by decide +kernel
theorem d_N_hangRight_13 : decode b_N_hangRight 13 = .ok (.aload_n 0, 1) := by decide +kernel
theorem d_N_hangRight_14 : decode b_N_hangRight 14 = .ok (.aload_n 1, 1) := by decide +kernel
theorem d_N_hangRight_15 : decode b_N_hangRight 15 = .ok (.invokevirtual 47, 3) := by decide +kernel
theorem d_N_hangRight_18 : decode b_N_hangRight 18 = .ok (.aload_n 1, 1) := by decide +kernel
theorem d_N_hangRight_19 : decode b_N_hangRight 19 = .ok (.aload_n 0, 1) := by decide +kernel
theorem d_N_hangRight_20 : decode b_N_hangRight 20 = .ok (.getfield 36, 3) := by decide +kernel
theorem d_N_hangRight_23 : decode b_N_hangRight 23 = .ok (.putfield 40, 3) := by decide +kernel
theorem d_N_hangRight_26 : decode b_N_hangRight 26 = .ok (.aload_n 0, 1) := by decide +kernel
theorem d_N_hangRight_27 : decode b_N_hangRight 27 = .ok (.aload_n 1, 1) := by decide +kernel
theorem d_N_hangRight_28 : decode b_N_hangRight 28 = .ok (.putfield 36, 3) := by decide +kernel
theorem d_N_hangRight_31 : decode b_N_hangRight 31 = .ok (.goto 8, 3) := by decide +kernel
theorem d_N_hangRight_34 : decode b_N_hangRight 34 = .ok (.aload_n 2, 1) := by decide +kernel
theorem d_N_hangRight_35 : decode b_N_hangRight 35 = .ok (.aload_n 1, 1) := by decide +kernel
theorem d_N_hangRight_36 : decode b_N_hangRight 36 = .ok (.invokevirtual 51, 3) := by decide +kernel
theorem d_N_hangRight_39 : decode b_N_hangRight 39 = .ok (.return_, 1) := by decide +kernel
theorem d_N_lastSmaller_0 : decode b_N_lastSmaller 0 = .ok (.aconst_null, 1) := by decide +kernel
theorem d_N_lastSmaller_1 : decode b_N_lastSmaller 1 = .ok (.astore_n 2, 1) := by decide +kernel
theorem d_N_lastSmaller_2 : decode b_N_lastSmaller 2 = .ok (.aload_n 1, 1) := by decide +kernel
theorem d_N_lastSmaller_3 : decode b_N_lastSmaller 3 = .ok (.astore_n 3, 1) := by decide +kernel
theorem d_N_lastSmaller_4 : decode b_N_lastSmaller 4 = .ok (.aload_n 3, 1) := by decide +kernel
theorem d_N_lastSmaller_5 : decode b_N_lastSmaller 5 = .ok (.ifnull 21, 3) := by decide +kernel
theorem d_N_lastSmaller_8 : decode b_N_lastSmaller 8 = .ok (.aload_n 3, 1) := by decide +kernel
theorem d_N_lastSmaller_9 : decode b_N_lastSmaller 9 = .ok (.aload_n 0, 1) := by decide +kernel
theorem d_N_lastSmaller_10 : decode b_N_lastSmaller 10 = .ok (.invokevirtual 64, 3) := by decide +kernel
theorem d_N_lastSmaller_13 : decode b_N_lastSmaller 13 = .ok (.ifCond .eq 5, 3) := by decide +kernel
theorem d_N_lastSmaller_16 : decode b_N_lastSmaller 16 = .ok (.aload_n 3, 1) := by decide +kernel
theorem d_N_lastSmaller_17 : decode b_N_lastSmaller 17 = .ok (.astore_n 2, 1) := by decide +kernel
theorem d_N_lastSmaller_18 : decode b_N_lastSmaller 18 = .ok (.aload_n 3, 1) := by decide +kernel
theorem d_N_lastSmaller_19 : decode b_N_lastSmaller 19 = .ok (.getfield 40, 3) := by decide +kernel
theorem d_N_lastSmaller_22 : decode b_N_lastSmaller 22 = .ok (.astore_n 3, 1) := by decide +kernel
theorem d_N_lastSmaller_23 : decode b_N_lastSmaller 23 = .ok (.goto (-19), 3) := by decide +kernel
theorem d_N_lastSmaller_26 : decode b_N_lastSmaller 26 = .ok (.aload_n 2, 1) := by decide +kernel
theorem d_N_lastSmaller_27 : decode b_N_lastSmaller 27 = .ok (.areturn, 1) := by decide +kernel
theorem d_E_hasSmallerIdThan_0 : decode b_E_hasSmallerIdThan 0 = .ok (.aload_n 0, 1) := by decide +kernel
theorem d_E_hasSmallerIdThan_1 : decode b_E_hasSmallerIdThan 1 = .ok (.getfield 9, 3) := by decide +kernel
theorem d_E_hasSmallerIdThan_4 : decode b_E_hasSmallerIdThan 4 = .ok (.aload_n 1, 1) := by decide +kernel
theorem d_E_hasSmallerIdThan_5 : decode b_E_hasSmallerIdThan 5 = .ok (.getfield 9, 3) := by decide +kernel
theorem d_E_hasSmallerIdThan_8 : decode b_E_hasSmallerIdThan 8 = .ok (.if_acmp .ne 22, 3) := by decide +kernel
theorem d_E_hasSmallerIdThan_11 : decode b_E_hasSmallerIdThan 11 = .ok (.aload_n 0, 1) := by decide +kernel
theorem d_E_hasSmallerIdThan_12 : decode b_E_hasSmallerIdThan 12 = .ok (.getfield 27, 3) := by decide +kernel
theorem d_E_hasSmallerIdThan_15 : decode b_E_hasSmallerIdThan 15 = .ok (.aload_n 1, 1) := by decide +kernel
theorem d_E_hasSmallerIdThan_16 : decode b_E_hasSmallerIdThan 16 = .ok (.getfield 27, 3) := by decide +kernel
theorem d_E_hasSmallerIdThan_19 : decode b_E_hasSmallerIdThan 19 = .ok (.if_icmp .ge 7, 3) := by decide +kernel
theorem d_E_hasSmallerIdThan_22 : decode b_E_hasSmallerIdThan 22 = .ok (.iconst 1, 1) := by decide +kernel
theorem d_E_hasSmallerIdThan_23 : decode b_E_hasSmallerIdThan 23 = .ok (.goto 29, 3) := by decide +kernel
theorem d_E_hasSmallerIdThan_26 : decode b_E_hasSmallerIdThan 26 = .ok (.iconst 0, 1) := by decide +kernel
theorem d_E_hasSmallerIdThan_27 : decode b_E_hasSmallerIdThan 27 = .ok (.goto 25, 3) := by decide +kernel
theorem d_E_hasSmallerIdThan_30 : decode b_E_hasSmallerIdThan 30 = .ok (.aload_n 0, 1) := by decide +kernel
theorem d_E_hasSmallerIdThan_31 : decode b_E_hasSmallerIdThan 31 = .ok (.getfield 9, 3) := by decide +kernel
theorem d_E_hasSmallerIdThan_34 : decode b_E_hasSmallerIdThan 34 = .ok (.getfield 42, 3) := by decide +kernel
theorem d_E_hasSmallerIdThan_37 : decode b_E_hasSmallerIdThan 37 = .ok (.aload_n 1, 1) := by decide +kernel
theorem d_E_hasSmallerIdThan_38 : decode b_E_hasSmallerIdThan 38 = .ok (.getfield 9, 3) := by decide +kernel
theorem d_E_hasSmallerIdThan_41 : decode b_E_hasSmallerIdThan 41 = .ok (.getfield 42, 3) := by decide +kernel
theorem d_E_hasSmallerIdThan_44 : decode b_E_hasSmallerIdThan 44 = .ok (.if_icmp .ge 7, 3) := by decide +kernel
theorem d_E_hasSmallerIdThan_47 : decode b_E_hasSmallerIdThan 47 = .ok (.iconst 1, 1) := by decide +kernel
theorem d_E_hasSmallerIdThan_48 : decode b_E_hasSmallerIdThan 48 = .ok (.goto 4, 3) := by decide +kernel
theorem d_E_hasSmallerIdThan_51 : decode b_E_hasSmallerIdThan 51 = .ok (.iconst 0, 1) := by decide +kernel
theorem d_E_hasSmallerIdThan_52 : decode b_E_hasSmallerIdThan 52 = .ok (.ireturn, 1) := by decide +kernel
theorem d_N_putBehind_0 : decode b_N_putBehind 0 = .ok (.aload_n 1, 1) := by decide +kernel
theorem d_N_putBehind_1 : decode b_N_putBehind 1 = .ok (.aload_n 0, 1) := by decide +kernel
theorem d_N_putBehind_2 : decode b_N_putBehind 2 = .ok (.putfield 74, 3) := by decide +kernel
theorem d_N_putBehind_5 : decode b_N_putBehind 5 = .ok (.aload_n 1, 1) := by decide +kernel
theorem d_N_putBehind_6 : decode b_N_putBehind 6 = .ok (.aload_n 0, 1) := by decide +kernel
theorem d_N_putBehind_7 : decode b_N_putBehind 7 = .ok (.getfield 77, 3) := by decide +kernel
theorem d_N_putBehind_10 : decode b_N_putBehind 10 = .ok (.putfield 77, 3) := by decide +kernel
theorem d_N_putBehind_13 : decode b_N_putBehind 13 = .ok (.aload_n 0, 1) := by decide +kernel
theorem d_N_putBehind_14 : decode b_N_putBehind 14 = .ok (.getfield 77, 3) := by decide +kernel
theorem d_N_putBehind_17 : decode b_N_putBehind 17 = .ok (.ifnull 11, 3) := by decide +kernel
theorem d_N_putBehind_20 : decode b_N_putBehind 20 = .ok (.aload_n 0, 1) := by decide +kernel
theorem d_N_putBehind_21 : decode b_N_putBehind 21 = .ok (.getfield 77, 3) := by decide +kernel
theorem d_N_putBehind_24 : decode b_N_putBehind 24 = .ok (.aload_n 1, 1) := by decide +kernel
theorem d_N_putBehind_25 : decode b_N_putBehind 25 = .ok (.putfield 74, 3) := by decide +kernel
theorem d_N_putBehind_28 : decode b_N_putBehind 28 = .ok (.aload_n 0, 1) := by decide +kernel
theorem d_N_putBehind_29 : decode b_N_putBehind 29 = .ok (.aload_n 1, 1) := by decide +kernel
theorem d_N_putBehind_30 : decode b_N_putBehind 30 = .ok (.putfield 77, 3) := by decide +kernel
theorem d_N_putBehind_33 : decode b_N_putBehind 33 = .ok (.return_, 1) := by decide +kernel
theorem d_N_takeNextSibling_0 : decode b_N_takeNextSibling 0 = .ok (.aload_n 0, 1) := by decide +kernel
theorem d_N_takeNextSibling_1 : decode b_N_takeNextSibling 1 = .ok (.invokevirtual 68, 3) := by decide +kernel
theorem d_N_takeNextSibling_4 : decode b_N_takeNextSibling 4 = .ok (.aload_n 1, 1) := by decide +kernel
theorem d_N_takeNextSibling_5 : decode b_N_takeNextSibling 5 = .ok (.invokevirtual 47, 3) := by decide +kernel
theorem d_N_takeNextSibling_8 : decode b_N_takeNextSibling 8 = .ok (.aload_n 1, 1) := by decide +kernel
theorem d_N_takeNextSibling_9 : decode b_N_takeNextSibling 9 = .ok (.aload_n 0, 1) := by decide +kernel
theorem d_N_takeNextSibling_10 : decode b_N_takeNextSibling 10 = .ok (.getfield 40, 3) := by decide +kernel
theorem d_N_takeNextSibling_13 : decode b_N_takeNextSibling 13 = .ok (.putfield 40, 3) := by decide +kernel
theorem d_N_takeNextSibling_16 : decode b_N_takeNextSibling 16 = .ok (.aload_n 0, 1) := by decide +kernel
theorem d_N_takeNextSibling_17 : decode b_N_takeNextSibling 17 = .ok (.aload_n 1, 1) := by decide +kernel
theorem d_N_takeNextSibling_18 : decode b_N_takeNextSibling 18 = .ok (.putfield 40, 3) := by decide +kernel
theorem d_N_takeNextSibling_21 : decode b_N_takeNextSibling 21 = .ok (.return_, 1) := by decide +kernel
theorem d_N_lastBelow_0 : decode b_N_lastBelow 0 = .ok (.aload_n 0, 1) := by decide +kernel
theorem d_N_lastBelow_1 : decode b_N_lastBelow 1 = .ok (.astore_n 1, 1) := by decide +kernel
theorem d_N_lastBelow_2 : decode b_N_lastBelow 2 = .ok (.aload_n 0, 1) := by decide +kernel
theorem d_N_lastBelow_3 : decode b_N_lastBelow 3 = .ok (.getfield 36, 3) := by decide +kernel
theorem d_N_lastBelow_6 : decode b_N_lastBelow 6 = .ok (.astore_n 2, 1) := by decide +kernel
theorem d_N_lastBelow_7 : decode b_N_lastBelow 7 = .ok (.aload_n 2, 1) := by decide +kernel
theorem d_N_lastBelow_8 : decode b_N_lastBelow 8 = .ok (.ifnull 16, 3) := by decide +kernel
theorem d_N_lastBelow_11 : decode b_N_lastBelow 11 = .ok (.aload_n 2, 1) := by decide +kernel
theorem d_N_lastBelow_12 : decode b_N_lastBelow 12 = .ok (.invokevirtual 71, 3) := by decide +kernel
theorem d_N_lastBelow_15 : decode b_N_lastBelow 15 = .ok (.astore_n 1, 1) := by decide +kernel
theorem d_N_lastBelow_16 : decode b_N_lastBelow 16 = .ok (.aload_n 1, 1) := by decide +kernel
theorem d_N_lastBelow_17 : decode b_N_lastBelow 17 = .ok (.getfield 36, 3) := by decide +kernel
theorem d_N_lastBelow_20 : decode b_N_lastBelow 20 = .ok (.astore_n 2, 1) := by decide +kernel
theorem d_N_lastBelow_21 : decode b_N_lastBelow 21 = .ok (.goto (-14), 3) := by decide +kernel
theorem d_N_lastBelow_24 : decode b_N_lastBelow 24 = .ok (.aload_n 1, 1) := by decide +kernel
theorem d_N_lastBelow_25 : decode b_N_lastBelow 25 = .ok (.areturn, 1) := by decide +kernel
theorem d_N_lastSibling_0 : decode b_N_lastSibling 0 = .ok (.aload_n 0, 1) := by decide +kernel
theorem d_N_lastSibling_1 : decode b_N_lastSibling 1 = .ok (.astore_n 1, 1) := by decide +kernel
theorem d_N_lastSibling_2 : decode b_N_lastSibling 2 = .ok (.aload_n 1, 1) := by decide +kernel
theorem d_N_lastSibling_3 : decode b_N_lastSibling 3 = .ok (.getfield 40, 3) := by decide +kernel
theorem d_N_lastSibling_6 : decode b_N_lastSibling 6 = .ok (.ifnull 11, 3) := by decide +kernel
theorem d_N_lastSibling_9 : decode b_N_lastSibling 9 = .ok (.aload_n 1, 1) := by decide +kernel
theorem d_N_lastSibling_10 : decode b_N_lastSibling 10 = .ok (.getfield 40, 3) := by decide +kernel
theorem d_N_lastSibling_13 : decode b_N_lastSibling 13 = .ok (.astore_n 1, 1) := by decide +kernel
theorem d_N_lastSibling_14 : decode b_N_lastSibling 14 = .ok (.goto (-12), 3) := by decide +kernel
theorem d_N_lastSibling_17 : decode b_N_lastSibling 17 = .ok (.aload_n 1, 1) := by decide +kernel
theorem d_N_lastSibling_18 : decode b_N_lastSibling 18 = .ok (.areturn, 1) := by decide +kernel
theorem d_N_hangLeft_0 : decode b_N_hangLeft 0 = .ok (.aload_n 1, 1) := by decide +kernel
theorem d_N_hangLeft_1 : decode b_N_hangLeft 1 = .ok (.aload_n 0, 1) := by decide +kernel
theorem d_N_hangLeft_2 : decode b_N_hangLeft 2 = .ok (.getfield 54, 3) := by decide +kernel
theorem d_N_hangLeft_5 : decode b_N_hangLeft 5 = .ok (.invokevirtual 43, 3) := by decide +kernel
theorem d_N_hangLeft_8 : decode b_N_hangLeft 8 = .ok (.astore_n 2, 1) := by decide +kernel
theorem d_N_hangLeft_9 : decode b_N_hangLeft 9 = .ok (.aload_n 2, 1) := by decide +kernel
theorem d_N_hangLeft_10 : decode b_N_hangLeft 10 = .ok (.ifnonnull 27, 3) := by decide +kernel
theorem d_N_hangLeft_13 : decode b_N_hangLeft 13 = .ok (.aload_n 0, 1) := by decide +kernel
theorem d_N_hangLeft_14 : decode b_N_hangLeft 14 = .ok (.invokevirtual 57, 3) := by decide +kernel
theorem d_N_hangLeft_17 : decode b_N_hangLeft 17 = .ok (.aload_n 1, 1) := by decide +kernel
theorem d_N_hangLeft_18 : decode b_N_hangLeft 18 = .ok (.invokevirtual 61, 3) := by decide +kernel
theorem d_N_hangLeft_21 : decode b_N_hangLeft 21 = .ok (.aload_n 1, 1) := by decide +kernel
theorem d_N_hangLeft_22 : decode b_N_hangLeft 22 = .ok (.aload_n 0, 1) := by decide +kernel
theorem d_N_hangLeft_23 : decode b_N_hangLeft 23 = .ok (.getfield 54, 3) := by decide +kernel
theorem d_N_hangLeft_26 : decode b_N_hangLeft 26 = .ok (.putfield 40, 3) := by decide +kernel
theorem d_N_hangLeft_29 : decode b_N_hangLeft 29 = .ok (.aload_n 0, 1) := by decide +kernel
