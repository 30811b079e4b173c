theorem d_N_hangLeft_30 : decode b_N_hangLeft 30 = .ok (.aload_n 1, 1) := by decide +kernel
theorem d_N_hangLeft_31 : decode b_N_hangLeft 31 = .ok (.putfield 54, 3) := by decide +kernel
theorem d_N_hangLeft_34 : decode b_N_hangLeft 34 = .ok (.goto 8, 3) := by decide +kernel
theorem d_N_hangLeft_37 : decode b_N_hangLeft 37 = .ok (.aload_n 2, 1) := by decide +kernel
theorem d_N_hangLeft_38 : decode b_N_hangLeft 38 = .ok (.aload_n 1, 1) := by decide +kernel
theorem d_N_hangLeft_39 : decode b_N_hangLeft 39 = .ok (.invokevirtual 51, 3) := by decide +kernel
theorem d_N_hangLeft_42 : decode b_N_hangLeft 42 = .ok (.return_, 1) := by decide +kernel
theorem d_N_firstBelow_0 : decode b_N_firstBelow 0 = .ok (.aload_n 0, 1) := by decide +kernel
theorem d_N_firstBelow_1 : decode b_N_firstBelow 1 = .ok (.astore_n 1, 1) := by decide +kernel
theorem d_N_firstBelow_2 : decode b_N_firstBelow 2 = .ok (.aload_n 1, 1) := by decide +kernel
theorem d_N_firstBelow_3 : decode b_N_firstBelow 3 = .ok (.getfield 54, 3) := by decide +kernel
theorem d_N_firstBelow_6 : decode b_N_firstBelow 6 = .ok (.ifnull 11, 3) := by decide +kernel
theorem d_N_firstBelow_9 : decode b_N_firstBelow 9 = .ok (.aload_n 1, 1) := by decide +kernel
theorem d_N_firstBelow_10 : decode b_N_firstBelow 10 = .ok (.getfield 54, 3) := by decide +kernel
theorem d_N_firstBelow_13 : decode b_N_firstBelow 13 = .ok (.astore_n 1, 1) := by decide +kernel
theorem d_N_firstBelow_14 : decode b_N_firstBelow 14 = .ok (.goto (-12), 3) := by decide +kernel
theorem d_N_firstBelow_17 : decode b_N_firstBelow 17 = .ok (.aload_n 1, 1) := by decide +kernel
theorem d_N_firstBelow_18 : decode b_N_firstBelow 18 = .ok (.areturn, 1) := by decide +kernel
theorem d_N_putBefore_0 : decode b_N_putBefore 0 = .ok (.aload_n 0, 1) := by decide +kernel
theorem d_N_putBefore_1 : decode b_N_putBefore 1 = .ok (.getfield 74, 3) := by decide +kernel
theorem d_N_putBefore_4 : decode b_N_putBefore 4 = .ok (.ifnull 11, 3) := by decide +kernel
theorem d_N_putBefore_7 : decode b_N_putBefore 7 = .ok (.aload_n 0, 1) := by decide +kernel
theorem d_N_putBefore_8 : decode b_N_putBefore 8 = .ok (.getfield 74, 3) := by decide +kernel
theorem d_N_putBefore_11 : decode b_N_putBefore 11 = .ok (.aload_n 1, 1) := by decide +kernel
theorem d_N_putBefore_12 : decode b_N_putBefore 12 = .ok (.invokevirtual 47, 3) := by decide +kernel
theorem d_N_putBefore_15 : decode b_N_putBefore 15 = .ok (.return_, 1) := by decide +kernel
theorem d_C_keep_0 : decode b_C_keep 0 = .ok (.aload_n 1, 1) := by decide +kernel
theorem d_C_keep_1 : decode b_C_keep 1 = .ok (.aload_n 0, 1) := by decide +kernel
theorem d_C_keep_2 : decode b_C_keep 2 = .ok (.getfield 18, 3) := by decide +kernel
theorem d_C_keep_5 : decode b_C_keep 5 = .ok (.invokevirtual 126, 3) := by decide +kernel
theorem d_C_keep_8 : decode b_C_keep 8 = .ok (.putfield 250, 3) := by decide +kernel
theorem d_C_keep_11 : decode b_C_keep 11 = .ok (.aload_n 1, 1) := by decide +kernel
theorem d_C_keep_12 : decode b_C_keep 12 = .ok (.aload_n 0, 1) := by decide +kernel
theorem d_C_keep_13 : decode b_C_keep 13 = .ok (.getfield 51, 3) := by decide +kernel
theorem d_C_keep_16 : decode b_C_keep 16 = .ok (.putfield 253, 3) := by decide +kernel
theorem d_C_keep_19 : decode b_C_keep 19 = .ok (.aload_n 1, 1) := by decide +kernel
theorem d_C_keep_20 : decode b_C_keep 20 = .ok (.getfield 256, 3) := by decide +kernel
theorem d_C_keep_23 : decode b_C_keep 23 = .ok (.getfield 171, 3) := by decide +kernel
theorem d_C_keep_26 : decode b_C_keep 26 = .ok (.aload_n 1, 1) := by decide +kernel
theorem d_C_keep_27 : decode b_C_keep 27 = .ok (.invokevirtual 257, 3) := by decide +kernel
theorem d_C_keep_30 : decode b_C_keep 30 = .ok (.pop, 1) := by decide +kernel
theorem d_C_keep_31 : decode b_C_keep 31 = .ok (.aload_n 0, 1) := by decide +kernel
theorem d_C_keep_32 : decode b_C_keep 32 = .ok (.getfield 18, 3) := by decide +kernel
theorem d_C_keep_35 : decode b_C_keep 35 = .ok (.aload_n 1, 1) := by decide +kernel
theorem d_C_keep_36 : decode b_C_keep 36 = .ok (.invokevirtual 257, 3) := by decide +kernel
theorem d_C_keep_39 : decode b_C_keep 39 = .ok (.pop, 1) := by decide +kernel
theorem d_C_keep_40 : decode b_C_keep 40 = .ok (.return_, 1) := by decide +kernel
theorem d_AL_add1_0 : decode b_AL_add1 0 = .ok (.aload_n 0, 1) := by decide +kernel
theorem d_AL_add1_1 : decode b_AL_add1 1 = .ok (.dup, 1) := by decide +kernel
theorem d_AL_add1_2 : decode b_AL_add1 2 = .ok (.getfield 63, 3) := by decide +kernel
theorem d_AL_add1_5 : decode b_AL_add1 5 = .ok (.iconst 1, 1) := by decide +kernel
theorem d_AL_add1_6 : decode b_AL_add1 6 = .ok (.iadd, 1) := by decide +kernel
theorem d_AL_add1_7 : decode b_AL_add1 7 = .ok (.putfield 63, 3) := by decide +kernel
theorem d_AL_add1_10 : decode b_AL_add1 10 = .ok (.aload_n 0, 1) := by decide +kernel
theorem d_AL_add1_11 : decode b_AL_add1 11 = .ok (.aload_n 1, 1) := by decide +kernel
theorem d_AL_add1_12 : decode b_AL_add1 12 = .ok (.aload_n 0, 1) := by decide +kernel
theorem d_AL_add1_13 : decode b_AL_add1 13 = .ok (.getfield 9, 3) := by decide +kernel
theorem d_AL_add1_16 : decode b_AL_add1 16 = .ok (.aload_n 0, 1) := by decide +kernel
theorem d_AL_add1_17 : decode b_AL_add1 17 = .ok (.getfield 48, 3) := by decide +kernel
theorem d_AL_add1_20 : decode b_AL_add1 20 = .ok (.invokevirtual 131, 3) := by decide +kernel
theorem d_AL_add1_23 : decode b_AL_add1 23 = .ok (.iconst 1, 1) := by decide +kernel
theorem d_AL_add1_24 : decode b_AL_add1 24 = .ok (.ireturn, 1) := by decide +kernel
theorem d_AL_add3_0 : decode b_AL_add3 0 = .ok (.iload_n 3, 1) := by decide +kernel
theorem d_AL_add3_1 : decode b_AL_add3 1 = .ok (.aload_n 2, 1) := by decide +kernel
theorem d_AL_add3_2 : decode b_AL_add3 2 = .ok (.arraylength, 1) := by decide +kernel
theorem d_AL_add3_3 : decode b_AL_add3 3 = .ok (.if_icmp .ne 8, 3) := by decide +kernel
theorem d_AL_add3_6 : decode b_AL_add3 6 = .ok (.aload_n 0, 1) := by decide +kernel
theorem d_AL_add3_7 : decode b_AL_add3 7 = .ok (.invokevirtual 129, 3) := by decide +kernel
theorem d_AL_add3_10 : decode b_AL_add3 10 = .ok (.astore_n 2, 1) := by decide +kernel
theorem d_AL_add3_11 : decode b_AL_add3 11 = .ok (.aload_n 2, 1) := by decide +kernel
theorem d_AL_add3_12 : decode b_AL_add3 12 = .ok (.iload_n 3, 1) := by decide +kernel
theorem d_AL_add3_13 : decode b_AL_add3 13 = .ok (.aload_n 1, 1) := by decide +kernel
theorem d_AL_add3_14 : decode b_AL_add3 14 = .ok (.aastore, 1) := by decide +kernel
theorem d_AL_add3_15 : decode b_AL_add3 15 = .ok (.aload_n 0, 1) := by decide +kernel
theorem d_AL_add3_16 : decode b_AL_add3 16 = .ok (.iload_n 3, 1) := by decide +kernel
theorem d_AL_add3_17 : decode b_AL_add3 17 = .ok (.iconst 1, 1) := by decide +kernel
theorem d_AL_add3_18 : decode b_AL_add3 18 = .ok (.iadd, 1) := by decide +kernel
theorem d_AL_add3_19 : decode b_AL_add3 19 = .ok (.putfield 48, 3) := by decide +kernel
theorem d_AL_add3_22 : decode b_AL_add3 22 = .ok (.return_, 1) := by decide +kernel
theorem d_AL_grow0_0 : decode b_AL_grow0 0 = .ok (.aload_n 0, 1) := by decide +kernel
theorem d_AL_grow0_1 : decode b_AL_grow0 1 = .ok (.aload_n 0, 1) := by decide +kernel
theorem d_AL_grow0_2 : decode b_AL_grow0 2 = .ok (.getfield 48, 3) := by decide +kernel
theorem d_AL_grow0_5 : decode b_AL_grow0 5 = .ok (.iconst 1, 1) := by decide +kernel
theorem d_AL_grow0_6 : decode b_AL_grow0 6 = .ok (.iadd, 1) := by decide +kernel
theorem d_AL_grow0_7 : decode b_AL_grow0 7 = .ok (.invokevirtual 69, 3) := by decide +kernel
theorem d_AL_grow0_10 : decode b_AL_grow0 10 = .ok (.areturn, 1) := by decide +kernel
theorem d_AL_grow1_0 : decode b_AL_grow1 0 = .ok (.aload_n 0, 1) := by decide +kernel
theorem d_AL_grow1_1 : decode b_AL_grow1 1 = .ok (.getfield 9, 3) := by decide +kernel
theorem d_AL_grow1_4 : decode b_AL_grow1 4 = .ok (.arraylength, 1) := by decide +kernel
theorem d_AL_grow1_5 : decode b_AL_grow1 5 = .ok (.istore_n 2, 1) := by decide +kernel
theorem d_AL_grow1_6 : decode b_AL_grow1 6 = .ok (.iload_n 2, 1) := by decide +kernel
theorem d_AL_grow1_7 : decode b_AL_grow1 7 = .ok (.ifCond .gt 13, 3) := by decide +kernel
theorem d_AL_grow1_10 : decode b_AL_grow1 10 = .ok (.aload_n 0, 1) := by decide +kernel
theorem d_AL_grow1_11 : decode b_AL_grow1 11 = .ok (.getfield 9, 3) := by decide +kernel
theorem d_AL_grow1_14 : decode b_AL_grow1 14 = .ok (.getstatic 39, 3) := by decide +kernel
theorem d_AL_grow1_17 : decode b_AL_grow1 17 = .ok (.if_acmp .eq 28, 3) := by decide +kernel
theorem d_AL_grow1_20 : decode b_AL_grow1 20 = .ok (.iload_n 2, 1) := by decide +kernel
theorem d_AL_grow1_21 : decode b_AL_grow1 21 = .ok (.iload_n 1, 1) := by decide +kernel
theorem d_AL_grow1_22 : decode b_AL_grow1 22 = .ok (.iload_n 2, 1) := by decide +kernel
theorem d_AL_grow1_23 : decode b_AL_grow1 23 = .ok (.isub, 1) := by decide +kernel
theorem d_AL_grow1_24 : decode b_AL_grow1 24 = .ok (.iload_n 2, 1) := by decide +kernel
theorem d_AL_grow1_25 : decode b_AL_grow1 25 = .ok (.iconst 1, 1) := by decide +kernel
theorem d_AL_grow1_26 : decode b_AL_grow1 26 = .ok (.ishr, 1) := by decide +kernel
theorem d_AL_grow1_27 : decode b_AL_grow1 27 = .ok (.invokestatic 73, 3) := by decide +kernel
theorem d_AL_grow1_30 : decode b_AL_grow1 30 = .ok (.istore_n 3, 1) := by decide +kernel
theorem d_AL_grow1_31 : decode b_AL_grow1 31 = .ok (.aload_n 0, 1) := by decide +kernel
theorem d_AL_grow1_32 : decode b_AL_grow1 32 = .ok (.aload_n 0, 1) := by decide +kernel
theorem d_AL_grow1_33 : decode b_AL_grow1 33 = .ok (.getfield 9, 3) := by decide +kernel
theorem d_AL_grow1_36 : decode b_AL_grow1 36 = .ok (.iload_n 3, 1) := by decide +kernel
theorem d_AL_grow1_37 : decode b_AL_grow1 37 = .ok (.invokestatic 66, 3) := by decide +kernel
theorem d_AL_grow1_40 : decode b_AL_grow1 40 = .ok (.dup_x1, 1) := by decide +kernel
theorem d_AL_grow1_41 : decode b_AL_grow1 41 = .ok (.putfield 9, 3) := by decide +kernel
theorem d_AL_grow1_44 : decode b_AL_grow1 44 = .ok (.areturn, 1) := by decide +kernel
theorem d_AL_grow1_45 : decode b_AL_grow1 45 = .ok (.aload_n 0, 1) := by decide +kernel
theorem d_AL_grow1_46 : decode b_AL_grow1 46 = .ok (.bipush 10, 2) := by decide +kernel
theorem d_AL_grow1_48 : decode b_AL_grow1 48 = .ok (.iload_n 1, 1) := by decide +kernel
theorem d_AL_grow1_49 : decode b_AL_grow1 49 = .ok (.invokestatic 79, 3) := by decide +kernel
theorem d_AL_grow1_52 : decode b_AL_grow1 52 = .ok (.anewarray 7, 3) := by decide +kernel
theorem d_AL_grow1_55 : decode b_AL_grow1 55 = .ok (.dup_x1, 1) := by decide +kernel
theorem d_AL_grow1_56 : decode b_AL_grow1 56 = .ok (.putfield 9, 3) := by decide +kernel
theorem d_AL_grow1_59 : decode b_AL_grow1 59 = .ok (.areturn, 1) := by decide +kernel
theorem d_AS_newLength_0 : decode b_AS_newLength 0 = .ok (.iload_n 0, 1) := by decide +kernel
theorem d_AS_newLength_1 : decode b_AS_newLength 1 = .ok (.iload_n 1, 1) := by decide +kernel
theorem d_AS_newLength_2 : decode b_AS_newLength 2 = .ok (.iload_n 2, 1) := by decide +kernel
theorem d_AS_newLength_3 : decode b_AS_newLength 3 = .ok (.invokestatic 194, 3) := by decide +kernel
theorem d_AS_newLength_6 : decode b_AS_newLength 6 = .ok (.iadd, 1) := by decide +kernel
theorem d_AS_newLength_7 : decode b_AS_newLength 7 = .ok (.istore_n 3, 1) := by decide +kernel
theorem d_AS_newLength_8 : decode b_AS_newLength 8 = .ok (.iconst 0, 1) := by decide +kernel
theorem d_AS_newLength_9 : decode b_AS_newLength 9 = .ok (.iload_n 3, 1) := by decide +kernel
theorem d_AS_newLength_10 : decode b_AS_newLength 10 = .ok (.if_icmp .ge 11, 3) := by decide +kernel
theorem d_AS_newLength_13 : decode b_AS_newLength 13 = .ok (.iload_n 3, 1) := by decide +kernel
theorem d_AS_newLength_14 : decode b_AS_newLength 14 = .ok (.ldc 200, 2) := by decide +kernel
theorem d_AS_newLength_16 : decode b_AS_newLength 16 = .ok (.if_icmp .gt 5, 3) := by decide +kernel
theorem d_AS_newLength_19 : decode b_AS_newLength 19 = .ok (.iload_n 3, 1) := by decide +kernel
theorem d_AS_newLength_20 : decode b_AS_newLength 20 = .ok (.ireturn, 1) := by decide +kernel
theorem d_AS_newLength_21 : decode b_AS_newLength 21 = .ok (.iload_n 0, 1) := by decide +kernel
theorem d_AS_newLength_22 : decode b_AS_newLength 22 = .ok (.iload_n 1, 1) := by decide +kernel
theorem d_AS_newLength_23 : decode b_AS_newLength 23 = .ok (.invokestatic 201, 3) := by decide +kernel
theorem d_AS_newLength_26 : decode b_AS_newLength 26 = .ok (.ireturn, 1) := by decide +kernel
theorem d_AS_hugeLength_0 : decode b_AS_hugeLength 0 = .ok (.iload_n 0, 1) := by decide +kernel
theorem d_AS_hugeLength_1 : decode b_AS_hugeLength 1 = .ok (.iload_n 1, 1) := by decide +kernel
theorem d_AS_hugeLength_2 : decode b_AS_hugeLength 2 = .ok (.iadd, 1) := by decide +kernel
theorem d_AS_hugeLength_3 : decode b_AS_hugeLength 3 = .ok (.istore_n 2, 1) := by decide +kernel
theorem d_AS_hugeLength_4 : decode b_AS_hugeLength 4 = .ok (.iload_n 2, 1) := by decide +kernel
theorem d_AS_hugeLength_5 : decode b_AS_hugeLength 5 = .ok (.ifCond .ge 44, 3) := by decide +kernel
theorem d_AS_hugeLength_8 : decode b_AS_hugeLength 8 = .ok (.new 204, 3) := by decide +kernel
theorem d_AS_hugeLength_11 : decode b_AS_hugeLength 11 = .ok (.dup, 1) := by decide +kernel
theorem d_AS_hugeLength_12 : decode b_AS_hugeLength 12 = .ok (.new 89, 3) := by decide +kernel
theorem d_AS_hugeLength_15 : decode b_AS_hugeLength 15 = .ok (.dup, 1) := by decide +kernel
theorem d_AS_hugeLength_16 : decode b_AS_hugeLength 16 = .ok (.invokespecial 91, 3) := by decide +kernel
theorem d_AS_hugeLength_19 : decode b_AS_hugeLength 19 = .ok (.ldc 206, 2) := by decide +kernel
theorem d_AS_hugeLength_21 : decode b_AS_hugeLength 21 = .ok (.invokevirtual 94, 3) := by decide +kernel
theorem d_AS_hugeLength_24 : decode b_AS_hugeLength 24 = .ok (.iload_n 0, 1) := by decide +kernel
theorem d_AS_hugeLength_25 : decode b_AS_hugeLength 25 = .ok (.invokevirtual 98, 3) := by decide +kernel
theorem d_AS_hugeLength_28 : decode b_AS_hugeLength 28 = .ok (.ldc 208, 2) := by decide +kernel
theorem d_AS_hugeLength_30 : decode b_AS_hugeLength 30 = .ok (.invokevirtual 94, 3) := by decide +kernel
theorem d_AS_hugeLength_33 : decode b_AS_hugeLength 33 = .ok (.iload_n 1, 1) := by decide +kernel
theorem d_AS_hugeLength_34 : decode b_AS_hugeLength 34 = .ok (.invokevirtual 98, 3) := by decide +kernel
theorem d_AS_hugeLength_37 : decode b_AS_hugeLength 37 = .ok (.ldc 210, 2) := by decide +kernel
theorem d_AS_hugeLength_39 : decode b_AS_hugeLength 39 = .ok (.invokevirtual 94, 3) := by decide +kernel
theorem d_AS_hugeLength_42 : decode b_AS_hugeLength 42 = .ok (.invokevirtual 101, 3) := by decide +kernel
theorem d_AS_hugeLength_45 : decode b_AS_hugeLength 45 = .ok (.invokespecial 212, 3) := by decide +kernel
theorem d_AS_hugeLength_48 : decode b_AS_hugeLength 48 = .ok (.athrow, 1) := by decide +kernel
theorem d_AS_hugeLength_49 : decode b_AS_hugeLength 49 = .ok (.iload_n 2, 1) := by decide +kernel
theorem d_AS_hugeLength_50 : decode b_AS_hugeLength 50 = .ok (.ldc 200, 2) := by decide +kernel
theorem d_AS_hugeLength_52 : decode b_AS_hugeLength 52 = .ok (.if_icmp .gt 6, 3) := by decide +kernel
theorem d_AS_hugeLength_55 : decode b_AS_hugeLength 55 = .ok (.ldc 200, 2) := by decide +kernel
theorem d_AS_hugeLength_57 : decode b_AS_hugeLength 57 = .ok (.ireturn, 1) := by decide +kernel
theorem d_AS_hugeLength_58 : decode b_AS_hugeLength 58 = .ok (.iload_n 2, 1) := by decide +kernel
theorem d_AS_hugeLength_59 : decode b_AS_hugeLength 59 = .ok (.ireturn, 1) := by decide +kernel
theorem d_AR_copyO2_0 : decode b_AR_copyO2 0 = .ok (.aload_n 0, 1) := by decide +kernel
theorem d_AR_copyO2_1 : decode b_AR_copyO2 1 = .ok (.iload_n 1, 1) := by decide +kernel
theorem d_AR_copyO2_2 : decode b_AR_copyO2 2 = .ok (.aload_n 0, 1) := by decide +kernel
theorem d_AR_copyO2_3 : decode b_AR_copyO2 3 = .ok (.invokevirtual 86, 3) := by decide +kernel
theorem d_AR_copyO2_6 : decode b_AR_copyO2 6 = .ok (.invokestatic 300, 3) := by decide +kernel
theorem d_AR_copyO2_9 : decode b_AR_copyO2 9 = .ok (.areturn, 1) := by decide +kernel
theorem d_AR_copyO3_0 : decode b_AR_copyO3 0 = .ok (.aload_n 2, 1) := by decide +kernel
theorem d_AR_copyO3_1 : decode b_AR_copyO3 1 = .ok (.ldc 110, 2) := by decide +kernel
theorem d_AR_copyO3_3 : decode b_AR_copyO3 3 = .ok (.if_acmp .ne 10, 3) := by decide +kernel
theorem d_AR_copyO3_6 : decode b_AR_copyO3 6 = .ok (.iload_n 1, 1) := by decide +kernel
theorem d_AR_copyO3_7 : decode b_AR_copyO3 7 = .ok (.anewarray 2, 3) := by decide +kernel
theorem d_AR_copyO3_10 : decode b_AR_copyO3 10 = .ok (.goto 14, 3) := by decide +kernel
theorem d_AR_copyO3_13 : decode b_AR_copyO3 13 = .ok (.aload_n 2, 1) := by decide +kernel
theorem d_AR_copyO3_14 : decode b_AR_copyO3 14 = .ok (.invokevirtual 90, 3) := by decide +kernel
theorem d_AR_copyO3_17 : decode b_AR_copyO3 17 = .ok (.iload_n 1, 1) := by decide +kernel
theorem d_AR_copyO3_18 : decode b_AR_copyO3 18 = .ok (.invokestatic 95, 3) := by decide +kernel
theorem d_AR_copyO3_21 : decode b_AR_copyO3 21 = .ok (.checkcast 110, 3) := by decide +kernel
theorem d_AR_copyO3_24 : decode b_AR_copyO3 24 = .ok (.astore_n 3, 1) := by decide +kernel
theorem d_AR_copyO3_25 : decode b_AR_copyO3 25 = .ok (.aload_n 0, 1) := by decide +kernel
theorem d_AR_copyO3_26 : decode b_AR_copyO3 26 = .ok (.iconst 0, 1) := by decide +kernel
theorem d_AR_copyO3_27 : decode b_AR_copyO3 27 = .ok (.aload_n 3, 1) := by decide +kernel
theorem d_AR_copyO3_28 : decode b_AR_copyO3 28 = .ok (.iconst 0, 1) := by decide +kernel
theorem d_AR_copyO3_29 : decode b_AR_copyO3 29 = .ok (.aload_n 0, 1) := by decide +kernel
theorem d_AR_copyO3_30 : decode b_AR_copyO3 30 = .ok (.arraylength, 1) := by decide +kernel
theorem d_AR_copyO3_31 : decode b_AR_copyO3 31 = .ok (.iload_n 1, 1) := by decide +kernel
theorem d_AR_copyO3_32 : decode b_AR_copyO3 32 = .ok (.invokestatic 304, 3) := by decide +kernel
theorem d_AR_copyO3_35 : decode b_AR_copyO3 35 = .ok (.invokestatic 150, 3) := by decide +kernel
theorem d_AR_copyO3_38 : decode b_AR_copyO3 38 = .ok (.aload_n 3, 1) := by decide +kernel
theorem d_AR_copyO3_39 : decode b_AR_copyO3 39 = .ok (.areturn, 1) := by decide +kernel
theorem d_MA_min_0 : decode b_MA_min 0 = .ok (.iload_n 0, 1) := by decide +kernel
theorem d_MA_min_1 : decode b_MA_min 1 = .ok (.iload_n 1, 1) := by decide +kernel
theorem d_MA_min_2 : decode b_MA_min 2 = .ok (.if_icmp .gt 7, 3) := by decide +kernel
theorem d_MA_min_5 : decode b_MA_min 5 = .ok (.iload_n 0, 1) := by decide +kernel
theorem d_MA_min_6 : decode b_MA_min 6 = .ok (.goto 4, 3) := by decide +kernel
theorem d_MA_min_9 : decode b_MA_min 9 = .ok (.iload_n 1, 1) := by decide +kernel
theorem d_MA_min_10 : decode b_MA_min 10 = .ok (.ireturn, 1) := by decide +kernel
theorem d_L_delete_0 : decode b_L_delete 0 = .ok (.aload 4, 2) := by decide +kernel
theorem d_L_delete_2 : decode b_L_delete 2 = .ok (.iconst 0, 1) := by decide +kernel
theorem d_L_delete_3 : decode b_L_delete 3 = .ok (.aload_n 0, 1) := by decide +kernel
theorem d_L_delete_4 : decode b_L_delete 4 = .ok (.iload_n 1, 1) := by decide +kernel
theorem d_L_delete_5 : decode b_L_delete 5 = .ok (.iload_n 2, 1) := by decide +kernel
theorem d_L_delete_6 : decode b_L_delete 6 = .ok (.iload_n 3, 1) := by decide +kernel
theorem d_L_delete_7 : decode b_L_delete 7 = .ok (.invokevirtual 31, 3) := by decide +kernel
theorem d_L_delete_10 : decode b_L_delete 10 = .ok (.i2l, 1) := by decide +kernel
theorem d_L_delete_11 : decode b_L_delete 11 = .ok (.lastore, 1) := by decide +kernel
theorem d_L_delete_12 : decode b_L_delete 12 = .ok (.goto 19, 3) := by decide +kernel
theorem d_L_delete_15 : decode b_L_delete 15 = .ok (.astore 5, 2) := by decide +kernel
theorem d_L_delete_17 : decode b_L_delete 17 = .ok (.iconst 1, 1) := by decide +kernel
theorem d_L_delete_18 : decode b_L_delete 18 = .ok (.ireturn, 1) := by decide +kernel
theorem d_L_delete_19 : decode b_L_delete 19 = .ok (.astore 5, 2) := by decide +kernel
theorem d_L_delete_21 : decode b_L_delete 21 = .ok (.iconst 2, 1) := by decide +kernel
theorem d_L_delete_22 : decode b_L_delete 22 = .ok (.ireturn, 1) := by decide +kernel
theorem d_L_delete_23 : decode b_L_delete 23 = .ok (.astore 5, 2) := by decide +kernel
theorem d_L_delete_25 : decode b_L_delete 25 = .ok (.iconst 3, 1) := by decide +kernel
theorem d_L_delete_26 : decode b_L_delete 26 = .ok (.ireturn, 1) := by decide +kernel
theorem d_L_delete_27 : decode b_L_delete 27 = .ok (.astore 5, 2) := by decide +kernel
theorem d_L_delete_29 : decode b_L_delete 29 = .ok (.iconst 4, 1) := by decide +kernel
theorem d_L_delete_30 : decode b_L_delete 30 = .ok (.ireturn, 1) := by decide +kernel
theorem d_L_delete_31 : decode b_L_delete 31 = .ok (.iconst 0, 1) := by decide +kernel
theorem d_L_delete_32 : decode b_L_delete 32 = .ok (.ireturn, 1) := by decide +kernel
theorem d_C_delete_0 : decode b_C_delete 0 = .ok (.iload_n 1, 1) := by decide +kernel
theorem d_C_delete_1 : decode b_C_delete 1 = .ok (.iload_n 2, 1) := by decide +kernel
theorem d_C_delete_2 : decode b_C_delete 2 = .ok (.iload_n 3, 1) := by decide +kernel
theorem d_C_delete_3 : decode b_C_delete 3 = .ok (.invokestatic 93, 3) := by decide +kernel
theorem d_C_delete_6 : decode b_C_delete 6 = .ok (.ifCond .ne 11, 3) := by decide +kernel
theorem d_C_delete_9 : decode b_C_delete 9 = .ok (.new 101, 3) := by decide +kernel
theorem d_C_delete_12 : decode b_C_delete 12 = .ok (.dup, 1) := by decide +kernel
theorem d_C_delete_13 : decode b_C_delete 13 = .ok (.invokespecial 103, 3) := by decide +kernel
theorem d_C_delete_16 : decode b_C_delete 16 = .ok (.athrow, 1) := by decide +kernel
theorem d_C_delete_17 : decode b_C_delete 17 = .ok (.aload_n 0, 1) := by decide +kernel
theorem d_C_delete_18 : decode b_C_delete 18 = .ok (.iload_n 1, 1) := by decide +kernel
theorem d_C_delete_19 : decode b_C_delete 19 = .ok (.invokevirtual 104, 3) := by decide +kernel
theorem d_C_delete_22 : decode b_C_delete 22 = .ok (.ifCond .ne 11, 3) := by decide +kernel
theorem d_C_delete_25 : decode b_C_delete 25 = .ok (.new 65, 3) := by decide +kernel
theorem d_C_delete_28 : decode b_C_delete 28 = .ok (.dup, 1) := by decide +kernel
theorem d_C_delete_29 : decode b_C_delete 29 = .ok (.invokespecial 67, 3) := by decide +kernel
theorem d_C_delete_32 : decode b_C_delete 32 = .ok (.athrow, 1) := by decide +kernel
theorem d_C_delete_33 : decode b_C_delete 33 = .ok (.iload_n 2, 1) := by decide +kernel
theorem d_C_delete_34 : decode b_C_delete 34 = .ok (.aload_n 0, 1) := by decide +kernel
theorem d_C_delete_35 : decode b_C_delete 35 = .ok (.invokevirtual 89, 3) := by decide +kernel
theorem d_C_delete_38 : decode b_C_delete 38 = .ok (.iload_n 3, 1) := by decide +kernel
theorem d_C_delete_39 : decode b_C_delete 39 = .ok (.isub, 1) := by decide +kernel
theorem d_C_delete_40 : decode b_C_delete 40 = .ok (.if_icmp .le 11, 3) := by decide +kernel
theorem d_C_delete_43 : decode b_C_delete 43 = .ok (.new 108, 3) := by decide +kernel
theorem d_C_delete_46 : decode b_C_delete 46 = .ok (.dup, 1) := by decide +kernel
theorem d_C_delete_47 : decode b_C_delete 47 = .ok (.invokespecial 110, 3) := by decide +kernel
theorem d_C_delete_50 : decode b_C_delete 50 = .ok (.athrow, 1) := by decide +kernel
theorem d_C_delete_51 : decode b_C_delete 51 = .ok (.aload_n 0, 1) := by decide +kernel
theorem d_C_delete_52 : decode b_C_delete 52 = .ok (.iload_n 1, 1) := by decide +kernel
theorem d_C_delete_53 : decode b_C_delete 53 = .ok (.iload_n 3, 1) := by decide +kernel
theorem d_C_delete_54 : decode b_C_delete 54 = .ok (.invokevirtual 111, 3) := by decide +kernel
theorem d_C_delete_57 : decode b_C_delete 57 = .ok (.ifCond .ne 11, 3) := by decide +kernel
theorem d_C_delete_60 : decode b_C_delete 60 = .ok (.new 68, 3) := by decide +kernel
theorem d_C_delete_63 : decode b_C_delete 63 = .ok (.dup, 1) := by decide +kernel
theorem d_C_delete_64 : decode b_C_delete 64 = .ok (.invokespecial 70, 3) := by decide +kernel
theorem d_C_delete_67 : decode b_C_delete 67 = .ok (.athrow, 1) := by decide +kernel
theorem d_C_delete_68 : decode b_C_delete 68 = .ok (.aload_n 0, 1) := by decide +kernel
theorem d_C_delete_69 : decode b_C_delete 69 = .ok (.aload_n 0, 1) := by decide +kernel
theorem d_C_delete_70 : decode b_C_delete 70 = .ok (.iload_n 1, 1) := by decide +kernel
theorem d_C_delete_71 : decode b_C_delete 71 = .ok (.invokevirtual 114, 3) := by decide +kernel
theorem d_C_delete_74 : decode b_C_delete 74 = .ok (.iload_n 2, 1) := by decide +kernel
theorem d_C_delete_75 : decode b_C_delete 75 = .ok (.iload_n 3, 1) := by decide +kernel
theorem d_C_delete_76 : decode b_C_delete 76 = .ok (.invokevirtual 122, 3) := by decide +kernel
theorem d_C_delete_79 : decode b_C_delete 79 = .ok (.aload_n 0, 1) := by decide +kernel
theorem d_C_delete_80 : decode b_C_delete 80 = .ok (.getfield 51, 3) := by decide +kernel
theorem d_C_delete_83 : decode b_C_delete 83 = .ok (.ireturn, 1) := by decide +kernel
theorem d_C_cutOut_0 : decode b_C_cutOut 0 = .ok (.aload_n 0, 1) := by decide +kernel
theorem d_C_cutOut_1 : decode b_C_cutOut 1 = .ok (.getfield 28, 3) := by decide +kernel
theorem d_C_cutOut_4 : decode b_C_cutOut 4 = .ok (.invokevirtual 206, 3) := by decide +kernel
theorem d_C_cutOut_7 : decode b_C_cutOut 7 = .ok (.checkcast 207, 3) := by decide +kernel
theorem d_C_cutOut_10 : decode b_C_cutOut 10 = .ok (.astore 4, 2) := by decide +kernel
theorem d_C_cutOut_12 : decode b_C_cutOut 12 = .ok (.aload_n 0, 1) := by decide +kernel
theorem d_C_cutOut_13 : decode b_C_cutOut 13 = .ok (.iload_n 2, 1) := by decide +kernel
theorem d_C_cutOut_14 : decode b_C_cutOut 14 = .ok (.iconst 1, 1) := by decide +kernel
theorem d_C_cutOut_15 : decode b_C_cutOut 15 = .ok (.iadd, 1) := by decide +kernel
theorem d_C_cutOut_16 : decode b_C_cutOut 16 = .ok (.invokevirtual 211, 3) := by decide +kernel
theorem d_C_cutOut_19 : decode b_C_cutOut 19 = .ok (.astore 5, 2) := by decide +kernel
theorem d_C_cutOut_21 : decode b_C_cutOut 21 = .ok (.iconst 0, 1) := by decide +kernel
theorem d_C_cutOut_22 : decode b_C_cutOut 22 = .ok (.istore 6, 2) := by decide +kernel
theorem d_C_cutOut_24 : decode b_C_cutOut 24 = .ok (.iload 6, 2) := by decide +kernel
theorem d_C_cutOut_26 : decode b_C_cutOut 26 = .ok (.iload_n 3, 1) := by decide +kernel
theorem d_C_cutOut_27 : decode b_C_cutOut 27 = .ok (.if_icmp .ge 87, 3) := by decide +kernel
theorem d_C_cutOut_30 : decode b_C_cutOut 30 = .ok (.aload 5, 2) := by decide +kernel
theorem d_C_cutOut_32 : decode b_C_cutOut 32 = .ok (.ifnull 82, 3) := by decide +kernel
theorem d_C_cutOut_35 : decode b_C_cutOut 35 = .ok (.new 235, 3) := by decide +kernel
theorem d_C_cutOut_38 : decode b_C_cutOut 38 = .ok (.dup, 1) := by decide +kernel
theorem d_C_cutOut_39 : decode b_C_cutOut 39 = .ok (.aload_n 1, 1) := by decide +kernel
theorem d_C_cutOut_40 : decode b_C_cutOut 40 = .ok (.aload 4, 2) := by decide +kernel
theorem d_C_cutOut_42 : decode b_C_cutOut 42 = .ok (.invokespecial 237, 3) := by decide +kernel
theorem d_C_cutOut_45 : decode b_C_cutOut 45 = .ok (.astore 7, 2) := by decide +kernel
theorem d_C_cutOut_47 : decode b_C_cutOut 47 = .ok (.aload 5, 2) := by decide +kernel
theorem d_C_cutOut_49 : decode b_C_cutOut 49 = .ok (.getfield 240, 3) := by decide +kernel
theorem d_C_cutOut_52 : decode b_C_cutOut 52 = .ok (.ifnonnull 25, 3) := by decide +kernel
theorem d_C_cutOut_55 : decode b_C_cutOut 55 = .ok (.aload 5, 2) := by decide +kernel
theorem d_C_cutOut_57 : decode b_C_cutOut 57 = .ok (.aload_n 0, 1) := by decide +kernel
theorem d_C_cutOut_58 : decode b_C_cutOut 58 = .ok (.getfield 18, 3) := by decide +kernel
theorem d_C_cutOut_61 : decode b_C_cutOut 61 = .ok (.invokevirtual 126, 3) := by decide +kernel
theorem d_C_cutOut_64 : decode b_C_cutOut 64 = .ok (.putfield 244, 3) := by decide +kernel
theorem d_C_cutOut_67 : decode b_C_cutOut 67 = .ok (.aload_n 0, 1) := by decide +kernel
theorem d_C_cutOut_68 : decode b_C_cutOut 68 = .ok (.dup, 1) := by decide +kernel
theorem d_C_cutOut_69 : decode b_C_cutOut 69 = .ok (.getfield 51, 3) := by decide +kernel
theorem d_C_cutOut_72 : decode b_C_cutOut 72 = .ok (.iconst 1, 1) := by decide +kernel
theorem d_C_cutOut_73 : decode b_C_cutOut 73 = .ok (.isub, 1) := by decide +kernel
theorem d_C_cutOut_74 : decode b_C_cutOut 74 = .ok (.putfield 51, 3) := by decide +kernel
theorem d_C_cutOut_77 : decode b_C_cutOut 77 = .ok (.aload 7, 2) := by decide +kernel
theorem d_C_cutOut_79 : decode b_C_cutOut 79 = .ok (.aload 5, 2) := by decide +kernel
theorem d_C_cutOut_81 : decode b_C_cutOut 81 = .ok (.getfield 240, 3) := by decide +kernel
theorem d_C_cutOut_84 : decode b_C_cutOut 84 = .ok (.putfield 247, 3) := by decide +kernel
theorem d_C_cutOut_87 : decode b_C_cutOut 87 = .ok (.aload 5, 2) := by decide +kernel
theorem d_C_cutOut_89 : decode b_C_cutOut 89 = .ok (.aload 7, 2) := by decide +kernel
theorem d_C_cutOut_91 : decode b_C_cutOut 91 = .ok (.putfield 240, 3) := by decide +kernel
theorem d_C_cutOut_94 : decode b_C_cutOut 94 = .ok (.aload_n 0, 1) := by decide +kernel
theorem d_C_cutOut_95 : decode b_C_cutOut 95 = .ok (.aload 7, 2) := by decide +kernel
theorem d_C_cutOut_97 : decode b_C_cutOut 97 = .ok (.invokevirtual 219, 3) := by decide +kernel
theorem d_C_cutOut_100 : decode b_C_cutOut 100 = .ok (.aload_n 0, 1) := by decide +kernel
theorem d_C_cutOut_101 : decode b_C_cutOut 101 = .ok (.aload 5, 2) := by decide +kernel
theorem d_C_cutOut_103 : decode b_C_cutOut 103 = .ok (.invokevirtual 202, 3) := by decide +kernel
theorem d_C_cutOut_106 : decode b_C_cutOut 106 = .ok (.astore 5, 2) := by decide +kernel
theorem d_C_cutOut_108 : decode b_C_cutOut 108 = .ok (.iinc 6 1, 3) := by decide +kernel
theorem d_C_cutOut_111 : decode b_C_cutOut 111 = .ok (.goto (-87), 3) := by decide +kernel
theorem d_C_cutOut_114 : decode b_C_cutOut 114 = .ok (.return_, 1) := by decide +kernel
theorem d_K_init_0 : decode b_K_init 0 = .ok (.aload_n 0, 1) := by decide +kernel
theorem d_K_init_1 : decode b_K_init 1 = .ok (.aload_n 1, 1) := by decide +kernel
theorem d_K_init_2 : decode b_K_init 2 = .ok (.aload_n 2, 1) := by decide +kernel
theorem d_K_init_3 : decode b_K_init 3 = .ok (.invokespecial 1, 3) := by decide +kernel
theorem d_K_init_6 : decode b_K_init 6 = .ok (.return_, 1) := by decide +kernel
theorem d_L_at_0 : decode b_L_at 0 = .ok (.aload_n 2, 1) := by decide +kernel
theorem d_L_at_1 : decode b_L_at 1 = .ok (.iconst 0, 1) := by decide +kernel
theorem d_L_at_2 : decode b_L_at 2 = .ok (.aload_n 0, 1) := by decide +kernel
theorem d_L_at_3 : decode b_L_at 3 = .ok (.iload_n 1, 1) := by decide +kernel
theorem d_L_at_4 : decode b_L_at 4 = .ok (.invokevirtual 35, 3) := by decide +kernel
theorem d_L_at_7 : decode b_L_at 7 = .ok (.i2l, 1) := by decide +kernel
theorem d_L_at_8 : decode b_L_at 8 = .ok (.lastore, 1) := by decide +kernel
theorem d_L_at_9 : decode b_L_at 9 = .ok (.goto 6, 3) := by decide +kernel
theorem d_L_at_12 : decode b_L_at 12 = .ok (.astore_n 3, 1) := by decide +kernel
theorem d_L_at_13 : decode b_L_at 13 = .ok (.iconst 1, 1) := by decide +kernel
theorem d_L_at_14 : decode b_L_at 14 = .ok (.ireturn, 1) := by decide +kernel
theorem d_L_at_15 : decode b_L_at 15 = .ok (.iconst 0, 1) := by decide +kernel
theorem d_L_at_16 : decode b_L_at 16 = .ok (.ireturn, 1) := by decide +kernel
theorem d_C_at_0 : decode b_C_at 0 = .ok (.aload_n 0, 1) := by decide +kernel
theorem d_C_at_1 : decode b_C_at 1 = .ok (.aload_n 0, 1) := by decide +kernel
theorem d_C_at_2 : decode b_C_at 2 = .ok (.getfield 18, 3) := by decide +kernel
theorem d_C_at_5 : decode b_C_at 5 = .ok (.invokevirtual 126, 3) := by decide +kernel
theorem d_C_at_8 : decode b_C_at 8 = .ok (.iload_n 1, 1) := by decide +kernel
theorem d_C_at_9 : decode b_C_at 9 = .ok (.invokevirtual 129, 3) := by decide +kernel
theorem d_C_at_12 : decode b_C_at 12 = .ok (.astore_n 2, 1) := by decide +kernel
theorem d_C_at_13 : decode b_C_at 13 = .ok (.aload_n 2, 1) := by decide +kernel
theorem d_C_at_14 : decode b_C_at 14 = .ok (.ifnonnull 11, 3) := by decide +kernel
theorem d_C_at_17 : decode b_C_at 17 = .ok (.new 108, 3) := by decide +kernel
theorem d_C_at_20 : decode b_C_at 20 = .ok (.dup, 1) := by decide +kernel
theorem d_C_at_21 : decode b_C_at 21 = .ok (.invokespecial 110, 3) := by decide +kernel
theorem d_C_at_24 : decode b_C_at 24 = .ok (.athrow, 1) := by decide +kernel
theorem d_C_at_25 : decode b_C_at 25 = .ok (.aload_n 2, 1) := by decide +kernel
theorem d_C_at_26 : decode b_C_at 26 = .ok (.getfield 133, 3) := by decide +kernel
theorem d_C_at_29 : decode b_C_at 29 = .ok (.ireturn, 1) := by decide +kernel
theorem d_C_textNode_0 : decode b_C_textNode 0 = .ok (.iload_n 2, 1) := by decide +kernel
theorem d_C_textNode_1 : decode b_C_textNode 1 = .ok (.ifCond .lt 12, 3) := by decide +kernel
theorem d_C_textNode_4 : decode b_C_textNode 4 = .ok (.iload_n 2, 1) := by decide +kernel
theorem d_C_textNode_5 : decode b_C_textNode 5 = .ok (.aload_n 0, 1) := by decide +kernel
theorem d_C_textNode_6 : decode b_C_textNode 6 = .ok (.iload_n 1, 1) := by decide +kernel
theorem d_C_textNode_7 : decode b_C_textNode 7 = .ok (.invokevirtual 155, 3) := by decide +kernel
theorem d_C_textNode_10 : decode b_C_textNode 10 = .ok (.if_icmp .lt 5, 3) := by decide +kernel
theorem d_C_textNode_13 : decode b_C_textNode 13 = .ok (.aconst_null, 1) := by decide +kernel
theorem d_C_textNode_14 : decode b_C_textNode 14 = .ok (.areturn, 1) := by decide +kernel
theorem d_C_textNode_15 : decode b_C_textNode 15 = .ok (.iload_n 2, 1) := by decide +kernel
theorem d_C_textNode_16 : decode b_C_textNode 16 = .ok (.istore_n 3, 1) := by decide +kernel
theorem d_C_textNode_17 : decode b_C_textNode 17 = .ok (.aload_n 0, 1) := by decide +kernel
theorem d_C_textNode_18 : decode b_C_textNode 18 = .ok (.getfield 40, 3) := by decide +kernel
theorem d_C_textNode_21 : decode b_C_textNode 21 = .ok (.getfield 159, 3) := by decide +kernel
theorem d_C_textNode_24 : decode b_C_textNode 24 = .ok (.astore 4, 2) := by decide +kernel
theorem d_C_textNode_26 : decode b_C_textNode 26 = .ok (.aload 4, 2) := by decide +kernel
theorem d_C_textNode_28 : decode b_C_textNode 28 = .ok (.ifnull 32, 3) := by decide +kernel
theorem d_C_textNode_31 : decode b_C_textNode 31 = .ok (.aload 4, 2) := by decide +kernel
theorem d_C_textNode_33 : decode b_C_textNode 33 = .ok (.iload_n 1, 1) := by decide +kernel
theorem d_C_textNode_34 : decode b_C_textNode 34 = .ok (.invokevirtual 162, 3) := by decide +kernel
theorem d_C_textNode_37 : decode b_C_textNode 37 = .ok (.ifCond .eq 13, 3) := by decide +kernel
theorem d_C_textNode_40 : decode b_C_textNode 40 = .ok (.iload_n 3, 1) := by decide +kernel
theorem d_C_textNode_41 : decode b_C_textNode 41 = .ok (.ifCond .ne 6, 3) := by decide +kernel
theorem d_C_textNode_44 : decode b_C_textNode 44 = .ok (.aload 4, 2) := by decide +kernel
theorem d_C_textNode_46 : decode b_C_textNode 46 = .ok (.areturn, 1) := by decide +kernel
theorem d_C_textNode_47 : decode b_C_textNode 47 = .ok (.iinc 3 (-1), 3) := by decide +kernel
theorem d_C_textNode_50 : decode b_C_textNode 50 = .ok (.aload 4, 2) := by decide +kernel
theorem d_C_textNode_52 : decode b_C_textNode 52 = .ok (.getfield 159, 3) := by decide +kernel
theorem d_C_textNode_55 : decode b_C_textNode 55 = .ok (.astore 4, 2) := by decide +kernel
theorem d_C_textNode_57 : decode b_C_textNode 57 = .ok (.goto (-31), 3) := by decide +kernel
theorem d_C_textNode_60 : decode b_C_textNode 60 = .ok (.aconst_null, 1) := by decide +kernel
theorem d_C_textNode_61 : decode b_C_textNode 61 = .ok (.areturn, 1) := by decide +kernel
theorem d_C_lengthAfter_0 : decode b_C_lengthAfter 0 = .ok (.iload_n 1, 1) := by decide +kernel
theorem d_C_lengthAfter_1 : decode b_C_lengthAfter 1 = .ok (.ifCond .ne 7, 3) := by decide +kernel
theorem d_C_lengthAfter_4 : decode b_C_lengthAfter 4 = .ok (.iconst 0, 1) := by decide +kernel
theorem d_C_lengthAfter_5 : decode b_C_lengthAfter 5 = .ok (.goto 19, 3) := by decide +kernel
theorem d_C_lengthAfter_8 : decode b_C_lengthAfter 8 = .ok (.aload_n 0, 1) := by decide +kernel
theorem d_C_lengthAfter_9 : decode b_C_lengthAfter 9 = .ok (.getfield 18, 3) := by decide +kernel
theorem d_C_lengthAfter_12 : decode b_C_lengthAfter 12 = .ok (.iload_n 1, 1) := by decide +kernel
theorem d_C_lengthAfter_13 : decode b_C_lengthAfter 13 = .ok (.iconst 1, 1) := by decide +kernel
theorem d_C_lengthAfter_14 : decode b_C_lengthAfter 14 = .ok (.isub, 1) := by decide +kernel
theorem d_C_lengthAfter_15 : decode b_C_lengthAfter 15 = .ok (.invokevirtual 175, 3) := by decide +kernel
theorem d_C_lengthAfter_18 : decode b_C_lengthAfter 18 = .ok (.checkcast 22, 3) := by decide +kernel
theorem d_C_lengthAfter_21 : decode b_C_lengthAfter 21 = .ok (.getfield 253, 3) := by decide +kernel
theorem d_C_lengthAfter_24 : decode b_C_lengthAfter 24 = .ok (.ireturn, 1) := by decide +kernel
theorem d_N_isInTextOf_0 : decode b_N_isInTextOf 0 = .ok (.aload_n 0, 1) := by decide +kernel
theorem d_N_isInTextOf_1 : decode b_N_isInTextOf 1 = .ok (.getfield 33, 3) := by decide +kernel
theorem d_N_isInTextOf_4 : decode b_N_isInTextOf 4 = .ok (.iload_n 1, 1) := by decide +kernel
theorem d_N_isInTextOf_5 : decode b_N_isInTextOf 5 = .ok (.if_icmp .ge 15, 3) := by decide +kernel
theorem d_N_isInTextOf_8 : decode b_N_isInTextOf 8 = .ok (.aload_n 0, 1) := by decide +kernel
theorem d_N_isInTextOf_9 : decode b_N_isInTextOf 9 = .ok (.getfield 16, 3) := by decide +kernel
theorem d_N_isInTextOf_12 : decode b_N_isInTextOf 12 = .ok (.iload_n 1, 1) := by decide +kernel
theorem d_N_isInTextOf_13 : decode b_N_isInTextOf 13 = .ok (.if_icmp .lt 7, 3) := by decide +kernel
theorem d_N_isInTextOf_16 : decode b_N_isInTextOf 16 = .ok (.iconst 1, 1) := by decide +kernel
theorem d_N_isInTextOf_17 : decode b_N_isInTextOf 17 = .ok (.goto 4, 3) := by decide +kernel
theorem d_N_isInTextOf_20 : decode b_N_isInTextOf 20 = .ok (.iconst 0, 1) := by decide +kernel
theorem d_N_isInTextOf_21 : decode b_N_isInTextOf 21 = .ok (.ireturn, 1) := by decide +kernel
theorem d_L_who_0 : decode b_L_who 0 = .ok (.aload_n 2, 1) := by decide +kernel
theorem d_L_who_1 : decode b_L_who 1 = .ok (.iconst 0, 1) := by decide +kernel
theorem d_L_who_2 : decode b_L_who 2 = .ok (.aload_n 0, 1) := by decide +kernel
theorem d_L_who_3 : decode b_L_who 3 = .ok (.iload_n 1, 1) := by decide +kernel
theorem d_L_who_4 : decode b_L_who 4 = .ok (.invokevirtual 39, 3) := by decide +kernel
theorem d_L_who_7 : decode b_L_who 7 = .ok (.lastore, 1) := by decide +kernel
theorem d_L_who_8 : decode b_L_who 8 = .ok (.goto 6, 3) := by decide +kernel
theorem d_L_who_11 : decode b_L_who 11 = .ok (.astore_n 3, 1) := by decide +kernel
theorem d_L_who_12 : decode b_L_who 12 = .ok (.iconst 1, 1) := by decide +kernel
theorem d_L_who_13 : decode b_L_who 13 = .ok (.ireturn, 1) := by decide +kernel
theorem d_L_who_14 : decode b_L_who 14 = .ok (.iconst 0, 1) := by decide +kernel
theorem d_L_who_15 : decode b_L_who 15 = .ok (.ireturn, 1) := by decide +kernel
theorem d_C_who_0 : decode b_C_who 0 = .ok (.aload_n 0, 1) := by decide +kernel
theorem d_C_who_1 : decode b_C_who 1 = .ok (.aload_n 0, 1) := by decide +kernel
theorem d_C_who_2 : decode b_C_who 2 = .ok (.getfield 18, 3) := by decide +kernel
theorem d_C_who_5 : decode b_C_who 5 = .ok (.invokevirtual 126, 3) := by decide +kernel
theorem d_C_who_8 : decode b_C_who 8 = .ok (.iload_n 1, 1) := by decide +kernel
theorem d_C_who_9 : decode b_C_who 9 = .ok (.invokevirtual 129, 3) := by decide +kernel
theorem d_C_who_12 : decode b_C_who 12 = .ok (.astore_n 2, 1) := by decide +kernel
theorem d_C_who_13 : decode b_C_who 13 = .ok (.aload_n 2, 1) := by decide +kernel
theorem d_C_who_14 : decode b_C_who 14 = .ok (.ifnonnull 11, 3) := by decide +kernel
theorem d_C_who_17 : decode b_C_who 17 = .ok (.new 108, 3) := by decide +kernel
theorem d_C_who_20 : decode b_C_who 20 = .ok (.dup, 1) := by decide +kernel
theorem d_C_who_21 : decode b_C_who 21 = .ok (.invokespecial 110, 3) := by decide +kernel
theorem d_C_who_24 : decode b_C_who 24 = .ok (.athrow, 1) := by decide +kernel
theorem d_C_who_25 : decode b_C_who 25 = .ok (.ldc2_w 136, 3) := by decide +kernel
theorem d_C_who_28 : decode b_C_who 28 = .ok (.aload_n 2, 1) := by decide +kernel
theorem d_C_who_29 : decode b_C_who 29 = .ok (.getfield 138, 3) := by decide +kernel
theorem d_C_who_32 : decode b_C_who 32 = .ok (.getfield 142, 3) := by decide +kernel
theorem d_C_who_35 : decode b_C_who 35 = .ok (.i2l, 1) := by decide +kernel
theorem d_C_who_36 : decode b_C_who 36 = .ok (.lmul, 1) := by decide +kernel
theorem d_C_who_37 : decode b_C_who 37 = .ok (.aload_n 2, 1) := by decide +kernel
theorem d_C_who_38 : decode b_C_who 38 = .ok (.getfield 145, 3) := by decide +kernel
theorem d_C_who_41 : decode b_C_who 41 = .ok (.i2l, 1) := by decide +kernel
theorem d_C_who_42 : decode b_C_who 42 = .ok (.ladd, 1) := by decide +kernel
theorem d_C_who_43 : decode b_C_who 43 = .ok (.lreturn, 1) := by decide +kernel
theorem d_L_spot_0 : decode b_L_spot 0 = .ok (.aload_n 3, 1) := by decide +kernel
theorem d_L_spot_1 : decode b_L_spot 1 = .ok (.iconst 0, 1) := by decide +kernel
theorem d_L_spot_2 : decode b_L_spot 2 = .ok (.aload_n 0, 1) := by decide +kernel
theorem d_L_spot_3 : decode b_L_spot 3 = .ok (.iload_n 1, 1) := by decide +kernel
theorem d_L_spot_4 : decode b_L_spot 4 = .ok (.iload_n 2, 1) := by decide +kernel
theorem d_L_spot_5 : decode b_L_spot 5 = .ok (.invokevirtual 43, 3) := by decide +kernel
theorem d_L_spot_8 : decode b_L_spot 8 = .ok (.i2l, 1) := by decide +kernel
theorem d_L_spot_9 : decode b_L_spot 9 = .ok (.lastore, 1) := by decide +kernel
theorem d_L_spot_10 : decode b_L_spot 10 = .ok (.goto 11, 3) := by decide +kernel
theorem d_L_spot_13 : decode b_L_spot 13 = .ok (.astore 4, 2) := by decide +kernel
theorem d_L_spot_15 : decode b_L_spot 15 = .ok (.iconst 1, 1) := by decide +kernel
theorem d_L_spot_16 : decode b_L_spot 16 = .ok (.ireturn, 1) := by decide +kernel
theorem d_L_spot_17 : decode b_L_spot 17 = .ok (.astore 4, 2) := by decide +kernel
theorem d_L_spot_19 : decode b_L_spot 19 = .ok (.iconst 2, 1) := by decide +kernel
theorem d_L_spot_20 : decode b_L_spot 20 = .ok (.ireturn, 1) := by decide +kernel
theorem d_L_spot_21 : decode b_L_spot 21 = .ok (.iconst 0, 1) := by decide +kernel
theorem d_L_spot_22 : decode b_L_spot 22 = .ok (.ireturn, 1) := by decide +kernel
theorem d_C_spot_0 : decode b_C_spot 0 = .ok (.aload_n 0, 1) := by decide +kernel
theorem d_C_spot_1 : decode b_C_spot 1 = .ok (.iload_n 1, 1) := by decide +kernel
theorem d_C_spot_2 : decode b_C_spot 2 = .ok (.iload_n 2, 1) := by decide +kernel
theorem d_C_spot_3 : decode b_C_spot 3 = .ok (.invokevirtual 54, 3) := by decide +kernel
theorem d_C_spot_6 : decode b_C_spot 6 = .ok (.astore_n 3, 1) := by decide +kernel
theorem d_C_spot_7 : decode b_C_spot 7 = .ok (.aload_n 3, 1) := by decide +kernel
theorem d_C_spot_8 : decode b_C_spot 8 = .ok (.ifnonnull 11, 3) := by decide +kernel
theorem d_C_spot_11 : decode b_C_spot 11 = .ok (.new 58, 3) := by decide +kernel
theorem d_C_spot_14 : decode b_C_spot 14 = .ok (.dup, 1) := by decide +kernel
theorem d_C_spot_15 : decode b_C_spot 15 = .ok (.invokespecial 60, 3) := by decide +kernel
theorem d_C_spot_18 : decode b_C_spot 18 = .ok (.athrow, 1) := by decide +kernel
theorem d_C_spot_19 : decode b_C_spot 19 = .ok (.aload_n 3, 1) := by decide +kernel
theorem d_C_spot_20 : decode b_C_spot 20 = .ok (.instanceof 32, 3) := by decide +kernel
theorem d_C_spot_23 : decode b_C_spot 23 = .ok (.ifCond .eq 16, 3) := by decide +kernel
theorem d_C_spot_26 : decode b_C_spot 26 = .ok (.aload_n 3, 1) := by decide +kernel
theorem d_C_spot_27 : decode b_C_spot 27 = .ok (.checkcast 32, 3) := by decide +kernel
theorem d_C_spot_30 : decode b_C_spot 30 = .ok (.astore 4, 2) := by decide +kernel
theorem d_C_spot_32 : decode b_C_spot 32 = .ok (.aload_n 0, 1) := by decide +kernel
theorem d_C_spot_33 : decode b_C_spot 33 = .ok (.aload 4, 2) := by decide +kernel
theorem d_C_spot_35 : decode b_C_spot 35 = .ok (.invokevirtual 148, 3) := by decide +kernel
theorem d_C_spot_38 : decode b_C_spot 38 = .ok (.ireturn, 1) := by decide +kernel
theorem d_C_spot_39 : decode b_C_spot 39 = .ok (.new 65, 3) := by decide +kernel
theorem d_C_spot_42 : decode b_C_spot 42 = .ok (.dup, 1) := by decide +kernel
theorem d_C_spot_43 : decode b_C_spot 43 = .ok (.invokespecial 67, 3) := by decide +kernel
theorem d_C_spot_46 : decode b_C_spot 46 = .ok (.athrow, 1) := by decide +kernel
theorem d_C_countBefore_0 : decode b_C_countBefore 0 = .ok (.iconst 0, 1) := by decide +kernel
theorem d_C_countBefore_1 : decode b_C_countBefore 1 = .ok (.istore_n 2, 1) := by decide +kernel
theorem d_C_countBefore_2 : decode b_C_countBefore 2 = .ok (.aload_n 0, 1) := by decide +kernel
theorem d_C_countBefore_3 : decode b_C_countBefore 3 = .ok (.getfield 40, 3) := by decide +kernel
theorem d_C_countBefore_6 : decode b_C_countBefore 6 = .ok (.getfield 159, 3) := by decide +kernel
theorem d_C_countBefore_9 : decode b_C_countBefore 9 = .ok (.astore_n 3, 1) := by decide +kernel
theorem d_C_countBefore_10 : decode b_C_countBefore 10 = .ok (.aload_n 3, 1) := by decide +kernel
theorem d_C_countBefore_11 : decode b_C_countBefore 11 = .ok (.ifnull 19, 3) := by decide +kernel
theorem d_C_countBefore_14 : decode b_C_countBefore 14 = .ok (.aload_n 3, 1) := by decide +kernel
theorem d_C_countBefore_15 : decode b_C_countBefore 15 = .ok (.aload_n 1, 1) := by decide +kernel
theorem d_C_countBefore_16 : decode b_C_countBefore 16 = .ok (.if_acmp .eq 14, 3) := by decide +kernel
theorem d_C_countBefore_19 : decode b_C_countBefore 19 = .ok (.iinc 2 1, 3) := by decide +kernel
theorem d_C_countBefore_22 : decode b_C_countBefore 22 = .ok (.aload_n 3, 1) := by decide +kernel
theorem d_C_countBefore_23 : decode b_C_countBefore 23 = .ok (.getfield 159, 3) := by decide +kernel
theorem d_C_countBefore_26 : decode b_C_countBefore 26 = .ok (.astore_n 3, 1) := by decide +kernel
theorem d_C_countBefore_27 : decode b_C_countBefore 27 = .ok (.goto (-17), 3) := by decide +kernel
theorem d_C_countBefore_30 : decode b_C_countBefore 30 = .ok (.iload_n 2, 1) := by decide +kernel
theorem d_C_countBefore_31 : decode b_C_countBefore 31 = .ok (.ireturn, 1) := by decide +kernel
theorem d_L_was_0 : decode b_L_was 0 = .ok (.aload_n 2, 1) := by decide +kernel
theorem d_L_was_1 : decode b_L_was 1 = .ok (.iconst 0, 1) := by decide +kernel
theorem d_L_was_2 : decode b_L_was 2 = .ok (.aload_n 0, 1) := by decide +kernel
theorem d_L_was_3 : decode b_L_was 3 = .ok (.iload_n 1, 1) := by decide +kernel
theorem d_L_was_4 : decode b_L_was 4 = .ok (.invokevirtual 46, 3) := by decide +kernel
theorem d_L_was_7 : decode b_L_was 7 = .ok (.i2l, 1) := by decide +kernel
theorem d_L_was_8 : decode b_L_was 8 = .ok (.lastore, 1) := by decide +kernel
theorem d_L_was_9 : decode b_L_was 9 = .ok (.goto 6, 3) := by decide +kernel
theorem d_L_was_12 : decode b_L_was 12 = .ok (.astore_n 3, 1) := by decide +kernel
theorem d_L_was_13 : decode b_L_was 13 = .ok (.iconst 1, 1) := by decide +kernel
theorem d_L_was_14 : decode b_L_was 14 = .ok (.ireturn, 1) := by decide +kernel
theorem d_L_was_15 : decode b_L_was 15 = .ok (.iconst 0, 1) := by decide +kernel
theorem d_L_was_16 : decode b_L_was 16 = .ok (.ireturn, 1) := by decide +kernel
theorem d_C_was_0 : decode b_C_was 0 = .ok (.aload_n 0, 1) := by decide +kernel
theorem d_C_was_1 : decode b_C_was 1 = .ok (.iload_n 1, 1) := by decide +kernel
theorem d_C_was_2 : decode b_C_was 2 = .ok (.invokevirtual 152, 3) := by decide +kernel
theorem d_C_was_5 : decode b_C_was 5 = .ok (.ifCond .ne 11, 3) := by decide +kernel
theorem d_C_was_8 : decode b_C_was 8 = .ok (.new 108, 3) := by decide +kernel
theorem d_C_was_11 : decode b_C_was 11 = .ok (.dup, 1) := by decide +kernel
theorem d_C_was_12 : decode b_C_was 12 = .ok (.invokespecial 110, 3) := by decide +kernel
theorem d_C_was_15 : decode b_C_was 15 = .ok (.athrow, 1) := by decide +kernel
theorem d_C_was_16 : decode b_C_was 16 = .ok (.aload_n 0, 1) := by decide +kernel
theorem d_C_was_17 : decode b_C_was 17 = .ok (.iload_n 1, 1) := by decide +kernel
theorem d_C_was_18 : decode b_C_was 18 = .ok (.invokevirtual 155, 3) := by decide +kernel
theorem d_C_was_21 : decode b_C_was 21 = .ok (.ireturn, 1) := by decide +kernel
theorem d_C_haveCome_0 : decode b_C_haveCome 0 = .ok (.iload_n 1, 1) := by decide +kernel
theorem d_C_haveCome_1 : decode b_C_haveCome 1 = .ok (.ifCond .lt 18, 3) := by decide +kernel
theorem d_C_haveCome_4 : decode b_C_haveCome 4 = .ok (.iload_n 1, 1) := by decide +kernel
theorem d_C_haveCome_5 : decode b_C_haveCome 5 = .ok (.aload_n 0, 1) := by decide +kernel
theorem d_C_haveCome_6 : decode b_C_haveCome 6 = .ok (.getfield 18, 3) := by decide +kernel
theorem d_C_haveCome_9 : decode b_C_haveCome 9 = .ok (.invokevirtual 126, 3) := by decide +kernel
theorem d_C_haveCome_12 : decode b_C_haveCome 12 = .ok (.if_icmp .gt 7, 3) := by decide +kernel
theorem d_C_haveCome_15 : decode b_C_haveCome 15 = .ok (.iconst 1, 1) := by decide +kernel
theorem d_C_haveCome_16 : decode b_C_haveCome 16 = .ok (.goto 4, 3) := by decide +kernel
theorem d_C_haveCome_19 : decode b_C_haveCome 19 = .ok (.iconst 0, 1) := by decide +kernel
theorem d_C_haveCome_20 : decode b_C_haveCome 20 = .ok (.ireturn, 1) := by decide +kernel
theorem d_L_wasAt_0 : decode b_L_wasAt 0 = .ok (.aload_n 3, 1) := by decide +kernel
theorem d_L_wasAt_1 : decode b_L_wasAt 1 = .ok (.iconst 0, 1) := by decide +kernel
theorem d_L_wasAt_2 : decode b_L_wasAt 2 = .ok (.aload_n 0, 1) := by decide +kernel
theorem d_L_wasAt_3 : decode b_L_wasAt 3 = .ok (.iload_n 1, 1) := by decide +kernel
theorem d_L_wasAt_4 : decode b_L_wasAt 4 = .ok (.iload_n 2, 1) := by decide +kernel
theorem d_L_wasAt_5 : decode b_L_wasAt 5 = .ok (.invokevirtual 49, 3) := by decide +kernel
theorem d_L_wasAt_8 : decode b_L_wasAt 8 = .ok (.i2l, 1) := by decide +kernel
theorem d_L_wasAt_9 : decode b_L_wasAt 9 = .ok (.lastore, 1) := by decide +kernel
theorem d_L_wasAt_10 : decode b_L_wasAt 10 = .ok (.goto 7, 3) := by decide +kernel
theorem d_L_wasAt_13 : decode b_L_wasAt 13 = .ok (.astore 4, 2) := by decide +kernel
theorem d_L_wasAt_15 : decode b_L_wasAt 15 = .ok (.iconst 1, 1) := by decide +kernel
theorem d_L_wasAt_16 : decode b_L_wasAt 16 = .ok (.ireturn, 1) := by decide +kernel
theorem d_L_wasAt_17 : decode b_L_wasAt 17 = .ok (.iconst 0, 1) := by decide +kernel
theorem d_L_wasAt_18 : decode b_L_wasAt 18 = .ok (.ireturn, 1) := by decide +kernel
theorem d_C_wasAt_0 : decode b_C_wasAt 0 = .ok (.aload_n 0, 1) := by decide +kernel
theorem d_C_wasAt_1 : decode b_C_wasAt 1 = .ok (.iload_n 1, 1) := by decide +kernel
theorem d_C_wasAt_2 : decode b_C_wasAt 2 = .ok (.invokevirtual 152, 3) := by decide +kernel
theorem d_C_wasAt_5 : decode b_C_wasAt 5 = .ok (.ifCond .eq 12, 3) := by decide +kernel
theorem d_C_wasAt_8 : decode b_C_wasAt 8 = .ok (.aload_n 0, 1) := by decide +kernel
theorem d_C_wasAt_9 : decode b_C_wasAt 9 = .ok (.iload_n 1, 1) := by decide +kernel
theorem d_C_wasAt_10 : decode b_C_wasAt 10 = .ok (.iload_n 2, 1) := by decide +kernel
theorem d_C_wasAt_11 : decode b_C_wasAt 11 = .ok (.invokevirtual 129, 3) := by decide +kernel
theorem d_C_wasAt_14 : decode b_C_wasAt 14 = .ok (.goto 4, 3) := by decide +kernel
theorem d_C_wasAt_17 : decode b_C_wasAt 17 = .ok (.aconst_null, 1) := by decide +kernel
theorem d_C_wasAt_18 : decode b_C_wasAt 18 = .ok (.astore_n 3, 1) := by decide +kernel
theorem d_C_wasAt_19 : decode b_C_wasAt 19 = .ok (.aload_n 3, 1) := by decide +kernel
theorem d_C_wasAt_20 : decode b_C_wasAt 20 = .ok (.ifnonnull 11, 3) := by decide +kernel
theorem d_C_wasAt_23 : decode b_C_wasAt 23 = .ok (.new 108, 3) := by decide +kernel
theorem d_C_wasAt_26 : decode b_C_wasAt 26 = .ok (.dup, 1) := by decide +kernel
theorem d_C_wasAt_27 : decode b_C_wasAt 27 = .ok (.invokespecial 110, 3) := by decide +kernel
theorem d_C_wasAt_30 : decode b_C_wasAt 30 = .ok (.athrow, 1) := by decide +kernel
theorem d_C_wasAt_31 : decode b_C_wasAt 31 = .ok (.aload_n 3, 1) := by decide +kernel
theorem d_C_wasAt_32 : decode b_C_wasAt 32 = .ok (.getfield 133, 3) := by decide +kernel
theorem d_C_wasAt_35 : decode b_C_wasAt 35 = .ok (.ireturn, 1) := by decide +kernel
theorem d_L_line_0 : decode b_L_line 0 = .ok (.aload_n 2, 1) := by decide +kernel
theorem d_L_line_1 : decode b_L_line 1 = .ok (.iconst 0, 1) := by decide +kernel
theorem d_L_line_2 : decode b_L_line 2 = .ok (.aload_n 0, 1) := by decide +kernel
theorem d_L_line_3 : decode b_L_line 3 = .ok (.iload_n 1, 1) := by decide +kernel
theorem d_L_line_4 : decode b_L_line 4 = .ok (.invokevirtual 52, 3) := by decide +kernel
theorem d_L_line_7 : decode b_L_line 7 = .ok (.i2l, 1) := by decide +kernel
theorem d_L_line_8 : decode b_L_line 8 = .ok (.lastore, 1) := by decide +kernel
theorem d_L_line_9 : decode b_L_line 9 = .ok (.goto 6, 3) := by decide +kernel
theorem d_L_line_12 : decode b_L_line 12 = .ok (.astore_n 3, 1) := by decide +kernel
theorem d_L_line_13 : decode b_L_line 13 = .ok (.iconst 1, 1) := by decide +kernel
theorem d_L_line_14 : decode b_L_line 14 = .ok (.ireturn, 1) := by decide +kernel
theorem d_L_line_15 : decode b_L_line 15 = .ok (.iconst 0, 1) := by decide +kernel
theorem d_L_line_16 : decode b_L_line 16 = .ok (.ireturn, 1) := by decide +kernel
theorem d_C_line_0 : decode b_C_line 0 = .ok (.iload_n 1, 1) := by decide +kernel
theorem d_C_line_1 : decode b_C_line 1 = .ok (.ifCond .ne 5, 3) := by decide +kernel
theorem d_C_line_4 : decode b_C_line 4 = .ok (.iconst 0, 1) := by decide +kernel
theorem d_C_line_5 : decode b_C_line 5 = .ok (.ireturn, 1) := by decide +kernel
theorem d_C_line_6 : decode b_C_line 6 = .ok (.iconst 0, 1) := by decide +kernel
theorem d_C_line_7 : decode b_C_line 7 = .ok (.istore_n 2, 1) := by decide +kernel
theorem d_C_line_8 : decode b_C_line 8 = .ok (.iconst 0, 1) := by decide +kernel
theorem d_C_line_9 : decode b_C_line 9 = .ok (.istore_n 3, 1) := by decide +kernel
theorem d_C_line_10 : decode b_C_line 10 = .ok (.aload_n 0, 1) := by decide +kernel
theorem d_C_line_11 : decode b_C_line 11 = .ok (.getfield 40, 3) := by decide +kernel
theorem d_C_line_14 : decode b_C_line 14 = .ok (.getfield 159, 3) := by decide +kernel
theorem d_C_line_17 : decode b_C_line 17 = .ok (.astore 4, 2) := by decide +kernel
theorem d_C_line_19 : decode b_C_line 19 = .ok (.aload 4, 2) := by decide +kernel
theorem d_C_line_21 : decode b_C_line 21 = .ok (.ifnull 51, 3) := by decide +kernel
theorem d_C_line_24 : decode b_C_line 24 = .ok (.aload 4, 2) := by decide +kernel
theorem d_C_line_26 : decode b_C_line 26 = .ok (.aload_n 0, 1) := by decide +kernel
theorem d_C_line_27 : decode b_C_line 27 = .ok (.getfield 18, 3) := by decide +kernel
theorem d_C_line_30 : decode b_C_line 30 = .ok (.invokevirtual 126, 3) := by decide +kernel
theorem d_C_line_33 : decode b_C_line 33 = .ok (.invokevirtual 162, 3) := by decide +kernel
theorem d_C_line_36 : decode b_C_line 36 = .ok (.ifCond .eq 26, 3) := by decide +kernel
theorem d_C_line_39 : decode b_C_line 39 = .ok (.iinc 2 1, 3) := by decide +kernel
theorem d_C_line_42 : decode b_C_line 42 = .ok (.aload 4, 2) := by decide +kernel
theorem d_C_line_44 : decode b_C_line 44 = .ok (.getfield 133, 3) := by decide +kernel
theorem d_C_line_47 : decode b_C_line 47 = .ok (.bipush 10, 2) := by decide +kernel
theorem d_C_line_49 : decode b_C_line 49 = .ok (.if_icmp .ne 13, 3) := by decide +kernel
theorem d_C_line_52 : decode b_C_line 52 = .ok (.iinc 3 1, 3) := by decide +kernel
theorem d_C_line_55 : decode b_C_line 55 = .ok (.iload_n 3, 1) := by decide +kernel
theorem d_C_line_56 : decode b_C_line 56 = .ok (.iload_n 1, 1) := by decide +kernel
theorem d_C_line_57 : decode b_C_line 57 = .ok (.if_icmp .ne 5, 3) := by decide +kernel
theorem d_C_line_60 : decode b_C_line 60 = .ok (.iload_n 2, 1) := by decide +kernel
theorem d_C_line_61 : decode b_C_line 61 = .ok (.ireturn, 1) := by decide +kernel
theorem d_C_line_62 : decode b_C_line 62 = .ok (.aload 4, 2) := by decide +kernel
theorem d_C_line_64 : decode b_C_line 64 = .ok (.getfield 159, 3) := by decide +kernel
theorem d_C_line_67 : decode b_C_line 67 = .ok (.astore 4, 2) := by decide +kernel
theorem d_C_line_69 : decode b_C_line 69 = .ok (.goto (-50), 3) := by decide +kernel
theorem d_C_line_72 : decode b_C_line 72 = .ok (.iload_n 1, 1) := by decide +kernel
theorem d_C_line_73 : decode b_C_line 73 = .ok (.iconst (-1), 1) := by decide +kernel
theorem d_C_line_74 : decode b_C_line 74 = .ok (.if_icmp .ne 7, 3) := by decide +kernel
theorem d_C_line_77 : decode b_C_line 77 = .ok (.iload_n 3, 1) := by decide +kernel
theorem d_C_line_78 : decode b_C_line 78 = .ok (.iconst 1, 1) := by decide +kernel
theorem d_C_line_79 : decode b_C_line 79 = .ok (.iadd, 1) := by decide +kernel
theorem d_C_line_80 : decode b_C_line 80 = .ok (.ireturn, 1) := by decide +kernel
theorem d_C_line_81 : decode b_C_line 81 = .ok (.new 58, 3) := by decide +kernel
theorem d_C_line_84 : decode b_C_line 84 = .ok (.dup, 1) := by decide +kernel
theorem d_C_line_85 : decode b_C_line 85 = .ok (.invokespecial 60, 3) := by decide +kernel
theorem d_C_line_88 : decode b_C_line 88 = .ok (.athrow, 1) := by decide +kernel
theorem d_L_events_0 : decode b_L_events 0 = .ok (.aload_n 2, 1) := by decide +kernel
theorem d_L_events_1 : decode b_L_events 1 = .ok (.iconst 0, 1) := by decide +kernel
theorem d_L_events_2 : decode b_L_events 2 = .ok (.aload_n 0, 1) := by decide +kernel
theorem d_L_events_3 : decode b_L_events 3 = .ok (.iload_n 1, 1) := by decide +kernel
theorem d_L_events_4 : decode b_L_events 4 = .ok (.invokevirtual 55, 3) := by decide +kernel
theorem d_L_events_7 : decode b_L_events 7 = .ok (.i2l, 1) := by decide +kernel
theorem d_L_events_8 : decode b_L_events 8 = .ok (.lastore, 1) := by decide +kernel
theorem d_L_events_9 : decode b_L_events 9 = .ok (.goto 6, 3) := by decide +kernel
theorem d_L_events_12 : decode b_L_events 12 = .ok (.astore_n 3, 1) := by decide +kernel
theorem d_L_events_13 : decode b_L_events 13 = .ok (.iconst 1, 1) := by decide +kernel
theorem d_L_events_14 : decode b_L_events 14 = .ok (.ireturn, 1) := by decide +kernel
theorem d_L_events_15 : decode b_L_events 15 = .ok (.iconst 0, 1) := by decide +kernel
theorem d_L_events_16 : decode b_L_events 16 = .ok (.ireturn, 1) := by decide +kernel
theorem d_C_events_0 : decode b_C_events 0 = .ok (.iload_n 1, 1) := by decide +kernel
theorem d_C_events_1 : decode b_C_events 1 = .ok (.iconst (-1), 1) := by decide +kernel
theorem d_C_events_2 : decode b_C_events 2 = .ok (.if_icmp .ne 11, 3) := by decide +kernel
theorem d_C_events_5 : decode b_C_events 5 = .ok (.aload_n 0, 1) := by decide +kernel
theorem d_C_events_6 : decode b_C_events 6 = .ok (.getfield 18, 3) := by decide +kernel
theorem d_C_events_9 : decode b_C_events 9 = .ok (.invokevirtual 126, 3) := by decide +kernel
theorem d_C_events_12 : decode b_C_events 12 = .ok (.ireturn, 1) := by decide +kernel
theorem d_C_events_13 : decode b_C_events 13 = .ok (.iload_n 1, 1) := by decide +kernel
theorem d_C_events_14 : decode b_C_events 14 = .ok (.invokestatic 165, 3) := by decide +kernel
theorem d_C_events_17 : decode b_C_events 17 = .ok (.ifCond .ne 11, 3) := by decide +kernel
theorem d_C_events_20 : decode b_C_events 20 = .ok (.new 101, 3) := by decide +kernel
theorem d_C_events_23 : decode b_C_events 23 = .ok (.dup, 1) := by decide +kernel
theorem d_C_events_24 : decode b_C_events 24 = .ok (.invokespecial 103, 3) := by decide +kernel
theorem d_C_events_27 : decode b_C_events 27 = .ok (.athrow, 1) := by decide +kernel
theorem d_C_events_28 : decode b_C_events 28 = .ok (.aload_n 0, 1) := by decide +kernel
theorem d_C_events_29 : decode b_C_events 29 = .ok (.iload_n 1, 1) := by decide +kernel
theorem d_C_events_30 : decode b_C_events 30 = .ok (.invokevirtual 168, 3) := by decide +kernel
theorem d_C_events_33 : decode b_C_events 33 = .ok (.astore_n 2, 1) := by decide +kernel
theorem d_C_events_34 : decode b_C_events 34 = .ok (.aload_n 2, 1) := by decide +kernel
theorem d_C_events_35 : decode b_C_events 35 = .ok (.ifnonnull 7, 3) := by decide +kernel
theorem d_C_events_38 : decode b_C_events 38 = .ok (.iconst 0, 1) := by decide +kernel
theorem d_C_events_39 : decode b_C_events 39 = .ok (.goto 10, 3) := by decide +kernel
theorem d_C_events_42 : decode b_C_events 42 = .ok (.aload_n 2, 1) := by decide +kernel
theorem d_C_events_43 : decode b_C_events 43 = .ok (.getfield 171, 3) := by decide +kernel
theorem d_C_events_46 : decode b_C_events 46 = .ok (.invokevirtual 126, 3) := by decide +kernel
theorem d_C_events_49 : decode b_C_events 49 = .ok (.ireturn, 1) := by decide +kernel
theorem d_M_init_0 : decode b_M_init 0 = .ok (.aload_n 0, 1) := by decide +kernel
theorem d_M_init_1 : decode b_M_init 1 = .ok (.invokespecial 1, 3) := by decide +kernel
theorem d_M_init_4 : decode b_M_init 4 = .ok (.aload_n 0, 1) := by decide +kernel
theorem d_M_init_5 : decode b_M_init 5 = .ok (.new 7, 3) := by decide +kernel
theorem d_M_init_8 : decode b_M_init 8 = .ok (.dup, 1) := by decide +kernel
theorem d_M_init_9 : decode b_M_init 9 = .ok (.invokespecial 9, 3) := by decide +kernel
theorem d_M_init_12 : decode b_M_init 12 = .ok (.putfield 10, 3) := by decide +kernel
theorem d_M_init_15 : decode b_M_init 15 = .ok (.aload_n 0, 1) := by decide +kernel
theorem d_M_init_16 : decode b_M_init 16 = .ok (.bipush 16, 2) := by decide +kernel
theorem d_M_init_18 : decode b_M_init 18 = .ok (.newarray .int, 2) := by decide +kernel
theorem d_M_init_20 : decode b_M_init 20 = .ok (.putfield 16, 3) := by decide +kernel
theorem d_M_init_23 : decode b_M_init 23 = .ok (.aload_n 0, 1) := by decide +kernel
theorem d_M_init_24 : decode b_M_init 24 = .ok (.bipush 16, 2) := by decide +kernel
theorem d_M_init_26 : decode b_M_init 26 = .ok (.newarray .int, 2) := by decide +kernel
theorem d_M_init_28 : decode b_M_init 28 = .ok (.putfield 20, 3) := by decide +kernel
theorem d_M_init_31 : decode b_M_init 31 = .ok (.aload_n 0, 1) := by decide +kernel
theorem d_M_init_32 : decode b_M_init 32 = .ok (.bipush 16, 2) := by decide +kernel
theorem d_M_init_34 : decode b_M_init 34 = .ok (.newarray .short, 2) := by decide +kernel
theorem d_M_init_36 : decode b_M_init 36 = .ok (.putfield 23, 3) := by decide +kernel
theorem d_M_init_39 : decode b_M_init 39 = .ok (.return_, 1) := by decide +kernel
theorem d_G_init_0 : decode b_G_init 0 = .ok (.aload_n 0, 1) := by decide +kernel
theorem d_G_init_1 : decode b_G_init 1 = .ok (.invokespecial 3, 3) := by decide +kernel
theorem d_G_init_4 : decode b_G_init 4 = .ok (.aload_n 0, 1) := by decide +kernel
theorem d_G_init_5 : decode b_G_init 5 = .ok (.bipush 16, 2) := by decide +kernel
theorem d_G_init_7 : decode b_G_init 7 = .ok (.newarray .int, 2) := by decide +kernel
theorem d_G_init_9 : decode b_G_init 9 = .ok (.putfield 9, 3) := by decide +kernel
theorem d_G_init_12 : decode b_G_init 12 = .ok (.aload_n 0, 1) := by decide +kernel
theorem d_G_init_13 : decode b_G_init 13 = .ok (.bipush 16, 2) := by decide +kernel
theorem d_G_init_15 : decode b_G_init 15 = .ok (.newarray .int, 2) := by decide +kernel
theorem d_G_init_17 : decode b_G_init 17 = .ok (.putfield 15, 3) := by decide +kernel
theorem d_G_init_20 : decode b_G_init 20 = .ok (.aload_n 0, 1) := by decide +kernel
theorem d_G_init_21 : decode b_G_init 21 = .ok (.bipush 16, 2) := by decide +kernel
theorem d_G_init_23 : decode b_G_init 23 = .ok (.bipush 8, 2) := by decide +kernel
theorem d_G_init_25 : decode b_G_init 25 = .ok (.multianewarray 18 2, 4) := by decide +kernel
theorem d_G_init_29 : decode b_G_init 29 = .ok (.putfield 20, 3) := by decide +kernel
theorem d_G_init_32 : decode b_G_init 32 = .ok (.aload_n 0, 1) := by decide +kernel
theorem d_G_init_33 : decode b_G_init 33 = .ok (.sipush 8192, 3) := by decide +kernel
theorem d_G_init_36 : decode b_G_init 36 = .ok (.newarray .int, 2) := by decide +kernel
theorem d_G_init_38 : decode b_G_init 38 = .ok (.putfield 23, 3) := by decide +kernel
theorem d_G_init_41 : decode b_G_init 41 = .ok (.aload_n 0, 1) := by decide +kernel
theorem d_G_init_42 : decode b_G_init 42 = .ok (.sipush 8192, 3) := by decide +kernel
theorem d_G_init_45 : decode b_G_init 45 = .ok (.newarray .int, 2) := by decide +kernel
theorem d_G_init_47 : decode b_G_init 47 = .ok (.putfield 26, 3) := by decide +kernel
theorem d_G_init_50 : decode b_G_init 50 = .ok (.aload_n 0, 1) := by decide +kernel
theorem d_G_init_51 : decode b_G_init 51 = .ok (.ldc 29, 2) := by decide +kernel
theorem d_G_init_53 : decode b_G_init 53 = .ok (.newarray .short, 2) := by decide +kernel
theorem d_G_init_55 : decode b_G_init 55 = .ok (.putfield 30, 3) := by decide +kernel
theorem d_G_init_58 : decode b_G_init 58 = .ok (.aload_n 0, 1) := by decide +kernel
theorem d_G_init_59 : decode b_G_init 59 = .ok (.sipush 8192, 3) := by decide +kernel
theorem d_G_init_62 : decode b_G_init 62 = .ok (.newarray .boolean, 2) := by decide +kernel
theorem d_G_init_64 : decode b_G_init 64 = .ok (.putfield 34, 3) := by decide +kernel
theorem d_G_init_67 : decode b_G_init 67 = .ok (.aload_n 0, 1) := by decide +kernel
theorem d_G_init_68 : decode b_G_init 68 = .ok (.sipush 8192, 3) := by decide +kernel
theorem d_G_init_71 : decode b_G_init 71 = .ok (.newarray .int, 2) := by decide +kernel
theorem d_G_init_73 : decode b_G_init 73 = .ok (.putfield 38, 3) := by decide +kernel
theorem d_G_init_76 : decode b_G_init 76 = .ok (.aload_n 0, 1) := by decide +kernel
theorem d_G_init_77 : decode b_G_init 77 = .ok (.sipush 8192, 3) := by decide +kernel
theorem d_G_init_80 : decode b_G_init 80 = .ok (.newarray .int, 2) := by decide +kernel
theorem d_G_init_82 : decode b_G_init 82 = .ok (.putfield 41, 3) := by decide +kernel
theorem d_G_init_85 : decode b_G_init 85 = .ok (.aload_n 0, 1) := by decide +kernel
theorem d_G_init_86 : decode b_G_init 86 = .ok (.sipush 8192, 3) := by decide +kernel
theorem d_G_init_89 : decode b_G_init 89 = .ok (.newarray .int, 2) := by decide +kernel
theorem d_G_init_91 : decode b_G_init 91 = .ok (.putfield 44, 3) := by decide +kernel
theorem d_G_init_94 : decode b_G_init 94 = .ok (.aload_n 0, 1) := by decide +kernel
theorem d_G_init_95 : decode b_G_init 95 = .ok (.sipush 8192, 3) := by decide +kernel
theorem d_G_init_98 : decode b_G_init 98 = .ok (.newarray .int, 2) := by decide +kernel
theorem d_G_init_100 : decode b_G_init 100 = .ok (.putfield 47, 3) := by decide +kernel
theorem d_G_init_103 : decode b_G_init 103 = .ok (.aload_n 0, 1) := by decide +kernel
theorem d_G_init_104 : decode b_G_init 104 = .ok (.sipush 8192, 3) := by decide +kernel
theorem d_G_init_107 : decode b_G_init 107 = .ok (.newarray .int, 2) := by decide +kernel
theorem d_G_init_109 : decode b_G_init 109 = .ok (.putfield 50, 3) := by decide +kernel
theorem d_G_init_112 : decode b_G_init 112 = .ok (.aload_n 0, 1) := by decide +kernel
theorem d_G_init_113 : decode b_G_init 113 = .ok (.sipush 8192, 3) := by decide +kernel
theorem d_G_init_116 : decode b_G_init 116 = .ok (.newarray .int, 2) := by decide +kernel
theorem d_G_init_118 : decode b_G_init 118 = .ok (.putfield 53, 3) := by decide +kernel
theorem d_G_init_121 : decode b_G_init 121 = .ok (.aload_n 0, 1) := by decide +kernel
theorem d_G_init_122 : decode b_G_init 122 = .ok (.sipush 8192, 3) := by decide +kernel
theorem d_G_init_125 : decode b_G_init 125 = .ok (.newarray .boolean, 2) := by decide +kernel
theorem d_G_init_127 : decode b_G_init 127 = .ok (.putfield 56, 3) := by decide +kernel
theorem d_G_init_130 : decode b_G_init 130 = .ok (.aload_n 0, 1) := by decide +kernel
theorem d_G_init_131 : decode b_G_init 131 = .ok (.iconst (-1), 1) := by decide +kernel
theorem d_G_init_132 : decode b_G_init 132 = .ok (.putfield 59, 3) := by decide +kernel
theorem d_G_init_135 : decode b_G_init 135 = .ok (.aload_n 0, 1) := by decide +kernel
theorem d_G_init_136 : decode b_G_init 136 = .ok (.sipush 8192, 3) := by decide +kernel
theorem d_G_init_139 : decode b_G_init 139 = .ok (.newarray .int, 2) := by decide +kernel
theorem d_G_init_141 : decode b_G_init 141 = .ok (.putfield 63, 3) := by decide +kernel
theorem d_G_init_144 : decode b_G_init 144 = .ok (.aload_n 0, 1) := by decide +kernel
theorem d_G_init_145 : decode b_G_init 145 = .ok (.sipush 8192, 3) := by decide +kernel
theorem d_G_init_148 : decode b_G_init 148 = .ok (.newarray .int, 2) := by decide +kernel
theorem d_G_init_150 : decode b_G_init 150 = .ok (.putfield 66, 3) := by decide +kernel
theorem d_G_init_153 : decode b_G_init 153 = .ok (.aload_n 0, 1) := by decide +kernel
theorem d_G_init_154 : decode b_G_init 154 = .ok (.sipush 8192, 3) := by decide +kernel
theorem d_G_init_157 : decode b_G_init 157 = .ok (.newarray .int, 2) := by decide +kernel
theorem d_G_init_159 : decode b_G_init 159 = .ok (.putfield 69, 3) := by decide +kernel
theorem d_G_init_162 : decode b_G_init 162 = .ok (.aload_n 0, 1) := by decide +kernel
theorem d_G_init_163 : decode b_G_init 163 = .ok (.sipush 8192, 3) := by decide +kernel
theorem d_G_init_166 : decode b_G_init 166 = .ok (.newarray .int, 2) := by decide +kernel
theorem d_G_init_168 : decode b_G_init 168 = .ok (.putfield 72, 3) := by decide +kernel
theorem d_G_init_171 : decode b_G_init 171 = .ok (.return_, 1) := by decide +kernel
theorem d_M_thrown_0 : decode b_M_thrown 0 = .ok (.aload_n 0, 1) := by decide +kernel
theorem d_M_thrown_1 : decode b_M_thrown 1 = .ok (.getfield 174, 3) := by decide +kernel
theorem d_M_thrown_4 : decode b_M_thrown 4 = .ok (.ireturn, 1) := by decide +kernel
theorem d_M_parent_0 : decode b_M_parent 0 = .ok (.aload_n 0, 1) := by decide +kernel
theorem d_M_parent_1 : decode b_M_parent 1 = .ok (.iconst 0, 1) := by decide +kernel
theorem d_M_parent_2 : decode b_M_parent 2 = .ok (.putfield 174, 3) := by decide +kernel
theorem d_M_parent_5 : decode b_M_parent 5 = .ok (.aload_n 0, 1) := by decide +kernel
theorem d_M_parent_6 : decode b_M_parent 6 = .ok (.iload_n 1, 1) := by decide +kernel
theorem d_M_parent_7 : decode b_M_parent 7 = .ok (.iload_n 2, 1) := by decide +kernel
theorem d_M_parent_8 : decode b_M_parent 8 = .ok (.invokevirtual 177, 3) := by decide +kernel
theorem d_M_parent_11 : decode b_M_parent 11 = .ok (.ireturn, 1) := by decide +kernel
theorem d_M_parent_12 : decode b_M_parent 12 = .ok (.astore_n 3, 1) := by decide +kernel
theorem d_M_parent_13 : decode b_M_parent 13 = .ok (.aload_n 0, 1) := by decide +kernel
theorem d_M_parent_14 : decode b_M_parent 14 = .ok (.iconst 1, 1) := by decide +kernel
theorem d_M_parent_15 : decode b_M_parent 15 = .ok (.putfield 174, 3) := by decide +kernel
theorem d_M_parent_18 : decode b_M_parent 18 = .ok (.goto 18, 3) := by decide +kernel
theorem d_M_parent_21 : decode b_M_parent 21 = .ok (.astore_n 3, 1) := by decide +kernel
theorem d_M_parent_22 : decode b_M_parent 22 = .ok (.aload_n 0, 1) := by decide +kernel
theorem d_M_parent_23 : decode b_M_parent 23 = .ok (.iconst 2, 1) := by decide +kernel
theorem d_M_parent_24 : decode b_M_parent 24 = .ok (.putfield 174, 3) := by decide +kernel
theorem d_M_parent_27 : decode b_M_parent 27 = .ok (.goto 9, 3) := by decide +kernel
theorem d_M_parent_30 : decode b_M_parent 30 = .ok (.astore_n 3, 1) := by decide +kernel
theorem d_M_parent_31 : decode b_M_parent 31 = .ok (.aload_n 0, 1) := by decide +kernel
theorem d_M_parent_32 : decode b_M_parent 32 = .ok (.iconst 3, 1) := by decide +kernel
theorem d_M_parent_33 : decode b_M_parent 33 = .ok (.putfield 174, 3) := by decide +kernel
theorem d_M_parent_36 : decode b_M_parent 36 = .ok (.iconst 0, 1) := by decide +kernel
theorem d_M_parent_37 : decode b_M_parent 37 = .ok (.ireturn, 1) := by decide +kernel
theorem d_M_parent0_0 : decode b_M_parent0 0 = .ok (.aload_n 0, 1) := by decide +kernel
theorem d_M_parent0_1 : decode b_M_parent0 1 = .ok (.getfield 10, 3) := by decide +kernel
theorem d_M_parent0_4 : decode b_M_parent0 4 = .ok (.iload_n 1, 1) := by decide +kernel
theorem d_M_parent0_5 : decode b_M_parent0 5 = .ok (.iload_n 2, 1) := by decide +kernel
theorem d_M_parent0_6 : decode b_M_parent0 6 = .ok (.invokevirtual 30, 3) := by decide +kernel
theorem d_M_parent0_9 : decode b_M_parent0 9 = .ok (.istore_n 3, 1) := by decide +kernel
theorem d_M_parent0_10 : decode b_M_parent0 10 = .ok (.iload_n 3, 1) := by decide +kernel
theorem d_M_parent0_11 : decode b_M_parent0 11 = .ok (.ifCond .ge 11, 3) := by decide +kernel
theorem d_M_parent0_14 : decode b_M_parent0 14 = .ok (.new 34, 3) := by decide +kernel
theorem d_M_parent0_17 : decode b_M_parent0 17 = .ok (.dup, 1) := by decide +kernel
theorem d_M_parent0_18 : decode b_M_parent0 18 = .ok (.invokespecial 36, 3) := by decide +kernel
theorem d_M_parent0_21 : decode b_M_parent0 21 = .ok (.athrow, 1) := by decide +kernel
theorem d_M_parent0_22 : decode b_M_parent0 22 = .ok (.iconst 0, 1) := by decide +kernel
theorem d_M_parent0_23 : decode b_M_parent0 23 = .ok (.istore 4, 2) := by decide +kernel
theorem d_M_parent0_25 : decode b_M_parent0 25 = .ok (.iload 4, 2) := by decide +kernel
theorem d_M_parent0_27 : decode b_M_parent0 27 = .ok (.aload_n 0, 1) := by decide +kernel
theorem d_M_parent0_28 : decode b_M_parent0 28 = .ok (.getfield 37, 3) := by decide +kernel
theorem d_M_parent0_31 : decode b_M_parent0 31 = .ok (.if_icmp .ge 28, 3) := by decide +kernel
theorem d_M_parent0_34 : decode b_M_parent0 34 = .ok (.aload_n 0, 1) := by decide +kernel
theorem d_M_parent0_35 : decode b_M_parent0 35 = .ok (.getfield 16, 3) := by decide +kernel
theorem d_M_parent0_38 : decode b_M_parent0 38 = .ok (.iload 4, 2) := by decide +kernel
theorem d_M_parent0_40 : decode b_M_parent0 40 = .ok (.iaload, 1) := by decide +kernel
theorem d_M_parent0_41 : decode b_M_parent0 41 = .ok (.iload_n 3, 1) := by decide +kernel
theorem d_M_parent0_42 : decode b_M_parent0 42 = .ok (.if_icmp .ne 11, 3) := by decide +kernel
theorem d_M_parent0_45 : decode b_M_parent0 45 = .ok (.new 41, 3) := by decide +kernel
theorem d_M_parent0_48 : decode b_M_parent0 48 = .ok (.dup, 1) := by decide +kernel
theorem d_M_parent0_49 : decode b_M_parent0 49 = .ok (.invokespecial 43, 3) := by decide +kernel
theorem d_M_parent0_52 : decode b_M_parent0 52 = .ok (.athrow, 1) := by decide +kernel
theorem d_M_parent0_53 : decode b_M_parent0 53 = .ok (.iinc 4 1, 3) := by decide +kernel
theorem d_M_parent0_56 : decode b_M_parent0 56 = .ok (.goto (-31), 3) := by decide +kernel
theorem d_M_parent0_59 : decode b_M_parent0 59 = .ok (.aload_n 0, 1) := by decide +kernel
theorem d_M_parent0_60 : decode b_M_parent0 60 = .ok (.getfield 37, 3) := by decide +kernel
theorem d_M_parent0_63 : decode b_M_parent0 63 = .ok (.bipush 16, 2) := by decide +kernel
theorem d_M_parent0_65 : decode b_M_parent0 65 = .ok (.if_icmp .ne 11, 3) := by decide +kernel
theorem d_M_parent0_68 : decode b_M_parent0 68 = .ok (.new 44, 3) := by decide +kernel
theorem d_M_parent0_71 : decode b_M_parent0 71 = .ok (.dup, 1) := by decide +kernel
theorem d_M_parent0_72 : decode b_M_parent0 72 = .ok (.invokespecial 46, 3) := by decide +kernel
theorem d_M_parent0_75 : decode b_M_parent0 75 = .ok (.athrow, 1) := by decide +kernel
theorem d_M_parent0_76 : decode b_M_parent0 76 = .ok (.aload_n 0, 1) := by decide +kernel
theorem d_M_parent0_77 : decode b_M_parent0 77 = .ok (.getfield 16, 3) := by decide +kernel
theorem d_M_parent0_80 : decode b_M_parent0 80 = .ok (.aload_n 0, 1) := by decide +kernel
theorem d_M_parent0_81 : decode b_M_parent0 81 = .ok (.getfield 37, 3) := by decide +kernel
theorem d_M_parent0_84 : decode b_M_parent0 84 = .ok (.iload_n 3, 1) := by decide +kernel
theorem d_M_parent0_85 : decode b_M_parent0 85 = .ok (.iastore, 1) := by decide +kernel
theorem d_M_parent0_86 : decode b_M_parent0 86 = .ok (.aload_n 0, 1) := by decide +kernel
theorem d_M_parent0_87 : decode b_M_parent0 87 = .ok (.dup, 1) := by decide +kernel
theorem d_M_parent0_88 : decode b_M_parent0 88 = .ok (.getfield 37, 3) := by decide +kernel
theorem d_M_parent0_91 : decode b_M_parent0 91 = .ok (.iconst 1, 1) := by decide +kernel
theorem d_M_parent0_92 : decode b_M_parent0 92 = .ok (.iadd, 1) := by decide +kernel
theorem d_M_parent0_93 : decode b_M_parent0 93 = .ok (.putfield 37, 3) := by decide +kernel
theorem d_M_parent0_96 : decode b_M_parent0 96 = .ok (.aload_n 0, 1) := by decide +kernel
theorem d_M_parent0_97 : decode b_M_parent0 97 = .ok (.getfield 37, 3) := by decide +kernel
theorem d_M_parent0_100 : decode b_M_parent0 100 = .ok (.ireturn, 1) := by decide +kernel
theorem d_G_find_0 : decode b_G_find 0 = .ok (.aload_n 0, 1) := by decide +kernel
theorem d_G_find_1 : decode b_G_find 1 = .ok (.iload_n 1, 1) := by decide +kernel
theorem d_G_find_2 : decode b_G_find 2 = .ok (.invokevirtual 78, 3) := by decide +kernel
theorem d_G_find_5 : decode b_G_find 5 = .ok (.istore_n 3, 1) := by decide +kernel
theorem d_G_find_6 : decode b_G_find 6 = .ok (.iload_n 3, 1) := by decide +kernel
theorem d_G_find_7 : decode b_G_find 7 = .ok (.ifCond .lt 17, 3) := by decide +kernel
theorem d_G_find_10 : decode b_G_find 10 = .ok (.iload_n 2, 1) := by decide +kernel
theorem d_G_find_11 : decode b_G_find 11 = .ok (.ifCond .lt 13, 3) := by decide +kernel
theorem d_G_find_14 : decode b_G_find 14 = .ok (.iload_n 2, 1) := by decide +kernel
theorem d_G_find_15 : decode b_G_find 15 = .ok (.aload_n 0, 1) := by decide +kernel
theorem d_G_find_16 : decode b_G_find 16 = .ok (.getfield 15, 3) := by decide +kernel
theorem d_G_find_19 : decode b_G_find 19 = .ok (.iload_n 3, 1) := by decide +kernel
theorem d_G_find_20 : decode b_G_find 20 = .ok (.iaload, 1) := by decide +kernel
theorem d_G_find_21 : decode b_G_find 21 = .ok (.if_icmp .lt 7, 3) := by decide +kernel
theorem d_G_find_24 : decode b_G_find 24 = .ok (.iconst (-1), 1) := by decide +kernel
theorem d_G_find_25 : decode b_G_find 25 = .ok (.goto 11, 3) := by decide +kernel
theorem d_G_find_28 : decode b_G_find 28 = .ok (.aload_n 0, 1) := by decide +kernel
theorem d_G_find_29 : decode b_G_find 29 = .ok (.getfield 20, 3) := by decide +kernel
theorem d_G_find_32 : decode b_G_find 32 = .ok (.iload_n 3, 1) := by decide +kernel
theorem d_G_find_33 : decode b_G_find 33 = .ok (.aaload, 1) := by decide +kernel
theorem d_G_find_34 : decode b_G_find 34 = .ok (.iload_n 2, 1) := by decide +kernel
theorem d_G_find_35 : decode b_G_find 35 = .ok (.iaload, 1) := by decide +kernel
theorem d_G_find_36 : decode b_G_find 36 = .ok (.ireturn, 1) := by decide +kernel
theorem d_G_slotOf_0 : decode b_G_slotOf 0 = .ok (.iconst 0, 1) := by decide +kernel
theorem d_G_slotOf_1 : decode b_G_slotOf 1 = .ok (.istore_n 2, 1) := by decide +kernel
theorem d_G_slotOf_2 : decode b_G_slotOf 2 = .ok (.iload_n 2, 1) := by decide +kernel
theorem d_G_slotOf_3 : decode b_G_slotOf 3 = .ok (.aload_n 0, 1) := by decide +kernel
theorem d_G_slotOf_4 : decode b_G_slotOf 4 = .ok (.getfield 75, 3) := by decide +kernel
theorem d_G_slotOf_7 : decode b_G_slotOf 7 = .ok (.if_icmp .ge 21, 3) := by decide +kernel
theorem d_G_slotOf_10 : decode b_G_slotOf 10 = .ok (.aload_n 0, 1) := by decide +kernel
theorem d_G_slotOf_11 : decode b_G_slotOf 11 = .ok (.getfield 9, 3) := by decide +kernel
theorem d_G_slotOf_14 : decode b_G_slotOf 14 = .ok (.iload_n 2, 1) := by decide +kernel
theorem d_G_slotOf_15 : decode b_G_slotOf 15 = .ok (.iaload, 1) := by decide +kernel
theorem d_G_slotOf_16 : decode b_G_slotOf 16 = .ok (.iload_n 1, 1) := by decide +kernel
theorem d_G_slotOf_17 : decode b_G_slotOf 17 = .ok (.if_icmp .ne 5, 3) := by decide +kernel
theorem d_G_slotOf_20 : decode b_G_slotOf 20 = .ok (.iload_n 2, 1) := by decide +kernel
theorem d_G_slotOf_21 : decode b_G_slotOf 21 = .ok (.ireturn, 1) := by decide +kernel
theorem d_G_slotOf_22 : decode b_G_slotOf 22 = .ok (.iinc 2 1, 3) := by decide +kernel
theorem d_G_slotOf_25 : decode b_G_slotOf 25 = .ok (.goto (-23), 3) := by decide +kernel
theorem d_G_slotOf_28 : decode b_G_slotOf 28 = .ok (.iconst (-1), 1) := by decide +kernel
theorem d_G_slotOf_29 : decode b_G_slotOf 29 = .ok (.ireturn, 1) := by decide +kernel
theorem d_M_heads_0 : decode b_M_heads 0 = .ok (.aload_n 0, 1) := by decide +kernel
theorem d_M_heads_1 : decode b_M_heads 1 = .ok (.iconst 0, 1) := by decide +kernel
theorem d_M_heads_2 : decode b_M_heads 2 = .ok (.putfield 174, 3) := by decide +kernel
theorem d_M_heads_5 : decode b_M_heads 5 = .ok (.aload_n 0, 1) := by decide +kernel
theorem d_M_heads_6 : decode b_M_heads 6 = .ok (.invokevirtual 180, 3) := by decide +kernel
theorem d_M_heads_9 : decode b_M_heads 9 = .ok (.ireturn, 1) := by decide +kernel
theorem d_M_heads0_0 : decode b_M_heads0 0 = .ok (.aload_n 0, 1) := by decide +kernel
theorem d_M_heads0_1 : decode b_M_heads0 1 = .ok (.getfield 10, 3) := by decide +kernel
theorem d_M_heads0_4 : decode b_M_heads0 4 = .ok (.aload_n 0, 1) := by decide +kernel
theorem d_M_heads0_5 : decode b_M_heads0 5 = .ok (.getfield 23, 3) := by decide +kernel
theorem d_M_heads0_8 : decode b_M_heads0 8 = .ok (.invokevirtual 47, 3) := by decide +kernel
theorem d_M_heads0_11 : decode b_M_heads0 11 = .ok (.aload_n 0, 1) := by decide +kernel
theorem d_M_heads0_12 : decode b_M_heads0 12 = .ok (.aload_n 0, 1) := by decide +kernel
theorem d_M_heads0_13 : decode b_M_heads0 13 = .ok (.getfield 10, 3) := by decide +kernel
theorem d_M_heads0_16 : decode b_M_heads0 16 = .ok (.aload_n 0, 1) := by decide +kernel
theorem d_M_heads0_17 : decode b_M_heads0 17 = .ok (.getfield 23, 3) := by decide +kernel
theorem d_M_heads0_20 : decode b_M_heads0 20 = .ok (.iconst 0, 1) := by decide +kernel
theorem d_M_heads0_21 : decode b_M_heads0 21 = .ok (.aload_n 0, 1) := by decide +kernel
theorem d_M_heads0_22 : decode b_M_heads0 22 = .ok (.getfield 16, 3) := by decide +kernel
theorem d_M_heads0_25 : decode b_M_heads0 25 = .ok (.invokevirtual 51, 3) := by decide +kernel
theorem d_M_heads0_28 : decode b_M_heads0 28 = .ok (.putfield 37, 3) := by decide +kernel
theorem d_M_heads0_31 : decode b_M_heads0 31 = .ok (.aload_n 0, 1) := by decide +kernel
theorem d_M_heads0_32 : decode b_M_heads0 32 = .ok (.getfield 37, 3) := by decide +kernel
theorem d_M_heads0_35 : decode b_M_heads0 35 = .ok (.ireturn, 1) := by decide +kernel
theorem d_G_all_0 : decode b_G_all 0 = .ok (.iconst 0, 1) := by decide +kernel
theorem d_G_all_1 : decode b_G_all 1 = .ok (.istore_n 2, 1) := by decide +kernel
theorem d_G_all_2 : decode b_G_all 2 = .ok (.iload_n 2, 1) := by decide +kernel
theorem d_G_all_3 : decode b_G_all 3 = .ok (.bipush 16, 2) := by decide +kernel
theorem d_G_all_5 : decode b_G_all 5 = .ok (.if_icmp .ge 31, 3) := by decide +kernel
theorem d_G_all_8 : decode b_G_all 8 = .ok (.aload_n 1, 1) := by decide +kernel
theorem d_G_all_9 : decode b_G_all 9 = .ok (.iload_n 2, 1) := by decide +kernel
theorem d_G_all_10 : decode b_G_all 10 = .ok (.iload_n 2, 1) := by decide +kernel
theorem d_G_all_11 : decode b_G_all 11 = .ok (.aload_n 0, 1) := by decide +kernel
theorem d_G_all_12 : decode b_G_all 12 = .ok (.getfield 75, 3) := by decide +kernel
theorem d_G_all_15 : decode b_G_all 15 = .ok (.if_icmp .ge 12, 3) := by decide +kernel
theorem d_G_all_18 : decode b_G_all 18 = .ok (.aload_n 0, 1) := by decide +kernel
theorem d_G_all_19 : decode b_G_all 19 = .ok (.getfield 15, 3) := by decide +kernel
theorem d_G_all_22 : decode b_G_all 22 = .ok (.iload_n 2, 1) := by decide +kernel
theorem d_G_all_23 : decode b_G_all 23 = .ok (.iaload, 1) := by decide +kernel
theorem d_G_all_24 : decode b_G_all 24 = .ok (.goto 4, 3) := by decide +kernel
theorem d_G_all_27 : decode b_G_all 27 = .ok (.iconst 0, 1) := by decide +kernel
theorem d_G_all_28 : decode b_G_all 28 = .ok (.i2s, 1) := by decide +kernel
theorem d_G_all_29 : decode b_G_all 29 = .ok (.sastore, 1) := by decide +kernel
theorem d_G_all_30 : decode b_G_all 30 = .ok (.iinc 2 1, 3) := by decide +kernel
theorem d_G_all_33 : decode b_G_all 33 = .ok (.goto (-31), 3) := by decide +kernel
theorem d_G_all_36 : decode b_G_all 36 = .ok (.return_, 1) := by decide +kernel
theorem d_G_tops_0 : decode b_G_tops 0 = .ok (.iconst 0, 1) := by decide +kernel
theorem d_G_tops_1 : decode b_G_tops 1 = .ok (.istore 4, 2) := by decide +kernel
theorem d_G_tops_3 : decode b_G_tops 3 = .ok (.iconst 0, 1) := by decide +kernel
theorem d_G_tops_4 : decode b_G_tops 4 = .ok (.istore 5, 2) := by decide +kernel
theorem d_G_tops_6 : decode b_G_tops 6 = .ok (.iload 5, 2) := by decide +kernel
theorem d_G_tops_8 : decode b_G_tops 8 = .ok (.aload_n 0, 1) := by decide +kernel
theorem d_G_tops_9 : decode b_G_tops 9 = .ok (.getfield 75, 3) := by decide +kernel
theorem d_G_tops_12 : decode b_G_tops 12 = .ok (.if_icmp .ge 143, 3) := by decide +kernel
theorem d_G_tops_15 : decode b_G_tops 15 = .ok (.aload_n 0, 1) := by decide +kernel
theorem d_G_tops_16 : decode b_G_tops 16 = .ok (.aload_n 1, 1) := by decide +kernel
theorem d_G_tops_17 : decode b_G_tops 17 = .ok (.iload_n 2, 1) := by decide +kernel
theorem d_G_tops_18 : decode b_G_tops 18 = .ok (.iload 5, 2) := by decide +kernel
theorem d_G_tops_20 : decode b_G_tops 20 = .ok (.invokevirtual 133, 3) := by decide +kernel
theorem d_G_tops_23 : decode b_G_tops 23 = .ok (.istore 6, 2) := by decide +kernel
theorem d_G_tops_25 : decode b_G_tops 25 = .ok (.iload 6, 2) := by decide +kernel
theorem d_G_tops_27 : decode b_G_tops 27 = .ok (.ifCond .ge 6, 3) := by decide +kernel
theorem d_G_tops_30 : decode b_G_tops 30 = .ok (.goto 119, 3) := by decide +kernel
theorem d_G_tops_33 : decode b_G_tops 33 = .ok (.iconst 1, 1) := by decide +kernel
theorem d_G_tops_34 : decode b_G_tops 34 = .ok (.istore 7, 2) := by decide +kernel
theorem d_G_tops_36 : decode b_G_tops 36 = .ok (.iconst 0, 1) := by decide +kernel
theorem d_G_tops_37 : decode b_G_tops 37 = .ok (.istore 8, 2) := by decide +kernel
theorem d_G_tops_39 : decode b_G_tops 39 = .ok (.iload 8, 2) := by decide +kernel
theorem d_G_tops_41 : decode b_G_tops 41 = .ok (.aload_n 0, 1) := by decide +kernel
theorem d_G_tops_42 : decode b_G_tops 42 = .ok (.getfield 75, 3) := by decide +kernel
theorem d_G_tops_45 : decode b_G_tops 45 = .ok (.if_icmp .ge 47, 3) := by decide +kernel
theorem d_G_tops_48 : decode b_G_tops 48 = .ok (.aload_n 0, 1) := by decide +kernel
theorem d_G_tops_49 : decode b_G_tops 49 = .ok (.aload_n 1, 1) := by decide +kernel
theorem d_G_tops_50 : decode b_G_tops 50 = .ok (.iload_n 2, 1) := by decide +kernel
theorem d_G_tops_51 : decode b_G_tops 51 = .ok (.iload 8, 2) := by decide +kernel
theorem d_G_tops_53 : decode b_G_tops 53 = .ok (.invokevirtual 133, 3) := by decide +kernel
theorem d_G_tops_56 : decode b_G_tops 56 = .ok (.ifCond .lt 30, 3) := by decide +kernel
theorem d_G_tops_59 : decode b_G_tops 59 = .ok (.iload 7, 2) := by decide +kernel
theorem d_G_tops_61 : decode b_G_tops 61 = .ok (.aload_n 0, 1) := by decide +kernel
theorem d_G_tops_62 : decode b_G_tops 62 = .ok (.iload 6, 2) := by decide +kernel
theorem d_G_tops_64 : decode b_G_tops 64 = .ok (.aload_n 0, 1) := by decide +kernel
theorem d_G_tops_65 : decode b_G_tops 65 = .ok (.aload_n 1, 1) := by decide +kernel
theorem d_G_tops_66 : decode b_G_tops 66 = .ok (.iload_n 2, 1) := by decide +kernel
theorem d_G_tops_67 : decode b_G_tops 67 = .ok (.iload 8, 2) := by decide +kernel
theorem d_G_tops_69 : decode b_G_tops 69 = .ok (.invokevirtual 133, 3) := by decide +kernel
theorem d_G_tops_72 : decode b_G_tops 72 = .ok (.invokevirtual 136, 3) := by decide +kernel
theorem d_G_tops_75 : decode b_G_tops 75 = .ok (.ifCond .ne 7, 3) := by decide +kernel
theorem d_G_tops_78 : decode b_G_tops 78 = .ok (.iconst 1, 1) := by decide +kernel
theorem d_G_tops_79 : decode b_G_tops 79 = .ok (.goto 4, 3) := by decide +kernel
theorem d_G_tops_82 : decode b_G_tops 82 = .ok (.iconst 0, 1) := by decide +kernel
theorem d_G_tops_83 : decode b_G_tops 83 = .ok (.iand, 1) := by decide +kernel
theorem d_G_tops_84 : decode b_G_tops 84 = .ok (.istore 7, 2) := by decide +kernel
theorem d_G_tops_86 : decode b_G_tops 86 = .ok (.iinc 8 1, 3) := by decide +kernel
theorem d_G_tops_89 : decode b_G_tops 89 = .ok (.goto (-50), 3) := by decide +kernel
