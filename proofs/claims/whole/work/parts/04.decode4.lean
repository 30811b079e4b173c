theorem d_G_firstOf_7 : decode b_G_firstOf 7 = .ok (.iaload, 1) := by decide +kernel
theorem d_G_firstOf_8 : decode b_G_firstOf 8 = .ok (.ifCond .lt 13, 3) := by decide +kernel
theorem d_G_firstOf_11 : decode b_G_firstOf 11 = .ok (.aload_n 0, 1) := by decide +kernel
theorem d_G_firstOf_12 : decode b_G_firstOf 12 = .ok (.getfield 50, 3) := by decide +kernel
theorem d_G_firstOf_15 : decode b_G_firstOf 15 = .ok (.iload_n 2, 1) := by decide +kernel
theorem d_G_firstOf_16 : decode b_G_firstOf 16 = .ok (.iaload, 1) := by decide +kernel
theorem d_G_firstOf_17 : decode b_G_firstOf 17 = .ok (.istore_n 2, 1) := by decide +kernel
theorem d_G_firstOf_18 : decode b_G_firstOf 18 = .ok (.goto (-16), 3) := by decide +kernel
theorem d_G_firstOf_21 : decode b_G_firstOf 21 = .ok (.iload_n 2, 1) := by decide +kernel
theorem d_G_firstOf_22 : decode b_G_firstOf 22 = .ok (.ireturn, 1) := by decide +kernel
theorem d_G_inRow_0 : decode b_G_inRow 0 = .ok (.iconst 0, 1) := by decide +kernel
theorem d_G_inRow_1 : decode b_G_inRow 1 = .ok (.istore_n 2, 1) := by decide +kernel
theorem d_G_inRow_2 : decode b_G_inRow 2 = .ok (.aload_n 0, 1) := by decide +kernel
theorem d_G_inRow_3 : decode b_G_inRow 3 = .ok (.getfield 72, 3) := by decide +kernel
theorem d_G_inRow_6 : decode b_G_inRow 6 = .ok (.iload_n 2, 1) := by decide +kernel
theorem d_G_inRow_7 : decode b_G_inRow 7 = .ok (.iaload, 1) := by decide +kernel
theorem d_G_inRow_8 : decode b_G_inRow 8 = .ok (.iload_n 1, 1) := by decide +kernel
theorem d_G_inRow_9 : decode b_G_inRow 9 = .ok (.if_icmp .eq 9, 3) := by decide +kernel
theorem d_G_inRow_12 : decode b_G_inRow 12 = .ok (.iinc 2 1, 3) := by decide +kernel
theorem d_G_inRow_15 : decode b_G_inRow 15 = .ok (.goto (-13), 3) := by decide +kernel
theorem d_G_inRow_18 : decode b_G_inRow 18 = .ok (.iload_n 2, 1) := by decide +kernel
theorem d_G_inRow_19 : decode b_G_inRow 19 = .ok (.ireturn, 1) := by decide +kernel
theorem d_G_lastOf_0 : decode b_G_lastOf 0 = .ok (.iload_n 1, 1) := by decide +kernel
theorem d_G_lastOf_1 : decode b_G_lastOf 1 = .ok (.istore_n 2, 1) := by decide +kernel
theorem d_G_lastOf_2 : decode b_G_lastOf 2 = .ok (.aload_n 0, 1) := by decide +kernel
theorem d_G_lastOf_3 : decode b_G_lastOf 3 = .ok (.getfield 53, 3) := by decide +kernel
theorem d_G_lastOf_6 : decode b_G_lastOf 6 = .ok (.iload_n 2, 1) := by decide +kernel
theorem d_G_lastOf_7 : decode b_G_lastOf 7 = .ok (.iaload, 1) := by decide +kernel
theorem d_G_lastOf_8 : decode b_G_lastOf 8 = .ok (.ifCond .lt 29, 3) := by decide +kernel
theorem d_G_lastOf_11 : decode b_G_lastOf 11 = .ok (.aload_n 0, 1) := by decide +kernel
theorem d_G_lastOf_12 : decode b_G_lastOf 12 = .ok (.getfield 53, 3) := by decide +kernel
theorem d_G_lastOf_15 : decode b_G_lastOf 15 = .ok (.iload_n 2, 1) := by decide +kernel
theorem d_G_lastOf_16 : decode b_G_lastOf 16 = .ok (.iaload, 1) := by decide +kernel
theorem d_G_lastOf_17 : decode b_G_lastOf 17 = .ok (.istore_n 2, 1) := by decide +kernel
theorem d_G_lastOf_18 : decode b_G_lastOf 18 = .ok (.aload_n 0, 1) := by decide +kernel
theorem d_G_lastOf_19 : decode b_G_lastOf 19 = .ok (.getfield 47, 3) := by decide +kernel
theorem d_G_lastOf_22 : decode b_G_lastOf 22 = .ok (.iload_n 2, 1) := by decide +kernel
theorem d_G_lastOf_23 : decode b_G_lastOf 23 = .ok (.iaload, 1) := by decide +kernel
theorem d_G_lastOf_24 : decode b_G_lastOf 24 = .ok (.ifCond .lt (-22), 3) := by decide +kernel
theorem d_G_lastOf_27 : decode b_G_lastOf 27 = .ok (.aload_n 0, 1) := by decide +kernel
theorem d_G_lastOf_28 : decode b_G_lastOf 28 = .ok (.getfield 47, 3) := by decide +kernel
theorem d_G_lastOf_31 : decode b_G_lastOf 31 = .ok (.iload_n 2, 1) := by decide +kernel
theorem d_G_lastOf_32 : decode b_G_lastOf 32 = .ok (.iaload, 1) := by decide +kernel
theorem d_G_lastOf_33 : decode b_G_lastOf 33 = .ok (.istore_n 2, 1) := by decide +kernel
theorem d_G_lastOf_34 : decode b_G_lastOf 34 = .ok (.goto (-16), 3) := by decide +kernel
theorem d_G_lastOf_37 : decode b_G_lastOf 37 = .ok (.iload_n 2, 1) := by decide +kernel
theorem d_G_lastOf_38 : decode b_G_lastOf 38 = .ok (.ireturn, 1) := by decide +kernel
theorem d_G_length_0 : decode b_G_length 0 = .ok (.iconst 0, 1) := by decide +kernel
theorem d_G_length_1 : decode b_G_length 1 = .ok (.istore_n 1, 1) := by decide +kernel
theorem d_G_length_2 : decode b_G_length 2 = .ok (.iconst 0, 1) := by decide +kernel
theorem d_G_length_3 : decode b_G_length 3 = .ok (.istore_n 2, 1) := by decide +kernel
theorem d_G_length_4 : decode b_G_length 4 = .ok (.iload_n 2, 1) := by decide +kernel
theorem d_G_length_5 : decode b_G_length 5 = .ok (.aload_n 0, 1) := by decide +kernel
theorem d_G_length_6 : decode b_G_length 6 = .ok (.getfield 86, 3) := by decide +kernel
theorem d_G_length_9 : decode b_G_length 9 = .ok (.if_icmp .ge 25, 3) := by decide +kernel
theorem d_G_length_12 : decode b_G_length 12 = .ok (.aload_n 0, 1) := by decide +kernel
theorem d_G_length_13 : decode b_G_length 13 = .ok (.aload_n 0, 1) := by decide +kernel
theorem d_G_length_14 : decode b_G_length 14 = .ok (.getfield 72, 3) := by decide +kernel
theorem d_G_length_17 : decode b_G_length 17 = .ok (.iload_n 2, 1) := by decide +kernel
theorem d_G_length_18 : decode b_G_length 18 = .ok (.iaload, 1) := by decide +kernel
theorem d_G_length_19 : decode b_G_length 19 = .ok (.invokevirtual 92, 3) := by decide +kernel
theorem d_G_length_22 : decode b_G_length 22 = .ok (.ifCond .eq 6, 3) := by decide +kernel
theorem d_G_length_25 : decode b_G_length 25 = .ok (.iinc 1 1, 3) := by decide +kernel
theorem d_G_length_28 : decode b_G_length 28 = .ok (.iinc 2 1, 3) := by decide +kernel
theorem d_G_length_31 : decode b_G_length 31 = .ok (.goto (-27), 3) := by decide +kernel
theorem d_G_length_34 : decode b_G_length 34 = .ok (.iload_n 1, 1) := by decide +kernel
theorem d_G_length_35 : decode b_G_length 35 = .ok (.ireturn, 1) := by decide +kernel
theorem d_G_isShown_0 : decode b_G_isShown 0 = .ok (.aload_n 0, 1) := by decide +kernel
theorem d_G_isShown_1 : decode b_G_isShown 1 = .ok (.getfield 69, 3) := by decide +kernel
theorem d_G_isShown_4 : decode b_G_isShown 4 = .ok (.iload_n 1, 1) := by decide +kernel
theorem d_G_isShown_5 : decode b_G_isShown 5 = .ok (.iaload, 1) := by decide +kernel
theorem d_G_isShown_6 : decode b_G_isShown 6 = .ok (.ifCond .ge 7, 3) := by decide +kernel
theorem d_G_isShown_9 : decode b_G_isShown 9 = .ok (.iconst 1, 1) := by decide +kernel
theorem d_G_isShown_10 : decode b_G_isShown 10 = .ok (.goto 4, 3) := by decide +kernel
theorem d_G_isShown_13 : decode b_G_isShown 13 = .ok (.iconst 0, 1) := by decide +kernel
theorem d_G_isShown_14 : decode b_G_isShown 14 = .ok (.ireturn, 1) := by decide +kernel
theorem d_M_delete_0 : decode b_M_delete 0 = .ok (.aload_n 0, 1) := by decide +kernel
theorem d_M_delete_1 : decode b_M_delete 1 = .ok (.iconst 0, 1) := by decide +kernel
theorem d_M_delete_2 : decode b_M_delete 2 = .ok (.putfield 174, 3) := by decide +kernel
theorem d_M_delete_5 : decode b_M_delete 5 = .ok (.aload_n 0, 1) := by decide +kernel
theorem d_M_delete_6 : decode b_M_delete 6 = .ok (.iload_n 1, 1) := by decide +kernel
theorem d_M_delete_7 : decode b_M_delete 7 = .ok (.iload_n 2, 1) := by decide +kernel
theorem d_M_delete_8 : decode b_M_delete 8 = .ok (.iload_n 3, 1) := by decide +kernel
theorem d_M_delete_9 : decode b_M_delete 9 = .ok (.invokevirtual 190, 3) := by decide +kernel
theorem d_M_delete_12 : decode b_M_delete 12 = .ok (.ireturn, 1) := by decide +kernel
theorem d_M_delete_13 : decode b_M_delete 13 = .ok (.astore 4, 2) := by decide +kernel
theorem d_M_delete_15 : decode b_M_delete 15 = .ok (.aload_n 0, 1) := by decide +kernel
theorem d_M_delete_16 : decode b_M_delete 16 = .ok (.iconst 1, 1) := by decide +kernel
theorem d_M_delete_17 : decode b_M_delete 17 = .ok (.putfield 174, 3) := by decide +kernel
theorem d_M_delete_20 : decode b_M_delete 20 = .ok (.goto 30, 3) := by decide +kernel
theorem d_M_delete_23 : decode b_M_delete 23 = .ok (.astore 4, 2) := by decide +kernel
theorem d_M_delete_25 : decode b_M_delete 25 = .ok (.aload_n 0, 1) := by decide +kernel
theorem d_M_delete_26 : decode b_M_delete 26 = .ok (.iconst 2, 1) := by decide +kernel
theorem d_M_delete_27 : decode b_M_delete 27 = .ok (.putfield 174, 3) := by decide +kernel
theorem d_M_delete_30 : decode b_M_delete 30 = .ok (.goto 20, 3) := by decide +kernel
theorem d_M_delete_33 : decode b_M_delete 33 = .ok (.astore 4, 2) := by decide +kernel
theorem d_M_delete_35 : decode b_M_delete 35 = .ok (.aload_n 0, 1) := by decide +kernel
theorem d_M_delete_36 : decode b_M_delete 36 = .ok (.iconst 3, 1) := by decide +kernel
theorem d_M_delete_37 : decode b_M_delete 37 = .ok (.putfield 174, 3) := by decide +kernel
theorem d_M_delete_40 : decode b_M_delete 40 = .ok (.goto 10, 3) := by decide +kernel
theorem d_M_delete_43 : decode b_M_delete 43 = .ok (.astore 4, 2) := by decide +kernel
theorem d_M_delete_45 : decode b_M_delete 45 = .ok (.aload_n 0, 1) := by decide +kernel
theorem d_M_delete_46 : decode b_M_delete 46 = .ok (.iconst 4, 1) := by decide +kernel
theorem d_M_delete_47 : decode b_M_delete 47 = .ok (.putfield 174, 3) := by decide +kernel
theorem d_M_delete_50 : decode b_M_delete 50 = .ok (.iconst 0, 1) := by decide +kernel
theorem d_M_delete_51 : decode b_M_delete 51 = .ok (.ireturn, 1) := by decide +kernel
theorem d_M_delete0_0 : decode b_M_delete0 0 = .ok (.iload_n 1, 1) := by decide +kernel
theorem d_M_delete0_1 : decode b_M_delete0 1 = .ok (.iconst 0, 1) := by decide +kernel
theorem d_M_delete0_2 : decode b_M_delete0 2 = .ok (.sipush 255, 3) := by decide +kernel
theorem d_M_delete0_5 : decode b_M_delete0 5 = .ok (.invokestatic 98, 3) := by decide +kernel
theorem d_M_delete0_8 : decode b_M_delete0 8 = .ok (.ifCond .eq 21, 3) := by decide +kernel
theorem d_M_delete0_11 : decode b_M_delete0 11 = .ok (.iload_n 3, 1) := by decide +kernel
theorem d_M_delete0_12 : decode b_M_delete0 12 = .ok (.iconst 1, 1) := by decide +kernel
theorem d_M_delete0_13 : decode b_M_delete0 13 = .ok (.bipush 100, 2) := by decide +kernel
theorem d_M_delete0_15 : decode b_M_delete0 15 = .ok (.invokestatic 98, 3) := by decide +kernel
theorem d_M_delete0_18 : decode b_M_delete0 18 = .ok (.ifCond .eq 11, 3) := by decide +kernel
theorem d_M_delete0_21 : decode b_M_delete0 21 = .ok (.iload_n 2, 1) := by decide +kernel
theorem d_M_delete0_22 : decode b_M_delete0 22 = .ok (.ifCond .lt 7, 3) := by decide +kernel
theorem d_M_delete0_25 : decode b_M_delete0 25 = .ok (.iconst 1, 1) := by decide +kernel
theorem d_M_delete0_26 : decode b_M_delete0 26 = .ok (.goto 4, 3) := by decide +kernel
theorem d_M_delete0_29 : decode b_M_delete0 29 = .ok (.iconst 0, 1) := by decide +kernel
theorem d_M_delete0_30 : decode b_M_delete0 30 = .ok (.invokestatic 103, 3) := by decide +kernel
theorem d_M_delete0_33 : decode b_M_delete0 33 = .ok (.iload_n 2, 1) := by decide +kernel
theorem d_M_delete0_34 : decode b_M_delete0 34 = .ok (.aload_n 0, 1) := by decide +kernel
theorem d_M_delete0_35 : decode b_M_delete0 35 = .ok (.iload_n 1, 1) := by decide +kernel
theorem d_M_delete0_36 : decode b_M_delete0 36 = .ok (.invokevirtual 107, 3) := by decide +kernel
theorem d_M_delete0_39 : decode b_M_delete0 39 = .ok (.iload_n 3, 1) := by decide +kernel
theorem d_M_delete0_40 : decode b_M_delete0 40 = .ok (.isub, 1) := by decide +kernel
theorem d_M_delete0_41 : decode b_M_delete0 41 = .ok (.if_icmp .le 11, 3) := by decide +kernel
theorem d_M_delete0_44 : decode b_M_delete0 44 = .ok (.new 110, 3) := by decide +kernel
theorem d_M_delete0_47 : decode b_M_delete0 47 = .ok (.dup, 1) := by decide +kernel
theorem d_M_delete0_48 : decode b_M_delete0 48 = .ok (.invokespecial 112, 3) := by decide +kernel
theorem d_M_delete0_51 : decode b_M_delete0 51 = .ok (.athrow, 1) := by decide +kernel
theorem d_M_delete0_52 : decode b_M_delete0 52 = .ok (.aload_n 0, 1) := by decide +kernel
theorem d_M_delete0_53 : decode b_M_delete0 53 = .ok (.iload_n 1, 1) := by decide +kernel
theorem d_M_delete0_54 : decode b_M_delete0 54 = .ok (.iload_n 3, 1) := by decide +kernel
theorem d_M_delete0_55 : decode b_M_delete0 55 = .ok (.invokevirtual 113, 3) := by decide +kernel
theorem d_M_delete0_58 : decode b_M_delete0 58 = .ok (.iconst 0, 1) := by decide +kernel
theorem d_M_delete0_59 : decode b_M_delete0 59 = .ok (.istore 4, 2) := by decide +kernel
theorem d_M_delete0_61 : decode b_M_delete0 61 = .ok (.iload 4, 2) := by decide +kernel
theorem d_M_delete0_63 : decode b_M_delete0 63 = .ok (.iload_n 3, 1) := by decide +kernel
theorem d_M_delete0_64 : decode b_M_delete0 64 = .ok (.if_icmp .ge 22, 3) := by decide +kernel
theorem d_M_delete0_67 : decode b_M_delete0 67 = .ok (.aload_n 0, 1) := by decide +kernel
theorem d_M_delete0_68 : decode b_M_delete0 68 = .ok (.getfield 10, 3) := by decide +kernel
theorem d_M_delete0_71 : decode b_M_delete0 71 = .ok (.aload_n 0, 1) := by decide +kernel
theorem d_M_delete0_72 : decode b_M_delete0 72 = .ok (.iload_n 1, 1) := by decide +kernel
theorem d_M_delete0_73 : decode b_M_delete0 73 = .ok (.invokevirtual 117, 3) := by decide +kernel
theorem d_M_delete0_76 : decode b_M_delete0 76 = .ok (.iload_n 2, 1) := by decide +kernel
theorem d_M_delete0_77 : decode b_M_delete0 77 = .ok (.invokevirtual 128, 3) := by decide +kernel
theorem d_M_delete0_80 : decode b_M_delete0 80 = .ok (.iinc 4 1, 3) := by decide +kernel
theorem d_M_delete0_83 : decode b_M_delete0 83 = .ok (.goto (-22), 3) := by decide +kernel
theorem d_M_delete0_86 : decode b_M_delete0 86 = .ok (.aload_n 0, 1) := by decide +kernel
theorem d_M_delete0_87 : decode b_M_delete0 87 = .ok (.getfield 10, 3) := by decide +kernel
theorem d_M_delete0_90 : decode b_M_delete0 90 = .ok (.invokevirtual 124, 3) := by decide +kernel
theorem d_M_delete0_93 : decode b_M_delete0 93 = .ok (.ireturn, 1) := by decide +kernel
theorem d_G_erase_0 : decode b_G_erase 0 = .ok (.aload_n 0, 1) := by decide +kernel
theorem d_G_erase_1 : decode b_G_erase 1 = .ok (.getfield 72, 3) := by decide +kernel
theorem d_G_erase_4 : decode b_G_erase 4 = .ok (.aload_n 0, 1) := by decide +kernel
theorem d_G_erase_5 : decode b_G_erase 5 = .ok (.aload_n 0, 1) := by decide +kernel
theorem d_G_erase_6 : decode b_G_erase 6 = .ok (.getfield 30, 3) := by decide +kernel
theorem d_G_erase_9 : decode b_G_erase 9 = .ok (.bipush 16, 2) := by decide +kernel
theorem d_G_erase_11 : decode b_G_erase 11 = .ok (.iload_n 1, 1) := by decide +kernel
theorem d_G_erase_12 : decode b_G_erase 12 = .ok (.imul, 1) := by decide +kernel
theorem d_G_erase_13 : decode b_G_erase 13 = .ok (.iload_n 2, 1) := by decide +kernel
theorem d_G_erase_14 : decode b_G_erase 14 = .ok (.invokevirtual 105, 3) := by decide +kernel
theorem d_G_erase_17 : decode b_G_erase 17 = .ok (.iaload, 1) := by decide +kernel
theorem d_G_erase_18 : decode b_G_erase 18 = .ok (.istore_n 3, 1) := by decide +kernel
theorem d_G_erase_19 : decode b_G_erase 19 = .ok (.aload_n 0, 1) := by decide +kernel
theorem d_G_erase_20 : decode b_G_erase 20 = .ok (.getfield 38, 3) := by decide +kernel
theorem d_G_erase_23 : decode b_G_erase 23 = .ok (.iload_n 1, 1) := by decide +kernel
theorem d_G_erase_24 : decode b_G_erase 24 = .ok (.iload_n 2, 1) := by decide +kernel
theorem d_G_erase_25 : decode b_G_erase 25 = .ok (.iastore, 1) := by decide +kernel
theorem d_G_erase_26 : decode b_G_erase 26 = .ok (.aload_n 0, 1) := by decide +kernel
theorem d_G_erase_27 : decode b_G_erase 27 = .ok (.getfield 34, 3) := by decide +kernel
theorem d_G_erase_30 : decode b_G_erase 30 = .ok (.iload_n 1, 1) := by decide +kernel
theorem d_G_erase_31 : decode b_G_erase 31 = .ok (.iconst 0, 1) := by decide +kernel
theorem d_G_erase_32 : decode b_G_erase 32 = .ok (.bastore, 1) := by decide +kernel
theorem d_G_erase_33 : decode b_G_erase 33 = .ok (.aload_n 0, 1) := by decide +kernel
theorem d_G_erase_34 : decode b_G_erase 34 = .ok (.getfield 63, 3) := by decide +kernel
theorem d_G_erase_37 : decode b_G_erase 37 = .ok (.iload_n 1, 1) := by decide +kernel
theorem d_G_erase_38 : decode b_G_erase 38 = .ok (.iload_n 3, 1) := by decide +kernel
theorem d_G_erase_39 : decode b_G_erase 39 = .ok (.iastore, 1) := by decide +kernel
theorem d_G_erase_40 : decode b_G_erase 40 = .ok (.aload_n 0, 1) := by decide +kernel
theorem d_G_erase_41 : decode b_G_erase 41 = .ok (.getfield 66, 3) := by decide +kernel
theorem d_G_erase_44 : decode b_G_erase 44 = .ok (.iload_n 1, 1) := by decide +kernel
theorem d_G_erase_45 : decode b_G_erase 45 = .ok (.aload_n 0, 1) := by decide +kernel
theorem d_G_erase_46 : decode b_G_erase 46 = .ok (.getfield 69, 3) := by decide +kernel
theorem d_G_erase_49 : decode b_G_erase 49 = .ok (.iload_n 3, 1) := by decide +kernel
theorem d_G_erase_50 : decode b_G_erase 50 = .ok (.iaload, 1) := by decide +kernel
theorem d_G_erase_51 : decode b_G_erase 51 = .ok (.iastore, 1) := by decide +kernel
theorem d_G_erase_52 : decode b_G_erase 52 = .ok (.aload_n 0, 1) := by decide +kernel
theorem d_G_erase_53 : decode b_G_erase 53 = .ok (.getfield 69, 3) := by decide +kernel
theorem d_G_erase_56 : decode b_G_erase 56 = .ok (.iload_n 3, 1) := by decide +kernel
theorem d_G_erase_57 : decode b_G_erase 57 = .ok (.iload_n 1, 1) := by decide +kernel
theorem d_G_erase_58 : decode b_G_erase 58 = .ok (.iastore, 1) := by decide +kernel
theorem d_G_erase_59 : decode b_G_erase 59 = .ok (.return_, 1) := by decide +kernel
theorem d_M_length_0 : decode b_M_length 0 = .ok (.aload_n 0, 1) := by decide +kernel
theorem d_M_length_1 : decode b_M_length 1 = .ok (.iconst 0, 1) := by decide +kernel
theorem d_M_length_2 : decode b_M_length 2 = .ok (.putfield 174, 3) := by decide +kernel
theorem d_M_length_5 : decode b_M_length 5 = .ok (.aload_n 0, 1) := by decide +kernel
theorem d_M_length_6 : decode b_M_length 6 = .ok (.invokevirtual 194, 3) := by decide +kernel
theorem d_M_length_9 : decode b_M_length 9 = .ok (.ireturn, 1) := by decide +kernel
theorem d_M_length0_0 : decode b_M_length0 0 = .ok (.aload_n 0, 1) := by decide +kernel
theorem d_M_length0_1 : decode b_M_length0 1 = .ok (.getfield 10, 3) := by decide +kernel
theorem d_M_length0_4 : decode b_M_length0 4 = .ok (.invokevirtual 124, 3) := by decide +kernel
theorem d_M_length0_7 : decode b_M_length0 7 = .ok (.ireturn, 1) := by decide +kernel
theorem d_M_at_0 : decode b_M_at 0 = .ok (.aload_n 0, 1) := by decide +kernel
theorem d_M_at_1 : decode b_M_at 1 = .ok (.iconst 0, 1) := by decide +kernel
theorem d_M_at_2 : decode b_M_at 2 = .ok (.putfield 174, 3) := by decide +kernel
theorem d_M_at_5 : decode b_M_at 5 = .ok (.aload_n 0, 1) := by decide +kernel
theorem d_M_at_6 : decode b_M_at 6 = .ok (.iload_n 1, 1) := by decide +kernel
theorem d_M_at_7 : decode b_M_at 7 = .ok (.invokevirtual 197, 3) := by decide +kernel
theorem d_M_at_10 : decode b_M_at 10 = .ok (.ireturn, 1) := by decide +kernel
theorem d_M_at_11 : decode b_M_at 11 = .ok (.astore_n 2, 1) := by decide +kernel
theorem d_M_at_12 : decode b_M_at 12 = .ok (.aload_n 0, 1) := by decide +kernel
theorem d_M_at_13 : decode b_M_at 13 = .ok (.iconst 1, 1) := by decide +kernel
theorem d_M_at_14 : decode b_M_at 14 = .ok (.putfield 174, 3) := by decide +kernel
theorem d_M_at_17 : decode b_M_at 17 = .ok (.iconst 0, 1) := by decide +kernel
theorem d_M_at_18 : decode b_M_at 18 = .ok (.ireturn, 1) := by decide +kernel
theorem d_M_at0_0 : decode b_M_at0 0 = .ok (.aload_n 0, 1) := by decide +kernel
theorem d_M_at0_1 : decode b_M_at0 1 = .ok (.getfield 10, 3) := by decide +kernel
theorem d_M_at0_4 : decode b_M_at0 4 = .ok (.getfield 134, 3) := by decide +kernel
theorem d_M_at0_7 : decode b_M_at0 7 = .ok (.aload_n 0, 1) := by decide +kernel
theorem d_M_at0_8 : decode b_M_at0 8 = .ok (.iload_n 1, 1) := by decide +kernel
theorem d_M_at0_9 : decode b_M_at0 9 = .ok (.invokevirtual 137, 3) := by decide +kernel
theorem d_M_at0_12 : decode b_M_at0 12 = .ok (.iaload, 1) := by decide +kernel
theorem d_M_at0_13 : decode b_M_at0 13 = .ok (.ireturn, 1) := by decide +kernel
theorem d_M_shown_0 : decode b_M_shown 0 = .ok (.iload_n 1, 1) := by decide +kernel
theorem d_M_shown_1 : decode b_M_shown 1 = .ok (.iconst 0, 1) := by decide +kernel
theorem d_M_shown_2 : decode b_M_shown 2 = .ok (.aload_n 0, 1) := by decide +kernel
theorem d_M_shown_3 : decode b_M_shown 3 = .ok (.getfield 10, 3) := by decide +kernel
theorem d_M_shown_6 : decode b_M_shown 6 = .ok (.invokevirtual 124, 3) := by decide +kernel
theorem d_M_shown_9 : decode b_M_shown 9 = .ok (.iconst 1, 1) := by decide +kernel
theorem d_M_shown_10 : decode b_M_shown 10 = .ok (.isub, 1) := by decide +kernel
theorem d_M_shown_11 : decode b_M_shown 11 = .ok (.invokestatic 98, 3) := by decide +kernel
theorem d_M_shown_14 : decode b_M_shown 14 = .ok (.ifCond .ne 11, 3) := by decide +kernel
theorem d_M_shown_17 : decode b_M_shown 17 = .ok (.new 110, 3) := by decide +kernel
theorem d_M_shown_20 : decode b_M_shown 20 = .ok (.dup, 1) := by decide +kernel
theorem d_M_shown_21 : decode b_M_shown 21 = .ok (.invokespecial 112, 3) := by decide +kernel
theorem d_M_shown_24 : decode b_M_shown 24 = .ok (.athrow, 1) := by decide +kernel
theorem d_M_shown_25 : decode b_M_shown 25 = .ok (.aload_n 0, 1) := by decide +kernel
theorem d_M_shown_26 : decode b_M_shown 26 = .ok (.getfield 10, 3) := by decide +kernel
theorem d_M_shown_29 : decode b_M_shown 29 = .ok (.iload_n 1, 1) := by decide +kernel
theorem d_M_shown_30 : decode b_M_shown 30 = .ok (.invokevirtual 131, 3) := by decide +kernel
theorem d_M_shown_33 : decode b_M_shown 33 = .ok (.ireturn, 1) := by decide +kernel
theorem d_G_shownAt_0 : decode b_G_shownAt 0 = .ok (.iload_n 1, 1) := by decide +kernel
theorem d_G_shownAt_1 : decode b_G_shownAt 1 = .ok (.istore_n 2, 1) := by decide +kernel
theorem d_G_shownAt_2 : decode b_G_shownAt 2 = .ok (.iconst 0, 1) := by decide +kernel
theorem d_G_shownAt_3 : decode b_G_shownAt 3 = .ok (.istore_n 3, 1) := by decide +kernel
theorem d_G_shownAt_4 : decode b_G_shownAt 4 = .ok (.aload_n 0, 1) := by decide +kernel
theorem d_G_shownAt_5 : decode b_G_shownAt 5 = .ok (.aload_n 0, 1) := by decide +kernel
theorem d_G_shownAt_6 : decode b_G_shownAt 6 = .ok (.getfield 72, 3) := by decide +kernel
theorem d_G_shownAt_9 : decode b_G_shownAt 9 = .ok (.iload_n 3, 1) := by decide +kernel
theorem d_G_shownAt_10 : decode b_G_shownAt 10 = .ok (.iaload, 1) := by decide +kernel
theorem d_G_shownAt_11 : decode b_G_shownAt 11 = .ok (.invokevirtual 92, 3) := by decide +kernel
theorem d_G_shownAt_14 : decode b_G_shownAt 14 = .ok (.ifCond .eq 7, 3) := by decide +kernel
theorem d_G_shownAt_17 : decode b_G_shownAt 17 = .ok (.iload_n 2, 1) := by decide +kernel
theorem d_G_shownAt_18 : decode b_G_shownAt 18 = .ok (.ifCond .le 25, 3) := by decide +kernel
theorem d_G_shownAt_21 : decode b_G_shownAt 21 = .ok (.aload_n 0, 1) := by decide +kernel
theorem d_G_shownAt_22 : decode b_G_shownAt 22 = .ok (.aload_n 0, 1) := by decide +kernel
theorem d_G_shownAt_23 : decode b_G_shownAt 23 = .ok (.getfield 72, 3) := by decide +kernel
theorem d_G_shownAt_26 : decode b_G_shownAt 26 = .ok (.iload_n 3, 1) := by decide +kernel
theorem d_G_shownAt_27 : decode b_G_shownAt 27 = .ok (.iaload, 1) := by decide +kernel
theorem d_G_shownAt_28 : decode b_G_shownAt 28 = .ok (.invokevirtual 92, 3) := by decide +kernel
theorem d_G_shownAt_31 : decode b_G_shownAt 31 = .ok (.ifCond .eq 6, 3) := by decide +kernel
theorem d_G_shownAt_34 : decode b_G_shownAt 34 = .ok (.iinc 2 (-1), 3) := by decide +kernel
theorem d_G_shownAt_37 : decode b_G_shownAt 37 = .ok (.iinc 3 1, 3) := by decide +kernel
theorem d_G_shownAt_40 : decode b_G_shownAt 40 = .ok (.goto (-36), 3) := by decide +kernel
theorem d_G_shownAt_43 : decode b_G_shownAt 43 = .ok (.aload_n 0, 1) := by decide +kernel
theorem d_G_shownAt_44 : decode b_G_shownAt 44 = .ok (.getfield 72, 3) := by decide +kernel
theorem d_G_shownAt_47 : decode b_G_shownAt 47 = .ok (.iload_n 3, 1) := by decide +kernel
theorem d_G_shownAt_48 : decode b_G_shownAt 48 = .ok (.iaload, 1) := by decide +kernel
theorem d_G_shownAt_49 : decode b_G_shownAt 49 = .ok (.ireturn, 1) := by decide +kernel
theorem d_M_who_0 : decode b_M_who 0 = .ok (.aload_n 0, 1) := by decide +kernel
theorem d_M_who_1 : decode b_M_who 1 = .ok (.iconst 0, 1) := by decide +kernel
theorem d_M_who_2 : decode b_M_who 2 = .ok (.putfield 174, 3) := by decide +kernel
theorem d_M_who_5 : decode b_M_who 5 = .ok (.aload_n 0, 1) := by decide +kernel
theorem d_M_who_6 : decode b_M_who 6 = .ok (.iload_n 1, 1) := by decide +kernel
theorem d_M_who_7 : decode b_M_who 7 = .ok (.invokevirtual 200, 3) := by decide +kernel
theorem d_M_who_10 : decode b_M_who 10 = .ok (.lreturn, 1) := by decide +kernel
theorem d_M_who_11 : decode b_M_who 11 = .ok (.astore_n 2, 1) := by decide +kernel
theorem d_M_who_12 : decode b_M_who 12 = .ok (.aload_n 0, 1) := by decide +kernel
theorem d_M_who_13 : decode b_M_who 13 = .ok (.iconst 1, 1) := by decide +kernel
theorem d_M_who_14 : decode b_M_who 14 = .ok (.putfield 174, 3) := by decide +kernel
theorem d_M_who_17 : decode b_M_who 17 = .ok (.lconst 0, 1) := by decide +kernel
theorem d_M_who_18 : decode b_M_who 18 = .ok (.lreturn, 1) := by decide +kernel
theorem d_M_who0_0 : decode b_M_who0 0 = .ok (.aload_n 0, 1) := by decide +kernel
theorem d_M_who0_1 : decode b_M_who0 1 = .ok (.iload_n 1, 1) := by decide +kernel
theorem d_M_who0_2 : decode b_M_who0 2 = .ok (.invokevirtual 137, 3) := by decide +kernel
theorem d_M_who0_5 : decode b_M_who0 5 = .ok (.istore_n 2, 1) := by decide +kernel
theorem d_M_who0_6 : decode b_M_who0 6 = .ok (.ldc2_w 140, 3) := by decide +kernel
theorem d_M_who0_9 : decode b_M_who0 9 = .ok (.aload_n 0, 1) := by decide +kernel
theorem d_M_who0_10 : decode b_M_who0 10 = .ok (.getfield 10, 3) := by decide +kernel
theorem d_M_who0_13 : decode b_M_who0 13 = .ok (.getfield 142, 3) := by decide +kernel
theorem d_M_who0_16 : decode b_M_who0 16 = .ok (.aload_n 0, 1) := by decide +kernel
theorem d_M_who0_17 : decode b_M_who0 17 = .ok (.getfield 10, 3) := by decide +kernel
theorem d_M_who0_20 : decode b_M_who0 20 = .ok (.getfield 64, 3) := by decide +kernel
theorem d_M_who0_23 : decode b_M_who0 23 = .ok (.iload_n 2, 1) := by decide +kernel
theorem d_M_who0_24 : decode b_M_who0 24 = .ok (.iaload, 1) := by decide +kernel
theorem d_M_who0_25 : decode b_M_who0 25 = .ok (.iaload, 1) := by decide +kernel
theorem d_M_who0_26 : decode b_M_who0 26 = .ok (.i2l, 1) := by decide +kernel
theorem d_M_who0_27 : decode b_M_who0 27 = .ok (.lmul, 1) := by decide +kernel
theorem d_M_who0_28 : decode b_M_who0 28 = .ok (.aload_n 0, 1) := by decide +kernel
theorem d_M_who0_29 : decode b_M_who0 29 = .ok (.getfield 10, 3) := by decide +kernel
theorem d_M_who0_32 : decode b_M_who0 32 = .ok (.getfield 67, 3) := by decide +kernel
theorem d_M_who0_35 : decode b_M_who0 35 = .ok (.iload_n 2, 1) := by decide +kernel
theorem d_M_who0_36 : decode b_M_who0 36 = .ok (.iaload, 1) := by decide +kernel
theorem d_M_who0_37 : decode b_M_who0 37 = .ok (.i2l, 1) := by decide +kernel
theorem d_M_who0_38 : decode b_M_who0 38 = .ok (.ladd, 1) := by decide +kernel
theorem d_M_who0_39 : decode b_M_who0 39 = .ok (.lreturn, 1) := by decide +kernel
theorem d_M_spot_0 : decode b_M_spot 0 = .ok (.aload_n 0, 1) := by decide +kernel
theorem d_M_spot_1 : decode b_M_spot 1 = .ok (.iconst 0, 1) := by decide +kernel
theorem d_M_spot_2 : decode b_M_spot 2 = .ok (.putfield 174, 3) := by decide +kernel
theorem d_M_spot_5 : decode b_M_spot 5 = .ok (.aload_n 0, 1) := by decide +kernel
theorem d_M_spot_6 : decode b_M_spot 6 = .ok (.iload_n 1, 1) := by decide +kernel
theorem d_M_spot_7 : decode b_M_spot 7 = .ok (.iload_n 2, 1) := by decide +kernel
theorem d_M_spot_8 : decode b_M_spot 8 = .ok (.invokevirtual 204, 3) := by decide +kernel
theorem d_M_spot_11 : decode b_M_spot 11 = .ok (.ireturn, 1) := by decide +kernel
theorem d_M_spot_12 : decode b_M_spot 12 = .ok (.astore_n 3, 1) := by decide +kernel
theorem d_M_spot_13 : decode b_M_spot 13 = .ok (.aload_n 0, 1) := by decide +kernel
theorem d_M_spot_14 : decode b_M_spot 14 = .ok (.iconst 1, 1) := by decide +kernel
theorem d_M_spot_15 : decode b_M_spot 15 = .ok (.putfield 174, 3) := by decide +kernel
theorem d_M_spot_18 : decode b_M_spot 18 = .ok (.goto 9, 3) := by decide +kernel
theorem d_M_spot_21 : decode b_M_spot 21 = .ok (.astore_n 3, 1) := by decide +kernel
theorem d_M_spot_22 : decode b_M_spot 22 = .ok (.aload_n 0, 1) := by decide +kernel
theorem d_M_spot_23 : decode b_M_spot 23 = .ok (.iconst 2, 1) := by decide +kernel
theorem d_M_spot_24 : decode b_M_spot 24 = .ok (.putfield 174, 3) := by decide +kernel
theorem d_M_spot_27 : decode b_M_spot 27 = .ok (.iconst 0, 1) := by decide +kernel
theorem d_M_spot_28 : decode b_M_spot 28 = .ok (.ireturn, 1) := by decide +kernel
theorem d_M_spot0_0 : decode b_M_spot0 0 = .ok (.aload_n 0, 1) := by decide +kernel
theorem d_M_spot0_1 : decode b_M_spot0 1 = .ok (.getfield 10, 3) := by decide +kernel
theorem d_M_spot0_4 : decode b_M_spot0 4 = .ok (.iload_n 1, 1) := by decide +kernel
theorem d_M_spot0_5 : decode b_M_spot0 5 = .ok (.iload_n 2, 1) := by decide +kernel
theorem d_M_spot0_6 : decode b_M_spot0 6 = .ok (.invokevirtual 30, 3) := by decide +kernel
theorem d_M_spot0_9 : decode b_M_spot0 9 = .ok (.istore_n 3, 1) := by decide +kernel
theorem d_M_spot0_10 : decode b_M_spot0 10 = .ok (.iload_n 3, 1) := by decide +kernel
theorem d_M_spot0_11 : decode b_M_spot0 11 = .ok (.ifCond .ge 11, 3) := by decide +kernel
theorem d_M_spot0_14 : decode b_M_spot0 14 = .ok (.new 34, 3) := by decide +kernel
theorem d_M_spot0_17 : decode b_M_spot0 17 = .ok (.dup, 1) := by decide +kernel
theorem d_M_spot0_18 : decode b_M_spot0 18 = .ok (.invokespecial 36, 3) := by decide +kernel
theorem d_M_spot0_21 : decode b_M_spot0 21 = .ok (.athrow, 1) := by decide +kernel
theorem d_M_spot0_22 : decode b_M_spot0 22 = .ok (.aload_n 0, 1) := by decide +kernel
theorem d_M_spot0_23 : decode b_M_spot0 23 = .ok (.getfield 10, 3) := by decide +kernel
theorem d_M_spot0_26 : decode b_M_spot0 26 = .ok (.getfield 145, 3) := by decide +kernel
theorem d_M_spot0_29 : decode b_M_spot0 29 = .ok (.iload_n 3, 1) := by decide +kernel
theorem d_M_spot0_30 : decode b_M_spot0 30 = .ok (.baload, 1) := by decide +kernel
theorem d_M_spot0_31 : decode b_M_spot0 31 = .ok (.ifCond .ne 11, 3) := by decide +kernel
theorem d_M_spot0_34 : decode b_M_spot0 34 = .ok (.new 41, 3) := by decide +kernel
theorem d_M_spot0_37 : decode b_M_spot0 37 = .ok (.dup, 1) := by decide +kernel
theorem d_M_spot0_38 : decode b_M_spot0 38 = .ok (.invokespecial 43, 3) := by decide +kernel
theorem d_M_spot0_41 : decode b_M_spot0 41 = .ok (.athrow, 1) := by decide +kernel
theorem d_M_spot0_42 : decode b_M_spot0 42 = .ok (.aload_n 0, 1) := by decide +kernel
theorem d_M_spot0_43 : decode b_M_spot0 43 = .ok (.getfield 10, 3) := by decide +kernel
theorem d_M_spot0_46 : decode b_M_spot0 46 = .ok (.iload_n 3, 1) := by decide +kernel
theorem d_M_spot0_47 : decode b_M_spot0 47 = .ok (.invokevirtual 149, 3) := by decide +kernel
theorem d_M_spot0_50 : decode b_M_spot0 50 = .ok (.ireturn, 1) := by decide +kernel
theorem d_M_was_0 : decode b_M_was 0 = .ok (.aload_n 0, 1) := by decide +kernel
theorem d_M_was_1 : decode b_M_was 1 = .ok (.iconst 0, 1) := by decide +kernel
theorem d_M_was_2 : decode b_M_was 2 = .ok (.putfield 174, 3) := by decide +kernel
theorem d_M_was_5 : decode b_M_was 5 = .ok (.aload_n 0, 1) := by decide +kernel
theorem d_M_was_6 : decode b_M_was 6 = .ok (.iload_n 1, 1) := by decide +kernel
theorem d_M_was_7 : decode b_M_was 7 = .ok (.invokevirtual 207, 3) := by decide +kernel
theorem d_M_was_10 : decode b_M_was 10 = .ok (.ireturn, 1) := by decide +kernel
theorem d_M_was_11 : decode b_M_was 11 = .ok (.astore_n 2, 1) := by decide +kernel
theorem d_M_was_12 : decode b_M_was 12 = .ok (.aload_n 0, 1) := by decide +kernel
theorem d_M_was_13 : decode b_M_was 13 = .ok (.iconst 1, 1) := by decide +kernel
theorem d_M_was_14 : decode b_M_was 14 = .ok (.putfield 174, 3) := by decide +kernel
theorem d_M_was_17 : decode b_M_was 17 = .ok (.iconst 0, 1) := by decide +kernel
theorem d_M_was_18 : decode b_M_was 18 = .ok (.ireturn, 1) := by decide +kernel
theorem d_M_was0_0 : decode b_M_was0 0 = .ok (.iload_n 1, 1) := by decide +kernel
theorem d_M_was0_1 : decode b_M_was0 1 = .ok (.iconst 0, 1) := by decide +kernel
theorem d_M_was0_2 : decode b_M_was0 2 = .ok (.aload_n 0, 1) := by decide +kernel
theorem d_M_was0_3 : decode b_M_was0 3 = .ok (.getfield 10, 3) := by decide +kernel
theorem d_M_was0_6 : decode b_M_was0 6 = .ok (.getfield 88, 3) := by decide +kernel
theorem d_M_was0_9 : decode b_M_was0 9 = .ok (.invokestatic 98, 3) := by decide +kernel
theorem d_M_was0_12 : decode b_M_was0 12 = .ok (.ifCond .ne 11, 3) := by decide +kernel
theorem d_M_was0_15 : decode b_M_was0 15 = .ok (.new 110, 3) := by decide +kernel
theorem d_M_was0_18 : decode b_M_was0 18 = .ok (.dup, 1) := by decide +kernel
theorem d_M_was0_19 : decode b_M_was0 19 = .ok (.invokespecial 112, 3) := by decide +kernel
theorem d_M_was0_22 : decode b_M_was0 22 = .ok (.athrow, 1) := by decide +kernel
theorem d_M_was0_23 : decode b_M_was0 23 = .ok (.iconst 0, 1) := by decide +kernel
theorem d_M_was0_24 : decode b_M_was0 24 = .ok (.istore_n 2, 1) := by decide +kernel
theorem d_M_was0_25 : decode b_M_was0 25 = .ok (.iconst 0, 1) := by decide +kernel
theorem d_M_was0_26 : decode b_M_was0 26 = .ok (.istore_n 3, 1) := by decide +kernel
theorem d_M_was0_27 : decode b_M_was0 27 = .ok (.iload_n 3, 1) := by decide +kernel
theorem d_M_was0_28 : decode b_M_was0 28 = .ok (.aload_n 0, 1) := by decide +kernel
theorem d_M_was0_29 : decode b_M_was0 29 = .ok (.getfield 10, 3) := by decide +kernel
theorem d_M_was0_32 : decode b_M_was0 32 = .ok (.getfield 158, 3) := by decide +kernel
theorem d_M_was0_35 : decode b_M_was0 35 = .ok (.if_icmp .ge 29, 3) := by decide +kernel
theorem d_M_was0_38 : decode b_M_was0 38 = .ok (.aload_n 0, 1) := by decide +kernel
theorem d_M_was0_39 : decode b_M_was0 39 = .ok (.aload_n 0, 1) := by decide +kernel
theorem d_M_was0_40 : decode b_M_was0 40 = .ok (.getfield 10, 3) := by decide +kernel
theorem d_M_was0_43 : decode b_M_was0 43 = .ok (.getfield 161, 3) := by decide +kernel
theorem d_M_was0_46 : decode b_M_was0 46 = .ok (.iload_n 3, 1) := by decide +kernel
theorem d_M_was0_47 : decode b_M_was0 47 = .ok (.iaload, 1) := by decide +kernel
theorem d_M_was0_48 : decode b_M_was0 48 = .ok (.iload_n 1, 1) := by decide +kernel
theorem d_M_was0_49 : decode b_M_was0 49 = .ok (.invokevirtual 164, 3) := by decide +kernel
theorem d_M_was0_52 : decode b_M_was0 52 = .ok (.ifCond .eq 6, 3) := by decide +kernel
theorem d_M_was0_55 : decode b_M_was0 55 = .ok (.iinc 2 1, 3) := by decide +kernel
theorem d_M_was0_58 : decode b_M_was0 58 = .ok (.iinc 3 1, 3) := by decide +kernel
theorem d_M_was0_61 : decode b_M_was0 61 = .ok (.goto (-34), 3) := by decide +kernel
theorem d_M_was0_64 : decode b_M_was0 64 = .ok (.iload_n 2, 1) := by decide +kernel
theorem d_M_was0_65 : decode b_M_was0 65 = .ok (.ireturn, 1) := by decide +kernel
theorem d_M_stood_0 : decode b_M_stood 0 = .ok (.iload_n 1, 1) := by decide +kernel
theorem d_M_stood_1 : decode b_M_stood 1 = .ok (.iload_n 2, 1) := by decide +kernel
theorem d_M_stood_2 : decode b_M_stood 2 = .ok (.if_icmp .lt 5, 3) := by decide +kernel
theorem d_M_stood_5 : decode b_M_stood 5 = .ok (.iconst 0, 1) := by decide +kernel
theorem d_M_stood_6 : decode b_M_stood 6 = .ok (.ireturn, 1) := by decide +kernel
theorem d_M_stood_7 : decode b_M_stood 7 = .ok (.aload_n 0, 1) := by decide +kernel
theorem d_M_stood_8 : decode b_M_stood 8 = .ok (.getfield 10, 3) := by decide +kernel
theorem d_M_stood_11 : decode b_M_stood 11 = .ok (.getfield 152, 3) := by decide +kernel
theorem d_M_stood_14 : decode b_M_stood 14 = .ok (.iload_n 1, 1) := by decide +kernel
theorem d_M_stood_15 : decode b_M_stood 15 = .ok (.iaload, 1) := by decide +kernel
theorem d_M_stood_16 : decode b_M_stood 16 = .ok (.istore_n 3, 1) := by decide +kernel
theorem d_M_stood_17 : decode b_M_stood 17 = .ok (.iload_n 3, 1) := by decide +kernel
theorem d_M_stood_18 : decode b_M_stood 18 = .ok (.ifCond .lt 23, 3) := by decide +kernel
theorem d_M_stood_21 : decode b_M_stood 21 = .ok (.iload_n 3, 1) := by decide +kernel
theorem d_M_stood_22 : decode b_M_stood 22 = .ok (.iload_n 2, 1) := by decide +kernel
theorem d_M_stood_23 : decode b_M_stood 23 = .ok (.if_icmp .ge 5, 3) := by decide +kernel
theorem d_M_stood_26 : decode b_M_stood 26 = .ok (.iconst 0, 1) := by decide +kernel
theorem d_M_stood_27 : decode b_M_stood 27 = .ok (.ireturn, 1) := by decide +kernel
theorem d_M_stood_28 : decode b_M_stood 28 = .ok (.aload_n 0, 1) := by decide +kernel
theorem d_M_stood_29 : decode b_M_stood 29 = .ok (.getfield 10, 3) := by decide +kernel
theorem d_M_stood_32 : decode b_M_stood 32 = .ok (.getfield 155, 3) := by decide +kernel
theorem d_M_stood_35 : decode b_M_stood 35 = .ok (.iload_n 3, 1) := by decide +kernel
theorem d_M_stood_36 : decode b_M_stood 36 = .ok (.iaload, 1) := by decide +kernel
theorem d_M_stood_37 : decode b_M_stood 37 = .ok (.istore_n 3, 1) := by decide +kernel
theorem d_M_stood_38 : decode b_M_stood 38 = .ok (.goto (-21), 3) := by decide +kernel
theorem d_M_stood_41 : decode b_M_stood 41 = .ok (.iconst 1, 1) := by decide +kernel
theorem d_M_stood_42 : decode b_M_stood 42 = .ok (.ireturn, 1) := by decide +kernel
theorem d_M_wasAt_0 : decode b_M_wasAt 0 = .ok (.aload_n 0, 1) := by decide +kernel
theorem d_M_wasAt_1 : decode b_M_wasAt 1 = .ok (.iconst 0, 1) := by decide +kernel
theorem d_M_wasAt_2 : decode b_M_wasAt 2 = .ok (.putfield 174, 3) := by decide +kernel
theorem d_M_wasAt_5 : decode b_M_wasAt 5 = .ok (.aload_n 0, 1) := by decide +kernel
theorem d_M_wasAt_6 : decode b_M_wasAt 6 = .ok (.iload_n 1, 1) := by decide +kernel
theorem d_M_wasAt_7 : decode b_M_wasAt 7 = .ok (.iload_n 2, 1) := by decide +kernel
theorem d_M_wasAt_8 : decode b_M_wasAt 8 = .ok (.invokevirtual 210, 3) := by decide +kernel
theorem d_M_wasAt_11 : decode b_M_wasAt 11 = .ok (.ireturn, 1) := by decide +kernel
theorem d_M_wasAt_12 : decode b_M_wasAt 12 = .ok (.astore_n 3, 1) := by decide +kernel
theorem d_M_wasAt_13 : decode b_M_wasAt 13 = .ok (.aload_n 0, 1) := by decide +kernel
theorem d_M_wasAt_14 : decode b_M_wasAt 14 = .ok (.iconst 1, 1) := by decide +kernel
theorem d_M_wasAt_15 : decode b_M_wasAt 15 = .ok (.putfield 174, 3) := by decide +kernel
theorem d_M_wasAt_18 : decode b_M_wasAt 18 = .ok (.iconst 0, 1) := by decide +kernel
theorem d_M_wasAt_19 : decode b_M_wasAt 19 = .ok (.ireturn, 1) := by decide +kernel
theorem d_M_wasAt0_0 : decode b_M_wasAt0 0 = .ok (.iload_n 1, 1) := by decide +kernel
theorem d_M_wasAt0_1 : decode b_M_wasAt0 1 = .ok (.iconst 0, 1) := by decide +kernel
theorem d_M_wasAt0_2 : decode b_M_wasAt0 2 = .ok (.aload_n 0, 1) := by decide +kernel
theorem d_M_wasAt0_3 : decode b_M_wasAt0 3 = .ok (.getfield 10, 3) := by decide +kernel
theorem d_M_wasAt0_6 : decode b_M_wasAt0 6 = .ok (.getfield 88, 3) := by decide +kernel
theorem d_M_wasAt0_9 : decode b_M_wasAt0 9 = .ok (.invokestatic 98, 3) := by decide +kernel
theorem d_M_wasAt0_12 : decode b_M_wasAt0 12 = .ok (.ifCond .ne 11, 3) := by decide +kernel
theorem d_M_wasAt0_15 : decode b_M_wasAt0 15 = .ok (.new 110, 3) := by decide +kernel
theorem d_M_wasAt0_18 : decode b_M_wasAt0 18 = .ok (.dup, 1) := by decide +kernel
theorem d_M_wasAt0_19 : decode b_M_wasAt0 19 = .ok (.invokespecial 112, 3) := by decide +kernel
theorem d_M_wasAt0_22 : decode b_M_wasAt0 22 = .ok (.athrow, 1) := by decide +kernel
theorem d_M_wasAt0_23 : decode b_M_wasAt0 23 = .ok (.iload_n 2, 1) := by decide +kernel
theorem d_M_wasAt0_24 : decode b_M_wasAt0 24 = .ok (.istore_n 3, 1) := by decide +kernel
theorem d_M_wasAt0_25 : decode b_M_wasAt0 25 = .ok (.iconst 0, 1) := by decide +kernel
theorem d_M_wasAt0_26 : decode b_M_wasAt0 26 = .ok (.istore 4, 2) := by decide +kernel
theorem d_M_wasAt0_28 : decode b_M_wasAt0 28 = .ok (.iload 4, 2) := by decide +kernel
theorem d_M_wasAt0_30 : decode b_M_wasAt0 30 = .ok (.aload_n 0, 1) := by decide +kernel
theorem d_M_wasAt0_31 : decode b_M_wasAt0 31 = .ok (.getfield 10, 3) := by decide +kernel
theorem d_M_wasAt0_34 : decode b_M_wasAt0 34 = .ok (.getfield 158, 3) := by decide +kernel
theorem d_M_wasAt0_37 : decode b_M_wasAt0 37 = .ok (.if_icmp .ge 60, 3) := by decide +kernel
theorem d_M_wasAt0_40 : decode b_M_wasAt0 40 = .ok (.iload_n 3, 1) := by decide +kernel
theorem d_M_wasAt0_41 : decode b_M_wasAt0 41 = .ok (.ifCond .lt 56, 3) := by decide +kernel
theorem d_M_wasAt0_44 : decode b_M_wasAt0 44 = .ok (.aload_n 0, 1) := by decide +kernel
theorem d_M_wasAt0_45 : decode b_M_wasAt0 45 = .ok (.aload_n 0, 1) := by decide +kernel
theorem d_M_wasAt0_46 : decode b_M_wasAt0 46 = .ok (.getfield 10, 3) := by decide +kernel
theorem d_M_wasAt0_49 : decode b_M_wasAt0 49 = .ok (.getfield 161, 3) := by decide +kernel
theorem d_M_wasAt0_52 : decode b_M_wasAt0 52 = .ok (.iload 4, 2) := by decide +kernel
theorem d_M_wasAt0_54 : decode b_M_wasAt0 54 = .ok (.iaload, 1) := by decide +kernel
theorem d_M_wasAt0_55 : decode b_M_wasAt0 55 = .ok (.iload_n 1, 1) := by decide +kernel
theorem d_M_wasAt0_56 : decode b_M_wasAt0 56 = .ok (.invokevirtual 164, 3) := by decide +kernel
theorem d_M_wasAt0_59 : decode b_M_wasAt0 59 = .ok (.ifCond .ne 6, 3) := by decide +kernel
theorem d_M_wasAt0_62 : decode b_M_wasAt0 62 = .ok (.goto 29, 3) := by decide +kernel
theorem d_M_wasAt0_65 : decode b_M_wasAt0 65 = .ok (.iload_n 3, 1) := by decide +kernel
theorem d_M_wasAt0_66 : decode b_M_wasAt0 66 = .ok (.ifCond .ne 22, 3) := by decide +kernel
theorem d_M_wasAt0_69 : decode b_M_wasAt0 69 = .ok (.aload_n 0, 1) := by decide +kernel
theorem d_M_wasAt0_70 : decode b_M_wasAt0 70 = .ok (.getfield 10, 3) := by decide +kernel
theorem d_M_wasAt0_73 : decode b_M_wasAt0 73 = .ok (.getfield 134, 3) := by decide +kernel
theorem d_M_wasAt0_76 : decode b_M_wasAt0 76 = .ok (.aload_n 0, 1) := by decide +kernel
theorem d_M_wasAt0_77 : decode b_M_wasAt0 77 = .ok (.getfield 10, 3) := by decide +kernel
theorem d_M_wasAt0_80 : decode b_M_wasAt0 80 = .ok (.getfield 161, 3) := by decide +kernel
theorem d_M_wasAt0_83 : decode b_M_wasAt0 83 = .ok (.iload 4, 2) := by decide +kernel
theorem d_M_wasAt0_85 : decode b_M_wasAt0 85 = .ok (.iaload, 1) := by decide +kernel
theorem d_M_wasAt0_86 : decode b_M_wasAt0 86 = .ok (.iaload, 1) := by decide +kernel
theorem d_M_wasAt0_87 : decode b_M_wasAt0 87 = .ok (.ireturn, 1) := by decide +kernel
theorem d_M_wasAt0_88 : decode b_M_wasAt0 88 = .ok (.iinc 3 (-1), 3) := by decide +kernel
theorem d_M_wasAt0_91 : decode b_M_wasAt0 91 = .ok (.iinc 4 1, 3) := by decide +kernel
theorem d_M_wasAt0_94 : decode b_M_wasAt0 94 = .ok (.goto (-66), 3) := by decide +kernel
theorem d_M_wasAt0_97 : decode b_M_wasAt0 97 = .ok (.new 110, 3) := by decide +kernel
theorem d_M_wasAt0_100 : decode b_M_wasAt0 100 = .ok (.dup, 1) := by decide +kernel
theorem d_M_wasAt0_101 : decode b_M_wasAt0 101 = .ok (.invokespecial 112, 3) := by decide +kernel
theorem d_M_wasAt0_104 : decode b_M_wasAt0 104 = .ok (.athrow, 1) := by decide +kernel
theorem d_M_line_0 : decode b_M_line 0 = .ok (.aload_n 0, 1) := by decide +kernel
theorem d_M_line_1 : decode b_M_line 1 = .ok (.iconst 0, 1) := by decide +kernel
theorem d_M_line_2 : decode b_M_line 2 = .ok (.putfield 174, 3) := by decide +kernel
theorem d_M_line_5 : decode b_M_line 5 = .ok (.aload_n 0, 1) := by decide +kernel
theorem d_M_line_6 : decode b_M_line 6 = .ok (.iload_n 1, 1) := by decide +kernel
theorem d_M_line_7 : decode b_M_line 7 = .ok (.invokevirtual 213, 3) := by decide +kernel
theorem d_M_line_10 : decode b_M_line 10 = .ok (.ireturn, 1) := by decide +kernel
theorem d_M_line_11 : decode b_M_line 11 = .ok (.astore_n 2, 1) := by decide +kernel
theorem d_M_line_12 : decode b_M_line 12 = .ok (.aload_n 0, 1) := by decide +kernel
theorem d_M_line_13 : decode b_M_line 13 = .ok (.iconst 1, 1) := by decide +kernel
theorem d_M_line_14 : decode b_M_line 14 = .ok (.putfield 174, 3) := by decide +kernel
theorem d_M_line_17 : decode b_M_line 17 = .ok (.iconst 0, 1) := by decide +kernel
theorem d_M_line_18 : decode b_M_line 18 = .ok (.ireturn, 1) := by decide +kernel
theorem d_M_line0_0 : decode b_M_line0 0 = .ok (.iconst 1, 1) := by decide +kernel
theorem d_M_line0_1 : decode b_M_line0 1 = .ok (.istore_n 2, 1) := by decide +kernel
theorem d_M_line0_2 : decode b_M_line0 2 = .ok (.iconst 0, 1) := by decide +kernel
theorem d_M_line0_3 : decode b_M_line0 3 = .ok (.istore_n 3, 1) := by decide +kernel
theorem d_M_line0_4 : decode b_M_line0 4 = .ok (.iload_n 1, 1) := by decide +kernel
theorem d_M_line0_5 : decode b_M_line0 5 = .ok (.ifCond .ne 7, 3) := by decide +kernel
theorem d_M_line0_8 : decode b_M_line0 8 = .ok (.iconst 0, 1) := by decide +kernel
theorem d_M_line0_9 : decode b_M_line0 9 = .ok (.goto 4, 3) := by decide +kernel
theorem d_M_line0_12 : decode b_M_line0 12 = .ok (.iconst (-1), 1) := by decide +kernel
theorem d_M_line0_13 : decode b_M_line0 13 = .ok (.istore 4, 2) := by decide +kernel
theorem d_M_line0_15 : decode b_M_line0 15 = .ok (.iconst 0, 1) := by decide +kernel
theorem d_M_line0_16 : decode b_M_line0 16 = .ok (.istore 5, 2) := by decide +kernel
theorem d_M_line0_18 : decode b_M_line0 18 = .ok (.iload 5, 2) := by decide +kernel
theorem d_M_line0_20 : decode b_M_line0 20 = .ok (.aload_n 0, 1) := by decide +kernel
theorem d_M_line0_21 : decode b_M_line0 21 = .ok (.getfield 10, 3) := by decide +kernel
theorem d_M_line0_24 : decode b_M_line0 24 = .ok (.getfield 158, 3) := by decide +kernel
theorem d_M_line0_27 : decode b_M_line0 27 = .ok (.if_icmp .ge 72, 3) := by decide +kernel
theorem d_M_line0_30 : decode b_M_line0 30 = .ok (.aload_n 0, 1) := by decide +kernel
theorem d_M_line0_31 : decode b_M_line0 31 = .ok (.getfield 10, 3) := by decide +kernel
theorem d_M_line0_34 : decode b_M_line0 34 = .ok (.aload_n 0, 1) := by decide +kernel
theorem d_M_line0_35 : decode b_M_line0 35 = .ok (.getfield 10, 3) := by decide +kernel
theorem d_M_line0_38 : decode b_M_line0 38 = .ok (.getfield 161, 3) := by decide +kernel
theorem d_M_line0_41 : decode b_M_line0 41 = .ok (.iload 5, 2) := by decide +kernel
theorem d_M_line0_43 : decode b_M_line0 43 = .ok (.iaload, 1) := by decide +kernel
theorem d_M_line0_44 : decode b_M_line0 44 = .ok (.invokevirtual 167, 3) := by decide +kernel
theorem d_M_line0_47 : decode b_M_line0 47 = .ok (.ifCond .ne 6, 3) := by decide +kernel
theorem d_M_line0_50 : decode b_M_line0 50 = .ok (.goto 43, 3) := by decide +kernel
theorem d_M_line0_53 : decode b_M_line0 53 = .ok (.iinc 3 1, 3) := by decide +kernel
theorem d_M_line0_56 : decode b_M_line0 56 = .ok (.aload_n 0, 1) := by decide +kernel
theorem d_M_line0_57 : decode b_M_line0 57 = .ok (.getfield 10, 3) := by decide +kernel
theorem d_M_line0_60 : decode b_M_line0 60 = .ok (.getfield 134, 3) := by decide +kernel
theorem d_M_line0_63 : decode b_M_line0 63 = .ok (.aload_n 0, 1) := by decide +kernel
theorem d_M_line0_64 : decode b_M_line0 64 = .ok (.getfield 10, 3) := by decide +kernel
theorem d_M_line0_67 : decode b_M_line0 67 = .ok (.getfield 161, 3) := by decide +kernel
theorem d_M_line0_70 : decode b_M_line0 70 = .ok (.iload 5, 2) := by decide +kernel
theorem d_M_line0_72 : decode b_M_line0 72 = .ok (.iaload, 1) := by decide +kernel
theorem d_M_line0_73 : decode b_M_line0 73 = .ok (.iaload, 1) := by decide +kernel
theorem d_M_line0_74 : decode b_M_line0 74 = .ok (.bipush 10, 2) := by decide +kernel
theorem d_M_line0_76 : decode b_M_line0 76 = .ok (.if_icmp .eq 6, 3) := by decide +kernel
theorem d_M_line0_79 : decode b_M_line0 79 = .ok (.goto 14, 3) := by decide +kernel
theorem d_M_line0_82 : decode b_M_line0 82 = .ok (.iload_n 2, 1) := by decide +kernel
theorem d_M_line0_83 : decode b_M_line0 83 = .ok (.iload_n 1, 1) := by decide +kernel
theorem d_M_line0_84 : decode b_M_line0 84 = .ok (.if_icmp .ne 6, 3) := by decide +kernel
theorem d_M_line0_87 : decode b_M_line0 87 = .ok (.iload_n 3, 1) := by decide +kernel
theorem d_M_line0_88 : decode b_M_line0 88 = .ok (.istore 4, 2) := by decide +kernel
theorem d_M_line0_90 : decode b_M_line0 90 = .ok (.iinc 2 1, 3) := by decide +kernel
theorem d_M_line0_93 : decode b_M_line0 93 = .ok (.iinc 5 1, 3) := by decide +kernel
theorem d_M_line0_96 : decode b_M_line0 96 = .ok (.goto (-78), 3) := by decide +kernel
theorem d_M_line0_99 : decode b_M_line0 99 = .ok (.iload_n 1, 1) := by decide +kernel
theorem d_M_line0_100 : decode b_M_line0 100 = .ok (.iconst (-1), 1) := by decide +kernel
theorem d_M_line0_101 : decode b_M_line0 101 = .ok (.if_icmp .ne 5, 3) := by decide +kernel
theorem d_M_line0_104 : decode b_M_line0 104 = .ok (.iload_n 2, 1) := by decide +kernel
theorem d_M_line0_105 : decode b_M_line0 105 = .ok (.ireturn, 1) := by decide +kernel
theorem d_M_line0_106 : decode b_M_line0 106 = .ok (.iload 4, 2) := by decide +kernel
theorem d_M_line0_108 : decode b_M_line0 108 = .ok (.ifCond .ge 11, 3) := by decide +kernel
theorem d_M_line0_111 : decode b_M_line0 111 = .ok (.new 34, 3) := by decide +kernel
theorem d_M_line0_114 : decode b_M_line0 114 = .ok (.dup, 1) := by decide +kernel
theorem d_M_line0_115 : decode b_M_line0 115 = .ok (.invokespecial 36, 3) := by decide +kernel
theorem d_M_line0_118 : decode b_M_line0 118 = .ok (.athrow, 1) := by decide +kernel
theorem d_M_line0_119 : decode b_M_line0 119 = .ok (.iload 4, 2) := by decide +kernel
theorem d_M_line0_121 : decode b_M_line0 121 = .ok (.ireturn, 1) := by decide +kernel
theorem d_M_events_0 : decode b_M_events 0 = .ok (.aload_n 0, 1) := by decide +kernel
theorem d_M_events_1 : decode b_M_events 1 = .ok (.iconst 0, 1) := by decide +kernel
theorem d_M_events_2 : decode b_M_events 2 = .ok (.putfield 174, 3) := by decide +kernel
theorem d_M_events_5 : decode b_M_events 5 = .ok (.aload_n 0, 1) := by decide +kernel
theorem d_M_events_6 : decode b_M_events 6 = .ok (.iload_n 1, 1) := by decide +kernel
theorem d_M_events_7 : decode b_M_events 7 = .ok (.invokevirtual 216, 3) := by decide +kernel
theorem d_M_events_10 : decode b_M_events 10 = .ok (.ireturn, 1) := by decide +kernel
theorem d_M_events_11 : decode b_M_events 11 = .ok (.astore_n 2, 1) := by decide +kernel
theorem d_M_events_12 : decode b_M_events 12 = .ok (.aload_n 0, 1) := by decide +kernel
theorem d_M_events_13 : decode b_M_events 13 = .ok (.iconst 1, 1) := by decide +kernel
theorem d_M_events_14 : decode b_M_events 14 = .ok (.putfield 174, 3) := by decide +kernel
theorem d_M_events_17 : decode b_M_events 17 = .ok (.iconst 0, 1) := by decide +kernel
theorem d_M_events_18 : decode b_M_events 18 = .ok (.ireturn, 1) := by decide +kernel
theorem d_M_events0_0 : decode b_M_events0 0 = .ok (.iload_n 1, 1) := by decide +kernel
theorem d_M_events0_1 : decode b_M_events0 1 = .ok (.iconst (-1), 1) := by decide +kernel
theorem d_M_events0_2 : decode b_M_events0 2 = .ok (.sipush 255, 3) := by decide +kernel
theorem d_M_events0_5 : decode b_M_events0 5 = .ok (.invokestatic 98, 3) := by decide +kernel
theorem d_M_events0_8 : decode b_M_events0 8 = .ok (.invokestatic 103, 3) := by decide +kernel
theorem d_M_events0_11 : decode b_M_events0 11 = .ok (.iload_n 1, 1) := by decide +kernel
theorem d_M_events0_12 : decode b_M_events0 12 = .ok (.ifCond .ge 13, 3) := by decide +kernel
theorem d_M_events0_15 : decode b_M_events0 15 = .ok (.aload_n 0, 1) := by decide +kernel
theorem d_M_events0_16 : decode b_M_events0 16 = .ok (.getfield 10, 3) := by decide +kernel
theorem d_M_events0_19 : decode b_M_events0 19 = .ok (.getfield 88, 3) := by decide +kernel
theorem d_M_events0_22 : decode b_M_events0 22 = .ok (.goto 11, 3) := by decide +kernel
theorem d_M_events0_25 : decode b_M_events0 25 = .ok (.aload_n 0, 1) := by decide +kernel
theorem d_M_events0_26 : decode b_M_events0 26 = .ok (.getfield 10, 3) := by decide +kernel
theorem d_M_events0_29 : decode b_M_events0 29 = .ok (.iload_n 1, 1) := by decide +kernel
theorem d_M_events0_30 : decode b_M_events0 30 = .ok (.invokevirtual 171, 3) := by decide +kernel
theorem d_M_events0_33 : decode b_M_events0 33 = .ok (.ireturn, 1) := by decide +kernel
theorem d_G_countOf_0 : decode b_G_countOf 0 = .ok (.aload_n 0, 1) := by decide +kernel
theorem d_G_countOf_1 : decode b_G_countOf 1 = .ok (.iload_n 1, 1) := by decide +kernel
theorem d_G_countOf_2 : decode b_G_countOf 2 = .ok (.invokevirtual 78, 3) := by decide +kernel
theorem d_G_countOf_5 : decode b_G_countOf 5 = .ok (.istore_n 2, 1) := by decide +kernel
theorem d_G_countOf_6 : decode b_G_countOf 6 = .ok (.iload_n 2, 1) := by decide +kernel
theorem d_G_countOf_7 : decode b_G_countOf 7 = .ok (.ifCond .ge 7, 3) := by decide +kernel
theorem d_G_countOf_10 : decode b_G_countOf 10 = .ok (.iconst 0, 1) := by decide +kernel
theorem d_G_countOf_11 : decode b_G_countOf 11 = .ok (.goto 9, 3) := by decide +kernel
theorem d_G_countOf_14 : decode b_G_countOf 14 = .ok (.aload_n 0, 1) := by decide +kernel
theorem d_G_countOf_15 : decode b_G_countOf 15 = .ok (.getfield 15, 3) := by decide +kernel
theorem d_G_countOf_18 : decode b_G_countOf 18 = .ok (.iload_n 2, 1) := by decide +kernel
theorem d_G_countOf_19 : decode b_G_countOf 19 = .ok (.iaload, 1) := by decide +kernel
theorem d_G_countOf_20 : decode b_G_countOf 20 = .ok (.ireturn, 1) := by decide +kernel
theorem d_L_law_0 : decode b_L_law 0 = .ok (.new 8, 3) := by decide +kernel
theorem d_L_law_3 : decode b_L_law 3 = .ok (.dup, 1) := by decide +kernel
theorem d_L_law_4 : decode b_L_law 4 = .ok (.invokespecial 58, 3) := by decide +kernel
theorem d_L_law_7 : decode b_L_law 7 = .ok (.astore_n 1, 1) := by decide +kernel
theorem d_L_law_8 : decode b_L_law 8 = .ok (.new 59, 3) := by decide +kernel
theorem d_L_law_11 : decode b_L_law 11 = .ok (.dup, 1) := by decide +kernel
theorem d_L_law_12 : decode b_L_law 12 = .ok (.invokespecial 61, 3) := by decide +kernel
theorem d_L_law_15 : decode b_L_law 15 = .ok (.astore_n 2, 1) := by decide +kernel
theorem d_L_law_16 : decode b_L_law 16 = .ok (.iconst 1, 1) := by decide +kernel
theorem d_L_law_17 : decode b_L_law 17 = .ok (.newarray .long, 2) := by decide +kernel
theorem d_L_law_19 : decode b_L_law 19 = .ok (.astore_n 3, 1) := by decide +kernel
theorem d_L_law_20 : decode b_L_law 20 = .ok (.iconst 0, 1) := by decide +kernel
theorem d_L_law_21 : decode b_L_law 21 = .ok (.istore 4, 2) := by decide +kernel
theorem d_L_law_23 : decode b_L_law 23 = .ok (.iload 4, 2) := by decide +kernel
theorem d_L_law_25 : decode b_L_law 25 = .ok (.aload_n 0, 1) := by decide +kernel
theorem d_L_law_26 : decode b_L_law 26 = .ok (.arraylength, 1) := by decide +kernel
theorem d_L_law_27 : decode b_L_law 27 = .ok (.iconst 5, 1) := by decide +kernel
theorem d_L_law_28 : decode b_L_law 28 = .ok (.isub, 1) := by decide +kernel
theorem d_L_law_29 : decode b_L_law 29 = .ok (.if_icmp .gt 806, 3) := by decide +kernel
theorem d_L_law_32 : decode b_L_law 32 = .ok (.aload_n 0, 1) := by decide +kernel
theorem d_L_law_33 : decode b_L_law 33 = .ok (.iload 4, 2) := by decide +kernel
theorem d_L_law_35 : decode b_L_law 35 = .ok (.iaload, 1) := by decide +kernel
theorem d_L_law_36 : decode b_L_law 36 = .ok (.bipush 15, 2) := by decide +kernel
theorem d_L_law_38 : decode b_L_law 38 = .ok (.iand, 1) := by decide +kernel
theorem d_L_law_39 : decode b_L_law 39 = .ok (.tableswitch 790 0 12 #[65, 133, 146, 190, 282, 362, 375, 431, 486, 554, 610, 678, 734], 65) := by decide +kernel
theorem d_L_law_104 : decode b_L_law 104 = .ok (.aload_n 1, 1) := by decide +kernel
theorem d_L_law_105 : decode b_L_law 105 = .ok (.aload_n 0, 1) := by decide +kernel
theorem d_L_law_106 : decode b_L_law 106 = .ok (.iload 4, 2) := by decide +kernel
theorem d_L_law_108 : decode b_L_law 108 = .ok (.iconst 1, 1) := by decide +kernel
theorem d_L_law_109 : decode b_L_law 109 = .ok (.iadd, 1) := by decide +kernel
theorem d_L_law_110 : decode b_L_law 110 = .ok (.iaload, 1) := by decide +kernel
theorem d_L_law_111 : decode b_L_law 111 = .ok (.aload_n 0, 1) := by decide +kernel
theorem d_L_law_112 : decode b_L_law 112 = .ok (.iload 4, 2) := by decide +kernel
theorem d_L_law_114 : decode b_L_law 114 = .ok (.iconst 2, 1) := by decide +kernel
theorem d_L_law_115 : decode b_L_law 115 = .ok (.iadd, 1) := by decide +kernel
theorem d_L_law_116 : decode b_L_law 116 = .ok (.iaload, 1) := by decide +kernel
theorem d_L_law_117 : decode b_L_law 117 = .ok (.aload_n 3, 1) := by decide +kernel
theorem d_L_law_118 : decode b_L_law 118 = .ok (.invokestatic 62, 3) := by decide +kernel
theorem d_L_law_121 : decode b_L_law 121 = .ok (.istore 5, 2) := by decide +kernel
theorem d_L_law_123 : decode b_L_law 123 = .ok (.aload_n 2, 1) := by decide +kernel
theorem d_L_law_124 : decode b_L_law 124 = .ok (.aload_n 0, 1) := by decide +kernel
theorem d_L_law_125 : decode b_L_law 125 = .ok (.iload 4, 2) := by decide +kernel
theorem d_L_law_127 : decode b_L_law 127 = .ok (.iconst 1, 1) := by decide +kernel
theorem d_L_law_128 : decode b_L_law 128 = .ok (.iadd, 1) := by decide +kernel
theorem d_L_law_129 : decode b_L_law 129 = .ok (.iaload, 1) := by decide +kernel
theorem d_L_law_130 : decode b_L_law 130 = .ok (.aload_n 0, 1) := by decide +kernel
theorem d_L_law_131 : decode b_L_law 131 = .ok (.iload 4, 2) := by decide +kernel
theorem d_L_law_133 : decode b_L_law 133 = .ok (.iconst 2, 1) := by decide +kernel
theorem d_L_law_134 : decode b_L_law 134 = .ok (.iadd, 1) := by decide +kernel
theorem d_L_law_135 : decode b_L_law 135 = .ok (.iaload, 1) := by decide +kernel
theorem d_L_law_136 : decode b_L_law 136 = .ok (.invokevirtual 67, 3) := by decide +kernel
theorem d_L_law_139 : decode b_L_law 139 = .ok (.istore 6, 2) := by decide +kernel
theorem d_L_law_141 : decode b_L_law 141 = .ok (.aload_n 2, 1) := by decide +kernel
theorem d_L_law_142 : decode b_L_law 142 = .ok (.invokevirtual 68, 3) := by decide +kernel
theorem d_L_law_145 : decode b_L_law 145 = .ok (.iload 5, 2) := by decide +kernel
theorem d_L_law_147 : decode b_L_law 147 = .ok (.if_icmp .eq 5, 3) := by decide +kernel
theorem d_L_law_150 : decode b_L_law 150 = .ok (.iconst 0, 1) := by decide +kernel
theorem d_L_law_151 : decode b_L_law 151 = .ok (.ireturn, 1) := by decide +kernel
theorem d_L_law_152 : decode b_L_law 152 = .ok (.iload 5, 2) := by decide +kernel
theorem d_L_law_154 : decode b_L_law 154 = .ok (.ifCond .ne 15, 3) := by decide +kernel
theorem d_L_law_157 : decode b_L_law 157 = .ok (.aload_n 3, 1) := by decide +kernel
theorem d_L_law_158 : decode b_L_law 158 = .ok (.iconst 0, 1) := by decide +kernel
theorem d_L_law_159 : decode b_L_law 159 = .ok (.laload, 1) := by decide +kernel
theorem d_L_law_160 : decode b_L_law 160 = .ok (.iload 6, 2) := by decide +kernel
theorem d_L_law_162 : decode b_L_law 162 = .ok (.i2l, 1) := by decide +kernel
theorem d_L_law_163 : decode b_L_law 163 = .ok (.lcmp, 1) := by decide +kernel
theorem d_L_law_164 : decode b_L_law 164 = .ok (.ifCond .eq 5, 3) := by decide +kernel
theorem d_L_law_167 : decode b_L_law 167 = .ok (.iconst 0, 1) := by decide +kernel
theorem d_L_law_168 : decode b_L_law 168 = .ok (.ireturn, 1) := by decide +kernel
theorem d_L_law_169 : decode b_L_law 169 = .ok (.goto 660, 3) := by decide +kernel
theorem d_L_law_172 : decode b_L_law 172 = .ok (.aload_n 1, 1) := by decide +kernel
theorem d_L_law_173 : decode b_L_law 173 = .ok (.invokevirtual 71, 3) := by decide +kernel
theorem d_L_law_176 : decode b_L_law 176 = .ok (.aload_n 2, 1) := by decide +kernel
theorem d_L_law_177 : decode b_L_law 177 = .ok (.invokevirtual 74, 3) := by decide +kernel
theorem d_L_law_180 : decode b_L_law 180 = .ok (.if_icmp .eq 649, 3) := by decide +kernel
theorem d_L_law_183 : decode b_L_law 183 = .ok (.iconst 0, 1) := by decide +kernel
theorem d_L_law_184 : decode b_L_law 184 = .ok (.ireturn, 1) := by decide +kernel
theorem d_L_law_185 : decode b_L_law 185 = .ok (.aload_n 1, 1) := by decide +kernel
theorem d_L_law_186 : decode b_L_law 186 = .ok (.aload_n 3, 1) := by decide +kernel
theorem d_L_law_187 : decode b_L_law 187 = .ok (.invokestatic 75, 3) := by decide +kernel
theorem d_L_law_190 : decode b_L_law 190 = .ok (.istore 5, 2) := by decide +kernel
theorem d_L_law_192 : decode b_L_law 192 = .ok (.aload_n 2, 1) := by decide +kernel
theorem d_L_law_193 : decode b_L_law 193 = .ok (.invokevirtual 78, 3) := by decide +kernel
theorem d_L_law_196 : decode b_L_law 196 = .ok (.istore 6, 2) := by decide +kernel
theorem d_L_law_198 : decode b_L_law 198 = .ok (.aload_n 2, 1) := by decide +kernel
theorem d_L_law_199 : decode b_L_law 199 = .ok (.invokevirtual 68, 3) := by decide +kernel
theorem d_L_law_202 : decode b_L_law 202 = .ok (.iload 5, 2) := by decide +kernel
theorem d_L_law_204 : decode b_L_law 204 = .ok (.if_icmp .eq 5, 3) := by decide +kernel
theorem d_L_law_207 : decode b_L_law 207 = .ok (.iconst 0, 1) := by decide +kernel
theorem d_L_law_208 : decode b_L_law 208 = .ok (.ireturn, 1) := by decide +kernel
theorem d_L_law_209 : decode b_L_law 209 = .ok (.iload 5, 2) := by decide +kernel
theorem d_L_law_211 : decode b_L_law 211 = .ok (.ifCond .ne 15, 3) := by decide +kernel
theorem d_L_law_214 : decode b_L_law 214 = .ok (.aload_n 3, 1) := by decide +kernel
theorem d_L_law_215 : decode b_L_law 215 = .ok (.iconst 0, 1) := by decide +kernel
theorem d_L_law_216 : decode b_L_law 216 = .ok (.laload, 1) := by decide +kernel
theorem d_L_law_217 : decode b_L_law 217 = .ok (.iload 6, 2) := by decide +kernel
theorem d_L_law_219 : decode b_L_law 219 = .ok (.i2l, 1) := by decide +kernel
theorem d_L_law_220 : decode b_L_law 220 = .ok (.lcmp, 1) := by decide +kernel
theorem d_L_law_221 : decode b_L_law 221 = .ok (.ifCond .eq 5, 3) := by decide +kernel
theorem d_L_law_224 : decode b_L_law 224 = .ok (.iconst 0, 1) := by decide +kernel
theorem d_L_law_225 : decode b_L_law 225 = .ok (.ireturn, 1) := by decide +kernel
theorem d_L_law_226 : decode b_L_law 226 = .ok (.goto 603, 3) := by decide +kernel
theorem d_L_law_229 : decode b_L_law 229 = .ok (.aload_n 1, 1) := by decide +kernel
theorem d_L_law_230 : decode b_L_law 230 = .ok (.aload_n 0, 1) := by decide +kernel
theorem d_L_law_231 : decode b_L_law 231 = .ok (.iload 4, 2) := by decide +kernel
theorem d_L_law_233 : decode b_L_law 233 = .ok (.iconst 1, 1) := by decide +kernel
theorem d_L_law_234 : decode b_L_law 234 = .ok (.iadd, 1) := by decide +kernel
theorem d_L_law_235 : decode b_L_law 235 = .ok (.iaload, 1) := by decide +kernel
theorem d_L_law_236 : decode b_L_law 236 = .ok (.aload_n 0, 1) := by decide +kernel
theorem d_L_law_237 : decode b_L_law 237 = .ok (.iload 4, 2) := by decide +kernel
theorem d_L_law_239 : decode b_L_law 239 = .ok (.iconst 2, 1) := by decide +kernel
theorem d_L_law_240 : decode b_L_law 240 = .ok (.iadd, 1) := by decide +kernel
theorem d_L_law_241 : decode b_L_law 241 = .ok (.iaload, 1) := by decide +kernel
theorem d_L_law_242 : decode b_L_law 242 = .ok (.aload_n 0, 1) := by decide +kernel
theorem d_L_law_243 : decode b_L_law 243 = .ok (.iload 4, 2) := by decide +kernel
theorem d_L_law_245 : decode b_L_law 245 = .ok (.iconst 3, 1) := by decide +kernel
theorem d_L_law_246 : decode b_L_law 246 = .ok (.iadd, 1) := by decide +kernel
theorem d_L_law_247 : decode b_L_law 247 = .ok (.iaload, 1) := by decide +kernel
theorem d_L_law_248 : decode b_L_law 248 = .ok (.aload_n 0, 1) := by decide +kernel
theorem d_L_law_249 : decode b_L_law 249 = .ok (.iload 4, 2) := by decide +kernel
theorem d_L_law_251 : decode b_L_law 251 = .ok (.iconst 4, 1) := by decide +kernel
theorem d_L_law_252 : decode b_L_law 252 = .ok (.iadd, 1) := by decide +kernel
theorem d_L_law_253 : decode b_L_law 253 = .ok (.iaload, 1) := by decide +kernel
theorem d_L_law_254 : decode b_L_law 254 = .ok (.aload_n 3, 1) := by decide +kernel
theorem d_L_law_255 : decode b_L_law 255 = .ok (.invokestatic 79, 3) := by decide +kernel
theorem d_L_law_258 : decode b_L_law 258 = .ok (.istore 5, 2) := by decide +kernel
theorem d_L_law_260 : decode b_L_law 260 = .ok (.aload_n 2, 1) := by decide +kernel
theorem d_L_law_261 : decode b_L_law 261 = .ok (.aload_n 0, 1) := by decide +kernel
theorem d_L_law_262 : decode b_L_law 262 = .ok (.iload 4, 2) := by decide +kernel
theorem d_L_law_264 : decode b_L_law 264 = .ok (.iconst 1, 1) := by decide +kernel
theorem d_L_law_265 : decode b_L_law 265 = .ok (.iadd, 1) := by decide +kernel
theorem d_L_law_266 : decode b_L_law 266 = .ok (.iaload, 1) := by decide +kernel
theorem d_L_law_267 : decode b_L_law 267 = .ok (.aload_n 0, 1) := by decide +kernel
theorem d_L_law_268 : decode b_L_law 268 = .ok (.iload 4, 2) := by decide +kernel
theorem d_L_law_270 : decode b_L_law 270 = .ok (.iconst 2, 1) := by decide +kernel
theorem d_L_law_271 : decode b_L_law 271 = .ok (.iadd, 1) := by decide +kernel
theorem d_L_law_272 : decode b_L_law 272 = .ok (.iaload, 1) := by decide +kernel
theorem d_L_law_273 : decode b_L_law 273 = .ok (.aload_n 0, 1) := by decide +kernel
theorem d_L_law_274 : decode b_L_law 274 = .ok (.iload 4, 2) := by decide +kernel
theorem d_L_law_276 : decode b_L_law 276 = .ok (.iconst 3, 1) := by decide +kernel
theorem d_L_law_277 : decode b_L_law 277 = .ok (.iadd, 1) := by decide +kernel
theorem d_L_law_278 : decode b_L_law 278 = .ok (.iaload, 1) := by decide +kernel
theorem d_L_law_279 : decode b_L_law 279 = .ok (.aload_n 0, 1) := by decide +kernel
theorem d_L_law_280 : decode b_L_law 280 = .ok (.iload 4, 2) := by decide +kernel
theorem d_L_law_282 : decode b_L_law 282 = .ok (.iconst 4, 1) := by decide +kernel
theorem d_L_law_283 : decode b_L_law 283 = .ok (.iadd, 1) := by decide +kernel
theorem d_L_law_284 : decode b_L_law 284 = .ok (.iaload, 1) := by decide +kernel
theorem d_L_law_285 : decode b_L_law 285 = .ok (.invokevirtual 82, 3) := by decide +kernel
theorem d_L_law_288 : decode b_L_law 288 = .ok (.istore 6, 2) := by decide +kernel
theorem d_L_law_290 : decode b_L_law 290 = .ok (.aload_n 2, 1) := by decide +kernel
theorem d_L_law_291 : decode b_L_law 291 = .ok (.invokevirtual 68, 3) := by decide +kernel
theorem d_L_law_294 : decode b_L_law 294 = .ok (.iload 5, 2) := by decide +kernel
theorem d_L_law_296 : decode b_L_law 296 = .ok (.if_icmp .eq 5, 3) := by decide +kernel
theorem d_L_law_299 : decode b_L_law 299 = .ok (.iconst 0, 1) := by decide +kernel
theorem d_L_law_300 : decode b_L_law 300 = .ok (.ireturn, 1) := by decide +kernel
theorem d_L_law_301 : decode b_L_law 301 = .ok (.iload 5, 2) := by decide +kernel
theorem d_L_law_303 : decode b_L_law 303 = .ok (.ifCond .ne 15, 3) := by decide +kernel
theorem d_L_law_306 : decode b_L_law 306 = .ok (.aload_n 3, 1) := by decide +kernel
theorem d_L_law_307 : decode b_L_law 307 = .ok (.iconst 0, 1) := by decide +kernel
theorem d_L_law_308 : decode b_L_law 308 = .ok (.laload, 1) := by decide +kernel
theorem d_L_law_309 : decode b_L_law 309 = .ok (.iload 6, 2) := by decide +kernel
theorem d_L_law_311 : decode b_L_law 311 = .ok (.i2l, 1) := by decide +kernel
theorem d_L_law_312 : decode b_L_law 312 = .ok (.lcmp, 1) := by decide +kernel
theorem d_L_law_313 : decode b_L_law 313 = .ok (.ifCond .eq 5, 3) := by decide +kernel
theorem d_L_law_316 : decode b_L_law 316 = .ok (.iconst 0, 1) := by decide +kernel
theorem d_L_law_317 : decode b_L_law 317 = .ok (.ireturn, 1) := by decide +kernel
theorem d_L_law_318 : decode b_L_law 318 = .ok (.goto 511, 3) := by decide +kernel
theorem d_L_law_321 : decode b_L_law 321 = .ok (.aload_n 1, 1) := by decide +kernel
theorem d_L_law_322 : decode b_L_law 322 = .ok (.aload_n 0, 1) := by decide +kernel
theorem d_L_law_323 : decode b_L_law 323 = .ok (.iload 4, 2) := by decide +kernel
theorem d_L_law_325 : decode b_L_law 325 = .ok (.iconst 1, 1) := by decide +kernel
theorem d_L_law_326 : decode b_L_law 326 = .ok (.iadd, 1) := by decide +kernel
theorem d_L_law_327 : decode b_L_law 327 = .ok (.iaload, 1) := by decide +kernel
theorem d_L_law_328 : decode b_L_law 328 = .ok (.aload_n 0, 1) := by decide +kernel
theorem d_L_law_329 : decode b_L_law 329 = .ok (.iload 4, 2) := by decide +kernel
theorem d_L_law_331 : decode b_L_law 331 = .ok (.iconst 2, 1) := by decide +kernel
theorem d_L_law_332 : decode b_L_law 332 = .ok (.iadd, 1) := by decide +kernel
theorem d_L_law_333 : decode b_L_law 333 = .ok (.iaload, 1) := by decide +kernel
theorem d_L_law_334 : decode b_L_law 334 = .ok (.aload_n 0, 1) := by decide +kernel
theorem d_L_law_335 : decode b_L_law 335 = .ok (.iload 4, 2) := by decide +kernel
theorem d_L_law_337 : decode b_L_law 337 = .ok (.iconst 3, 1) := by decide +kernel
theorem d_L_law_338 : decode b_L_law 338 = .ok (.iadd, 1) := by decide +kernel
theorem d_L_law_339 : decode b_L_law 339 = .ok (.iaload, 1) := by decide +kernel
theorem d_L_law_340 : decode b_L_law 340 = .ok (.aload_n 3, 1) := by decide +kernel
theorem d_L_law_341 : decode b_L_law 341 = .ok (.invokestatic 83, 3) := by decide +kernel
theorem d_L_law_344 : decode b_L_law 344 = .ok (.istore 5, 2) := by decide +kernel
theorem d_L_law_346 : decode b_L_law 346 = .ok (.aload_n 2, 1) := by decide +kernel
theorem d_L_law_347 : decode b_L_law 347 = .ok (.aload_n 0, 1) := by decide +kernel
theorem d_L_law_348 : decode b_L_law 348 = .ok (.iload 4, 2) := by decide +kernel
theorem d_L_law_350 : decode b_L_law 350 = .ok (.iconst 1, 1) := by decide +kernel
theorem d_L_law_351 : decode b_L_law 351 = .ok (.iadd, 1) := by decide +kernel
theorem d_L_law_352 : decode b_L_law 352 = .ok (.iaload, 1) := by decide +kernel
theorem d_L_law_353 : decode b_L_law 353 = .ok (.aload_n 0, 1) := by decide +kernel
theorem d_L_law_354 : decode b_L_law 354 = .ok (.iload 4, 2) := by decide +kernel
theorem d_L_law_356 : decode b_L_law 356 = .ok (.iconst 2, 1) := by decide +kernel
theorem d_L_law_357 : decode b_L_law 357 = .ok (.iadd, 1) := by decide +kernel
theorem d_L_law_358 : decode b_L_law 358 = .ok (.iaload, 1) := by decide +kernel
theorem d_L_law_359 : decode b_L_law 359 = .ok (.aload_n 0, 1) := by decide +kernel
theorem d_L_law_360 : decode b_L_law 360 = .ok (.iload 4, 2) := by decide +kernel
theorem d_L_law_362 : decode b_L_law 362 = .ok (.iconst 3, 1) := by decide +kernel
theorem d_L_law_363 : decode b_L_law 363 = .ok (.iadd, 1) := by decide +kernel
theorem d_L_law_364 : decode b_L_law 364 = .ok (.iaload, 1) := by decide +kernel
theorem d_L_law_365 : decode b_L_law 365 = .ok (.invokevirtual 86, 3) := by decide +kernel
theorem d_L_law_368 : decode b_L_law 368 = .ok (.istore 6, 2) := by decide +kernel
theorem d_L_law_370 : decode b_L_law 370 = .ok (.aload_n 2, 1) := by decide +kernel
theorem d_L_law_371 : decode b_L_law 371 = .ok (.invokevirtual 68, 3) := by decide +kernel
theorem d_L_law_374 : decode b_L_law 374 = .ok (.iload 5, 2) := by decide +kernel
theorem d_L_law_376 : decode b_L_law 376 = .ok (.if_icmp .eq 5, 3) := by decide +kernel
theorem d_L_law_379 : decode b_L_law 379 = .ok (.iconst 0, 1) := by decide +kernel
theorem d_L_law_380 : decode b_L_law 380 = .ok (.ireturn, 1) := by decide +kernel
theorem d_L_law_381 : decode b_L_law 381 = .ok (.iload 5, 2) := by decide +kernel
theorem d_L_law_383 : decode b_L_law 383 = .ok (.ifCond .ne 15, 3) := by decide +kernel
theorem d_L_law_386 : decode b_L_law 386 = .ok (.aload_n 3, 1) := by decide +kernel
theorem d_L_law_387 : decode b_L_law 387 = .ok (.iconst 0, 1) := by decide +kernel
theorem d_L_law_388 : decode b_L_law 388 = .ok (.laload, 1) := by decide +kernel
theorem d_L_law_389 : decode b_L_law 389 = .ok (.iload 6, 2) := by decide +kernel
theorem d_L_law_391 : decode b_L_law 391 = .ok (.i2l, 1) := by decide +kernel
theorem d_L_law_392 : decode b_L_law 392 = .ok (.lcmp, 1) := by decide +kernel
theorem d_L_law_393 : decode b_L_law 393 = .ok (.ifCond .eq 5, 3) := by decide +kernel
theorem d_L_law_396 : decode b_L_law 396 = .ok (.iconst 0, 1) := by decide +kernel
theorem d_L_law_397 : decode b_L_law 397 = .ok (.ireturn, 1) := by decide +kernel
theorem d_L_law_398 : decode b_L_law 398 = .ok (.goto 431, 3) := by decide +kernel
theorem d_L_law_401 : decode b_L_law 401 = .ok (.aload_n 1, 1) := by decide +kernel
theorem d_L_law_402 : decode b_L_law 402 = .ok (.invokevirtual 87, 3) := by decide +kernel
theorem d_L_law_405 : decode b_L_law 405 = .ok (.aload_n 2, 1) := by decide +kernel
theorem d_L_law_406 : decode b_L_law 406 = .ok (.invokevirtual 90, 3) := by decide +kernel
theorem d_L_law_409 : decode b_L_law 409 = .ok (.if_icmp .eq 420, 3) := by decide +kernel
theorem d_L_law_412 : decode b_L_law 412 = .ok (.iconst 0, 1) := by decide +kernel
theorem d_L_law_413 : decode b_L_law 413 = .ok (.ireturn, 1) := by decide +kernel
theorem d_L_law_414 : decode b_L_law 414 = .ok (.aload_n 1, 1) := by decide +kernel
theorem d_L_law_415 : decode b_L_law 415 = .ok (.aload_n 0, 1) := by decide +kernel
theorem d_L_law_416 : decode b_L_law 416 = .ok (.iload 4, 2) := by decide +kernel
theorem d_L_law_418 : decode b_L_law 418 = .ok (.iconst 1, 1) := by decide +kernel
theorem d_L_law_419 : decode b_L_law 419 = .ok (.iadd, 1) := by decide +kernel
theorem d_L_law_420 : decode b_L_law 420 = .ok (.iaload, 1) := by decide +kernel
theorem d_L_law_421 : decode b_L_law 421 = .ok (.aload_n 3, 1) := by decide +kernel
theorem d_L_law_422 : decode b_L_law 422 = .ok (.invokestatic 91, 3) := by decide +kernel
theorem d_L_law_425 : decode b_L_law 425 = .ok (.istore 5, 2) := by decide +kernel
theorem d_L_law_427 : decode b_L_law 427 = .ok (.aload_n 2, 1) := by decide +kernel
theorem d_L_law_428 : decode b_L_law 428 = .ok (.aload_n 0, 1) := by decide +kernel
theorem d_L_law_429 : decode b_L_law 429 = .ok (.iload 4, 2) := by decide +kernel
theorem d_L_law_431 : decode b_L_law 431 = .ok (.iconst 1, 1) := by decide +kernel
theorem d_L_law_432 : decode b_L_law 432 = .ok (.iadd, 1) := by decide +kernel
theorem d_L_law_433 : decode b_L_law 433 = .ok (.iaload, 1) := by decide +kernel
theorem d_L_law_434 : decode b_L_law 434 = .ok (.invokevirtual 94, 3) := by decide +kernel
theorem d_L_law_437 : decode b_L_law 437 = .ok (.istore 6, 2) := by decide +kernel
theorem d_L_law_439 : decode b_L_law 439 = .ok (.aload_n 2, 1) := by decide +kernel
theorem d_L_law_440 : decode b_L_law 440 = .ok (.invokevirtual 68, 3) := by decide +kernel
theorem d_L_law_443 : decode b_L_law 443 = .ok (.iload 5, 2) := by decide +kernel
theorem d_L_law_445 : decode b_L_law 445 = .ok (.if_icmp .eq 5, 3) := by decide +kernel
theorem d_L_law_448 : decode b_L_law 448 = .ok (.iconst 0, 1) := by decide +kernel
theorem d_L_law_449 : decode b_L_law 449 = .ok (.ireturn, 1) := by decide +kernel
theorem d_L_law_450 : decode b_L_law 450 = .ok (.iload 5, 2) := by decide +kernel
theorem d_L_law_452 : decode b_L_law 452 = .ok (.ifCond .ne 15, 3) := by decide +kernel
theorem d_L_law_455 : decode b_L_law 455 = .ok (.aload_n 3, 1) := by decide +kernel
theorem d_L_law_456 : decode b_L_law 456 = .ok (.iconst 0, 1) := by decide +kernel
theorem d_L_law_457 : decode b_L_law 457 = .ok (.laload, 1) := by decide +kernel
theorem d_L_law_458 : decode b_L_law 458 = .ok (.iload 6, 2) := by decide +kernel
theorem d_L_law_460 : decode b_L_law 460 = .ok (.i2l, 1) := by decide +kernel
theorem d_L_law_461 : decode b_L_law 461 = .ok (.lcmp, 1) := by decide +kernel
theorem d_L_law_462 : decode b_L_law 462 = .ok (.ifCond .eq 5, 3) := by decide +kernel
theorem d_L_law_465 : decode b_L_law 465 = .ok (.iconst 0, 1) := by decide +kernel
theorem d_L_law_466 : decode b_L_law 466 = .ok (.ireturn, 1) := by decide +kernel
theorem d_L_law_467 : decode b_L_law 467 = .ok (.goto 362, 3) := by decide +kernel
theorem d_L_law_470 : decode b_L_law 470 = .ok (.aload_n 1, 1) := by decide +kernel
theorem d_L_law_471 : decode b_L_law 471 = .ok (.aload_n 0, 1) := by decide +kernel
theorem d_L_law_472 : decode b_L_law 472 = .ok (.iload 4, 2) := by decide +kernel
theorem d_L_law_474 : decode b_L_law 474 = .ok (.iconst 1, 1) := by decide +kernel
theorem d_L_law_475 : decode b_L_law 475 = .ok (.iadd, 1) := by decide +kernel
theorem d_L_law_476 : decode b_L_law 476 = .ok (.iaload, 1) := by decide +kernel
theorem d_L_law_477 : decode b_L_law 477 = .ok (.aload_n 3, 1) := by decide +kernel
theorem d_L_law_478 : decode b_L_law 478 = .ok (.invokestatic 95, 3) := by decide +kernel
theorem d_L_law_481 : decode b_L_law 481 = .ok (.istore 5, 2) := by decide +kernel
theorem d_L_law_483 : decode b_L_law 483 = .ok (.aload_n 2, 1) := by decide +kernel
theorem d_L_law_484 : decode b_L_law 484 = .ok (.aload_n 0, 1) := by decide +kernel
theorem d_L_law_485 : decode b_L_law 485 = .ok (.iload 4, 2) := by decide +kernel
theorem d_L_law_487 : decode b_L_law 487 = .ok (.iconst 1, 1) := by decide +kernel
theorem d_L_law_488 : decode b_L_law 488 = .ok (.iadd, 1) := by decide +kernel
theorem d_L_law_489 : decode b_L_law 489 = .ok (.iaload, 1) := by decide +kernel
theorem d_L_law_490 : decode b_L_law 490 = .ok (.invokevirtual 97, 3) := by decide +kernel
theorem d_L_law_493 : decode b_L_law 493 = .ok (.lstore 6, 2) := by decide +kernel
theorem d_L_law_495 : decode b_L_law 495 = .ok (.aload_n 2, 1) := by decide +kernel
theorem d_L_law_496 : decode b_L_law 496 = .ok (.invokevirtual 68, 3) := by decide +kernel
theorem d_L_law_499 : decode b_L_law 499 = .ok (.iload 5, 2) := by decide +kernel
theorem d_L_law_501 : decode b_L_law 501 = .ok (.if_icmp .eq 5, 3) := by decide +kernel
theorem d_L_law_504 : decode b_L_law 504 = .ok (.iconst 0, 1) := by decide +kernel
theorem d_L_law_505 : decode b_L_law 505 = .ok (.ireturn, 1) := by decide +kernel
theorem d_L_law_506 : decode b_L_law 506 = .ok (.iload 5, 2) := by decide +kernel
theorem d_L_law_508 : decode b_L_law 508 = .ok (.ifCond .ne 14, 3) := by decide +kernel
theorem d_L_law_511 : decode b_L_law 511 = .ok (.aload_n 3, 1) := by decide +kernel
theorem d_L_law_512 : decode b_L_law 512 = .ok (.iconst 0, 1) := by decide +kernel
theorem d_L_law_513 : decode b_L_law 513 = .ok (.laload, 1) := by decide +kernel
theorem d_L_law_514 : decode b_L_law 514 = .ok (.lload 6, 2) := by decide +kernel
theorem d_L_law_516 : decode b_L_law 516 = .ok (.lcmp, 1) := by decide +kernel
theorem d_L_law_517 : decode b_L_law 517 = .ok (.ifCond .eq 5, 3) := by decide +kernel
theorem d_L_law_520 : decode b_L_law 520 = .ok (.iconst 0, 1) := by decide +kernel
theorem d_L_law_521 : decode b_L_law 521 = .ok (.ireturn, 1) := by decide +kernel
theorem d_L_law_522 : decode b_L_law 522 = .ok (.goto 307, 3) := by decide +kernel
theorem d_L_law_525 : decode b_L_law 525 = .ok (.aload_n 1, 1) := by decide +kernel
theorem d_L_law_526 : decode b_L_law 526 = .ok (.aload_n 0, 1) := by decide +kernel
theorem d_L_law_527 : decode b_L_law 527 = .ok (.iload 4, 2) := by decide +kernel
theorem d_L_law_529 : decode b_L_law 529 = .ok (.iconst 1, 1) := by decide +kernel
theorem d_L_law_530 : decode b_L_law 530 = .ok (.iadd, 1) := by decide +kernel
theorem d_L_law_531 : decode b_L_law 531 = .ok (.iaload, 1) := by decide +kernel
theorem d_L_law_532 : decode b_L_law 532 = .ok (.aload_n 0, 1) := by decide +kernel
theorem d_L_law_533 : decode b_L_law 533 = .ok (.iload 4, 2) := by decide +kernel
theorem d_L_law_535 : decode b_L_law 535 = .ok (.iconst 2, 1) := by decide +kernel
theorem d_L_law_536 : decode b_L_law 536 = .ok (.iadd, 1) := by decide +kernel
theorem d_L_law_537 : decode b_L_law 537 = .ok (.iaload, 1) := by decide +kernel
theorem d_L_law_538 : decode b_L_law 538 = .ok (.aload_n 3, 1) := by decide +kernel
theorem d_L_law_539 : decode b_L_law 539 = .ok (.invokestatic 98, 3) := by decide +kernel
theorem d_L_law_542 : decode b_L_law 542 = .ok (.istore 5, 2) := by decide +kernel
theorem d_L_law_544 : decode b_L_law 544 = .ok (.aload_n 2, 1) := by decide +kernel
theorem d_L_law_545 : decode b_L_law 545 = .ok (.aload_n 0, 1) := by decide +kernel
theorem d_L_law_546 : decode b_L_law 546 = .ok (.iload 4, 2) := by decide +kernel
theorem d_L_law_548 : decode b_L_law 548 = .ok (.iconst 1, 1) := by decide +kernel
theorem d_L_law_549 : decode b_L_law 549 = .ok (.iadd, 1) := by decide +kernel
theorem d_L_law_550 : decode b_L_law 550 = .ok (.iaload, 1) := by decide +kernel
theorem d_L_law_551 : decode b_L_law 551 = .ok (.aload_n 0, 1) := by decide +kernel
theorem d_L_law_552 : decode b_L_law 552 = .ok (.iload 4, 2) := by decide +kernel
theorem d_L_law_554 : decode b_L_law 554 = .ok (.iconst 2, 1) := by decide +kernel
theorem d_L_law_555 : decode b_L_law 555 = .ok (.iadd, 1) := by decide +kernel
theorem d_L_law_556 : decode b_L_law 556 = .ok (.iaload, 1) := by decide +kernel
theorem d_L_law_557 : decode b_L_law 557 = .ok (.invokevirtual 100, 3) := by decide +kernel
theorem d_L_law_560 : decode b_L_law 560 = .ok (.istore 6, 2) := by decide +kernel
theorem d_L_law_562 : decode b_L_law 562 = .ok (.aload_n 2, 1) := by decide +kernel
theorem d_L_law_563 : decode b_L_law 563 = .ok (.invokevirtual 68, 3) := by decide +kernel
theorem d_L_law_566 : decode b_L_law 566 = .ok (.iload 5, 2) := by decide +kernel
theorem d_L_law_568 : decode b_L_law 568 = .ok (.if_icmp .eq 5, 3) := by decide +kernel
theorem d_L_law_571 : decode b_L_law 571 = .ok (.iconst 0, 1) := by decide +kernel
theorem d_L_law_572 : decode b_L_law 572 = .ok (.ireturn, 1) := by decide +kernel
theorem d_L_law_573 : decode b_L_law 573 = .ok (.iload 5, 2) := by decide +kernel
theorem d_L_law_575 : decode b_L_law 575 = .ok (.ifCond .ne 15, 3) := by decide +kernel
theorem d_L_law_578 : decode b_L_law 578 = .ok (.aload_n 3, 1) := by decide +kernel
theorem d_L_law_579 : decode b_L_law 579 = .ok (.iconst 0, 1) := by decide +kernel
theorem d_L_law_580 : decode b_L_law 580 = .ok (.laload, 1) := by decide +kernel
theorem d_L_law_581 : decode b_L_law 581 = .ok (.iload 6, 2) := by decide +kernel
theorem d_L_law_583 : decode b_L_law 583 = .ok (.i2l, 1) := by decide +kernel
theorem d_L_law_584 : decode b_L_law 584 = .ok (.lcmp, 1) := by decide +kernel
theorem d_L_law_585 : decode b_L_law 585 = .ok (.ifCond .eq 5, 3) := by decide +kernel
theorem d_L_law_588 : decode b_L_law 588 = .ok (.iconst 0, 1) := by decide +kernel
theorem d_L_law_589 : decode b_L_law 589 = .ok (.ireturn, 1) := by decide +kernel
theorem d_L_law_590 : decode b_L_law 590 = .ok (.goto 239, 3) := by decide +kernel
theorem d_L_law_593 : decode b_L_law 593 = .ok (.aload_n 1, 1) := by decide +kernel
theorem d_L_law_594 : decode b_L_law 594 = .ok (.aload_n 0, 1) := by decide +kernel
theorem d_L_law_595 : decode b_L_law 595 = .ok (.iload 4, 2) := by decide +kernel
theorem d_L_law_597 : decode b_L_law 597 = .ok (.iconst 1, 1) := by decide +kernel
theorem d_L_law_598 : decode b_L_law 598 = .ok (.iadd, 1) := by decide +kernel
theorem d_L_law_599 : decode b_L_law 599 = .ok (.iaload, 1) := by decide +kernel
theorem d_L_law_600 : decode b_L_law 600 = .ok (.aload_n 3, 1) := by decide +kernel
theorem d_L_law_601 : decode b_L_law 601 = .ok (.invokestatic 101, 3) := by decide +kernel
theorem d_L_law_604 : decode b_L_law 604 = .ok (.istore 5, 2) := by decide +kernel
theorem d_L_law_606 : decode b_L_law 606 = .ok (.aload_n 2, 1) := by decide +kernel
theorem d_L_law_607 : decode b_L_law 607 = .ok (.aload_n 0, 1) := by decide +kernel
theorem d_L_law_608 : decode b_L_law 608 = .ok (.iload 4, 2) := by decide +kernel
theorem d_L_law_610 : decode b_L_law 610 = .ok (.iconst 1, 1) := by decide +kernel
theorem d_L_law_611 : decode b_L_law 611 = .ok (.iadd, 1) := by decide +kernel
theorem d_L_law_612 : decode b_L_law 612 = .ok (.iaload, 1) := by decide +kernel
theorem d_L_law_613 : decode b_L_law 613 = .ok (.invokevirtual 103, 3) := by decide +kernel
theorem d_L_law_616 : decode b_L_law 616 = .ok (.istore 6, 2) := by decide +kernel
theorem d_L_law_618 : decode b_L_law 618 = .ok (.aload_n 2, 1) := by decide +kernel
theorem d_L_law_619 : decode b_L_law 619 = .ok (.invokevirtual 68, 3) := by decide +kernel
theorem d_L_law_622 : decode b_L_law 622 = .ok (.iload 5, 2) := by decide +kernel
theorem d_L_law_624 : decode b_L_law 624 = .ok (.if_icmp .eq 5, 3) := by decide +kernel
theorem d_L_law_627 : decode b_L_law 627 = .ok (.iconst 0, 1) := by decide +kernel
theorem d_L_law_628 : decode b_L_law 628 = .ok (.ireturn, 1) := by decide +kernel
theorem d_L_law_629 : decode b_L_law 629 = .ok (.iload 5, 2) := by decide +kernel
theorem d_L_law_631 : decode b_L_law 631 = .ok (.ifCond .ne 15, 3) := by decide +kernel
theorem d_L_law_634 : decode b_L_law 634 = .ok (.aload_n 3, 1) := by decide +kernel
theorem d_L_law_635 : decode b_L_law 635 = .ok (.iconst 0, 1) := by decide +kernel
theorem d_L_law_636 : decode b_L_law 636 = .ok (.laload, 1) := by decide +kernel
theorem d_L_law_637 : decode b_L_law 637 = .ok (.iload 6, 2) := by decide +kernel
theorem d_L_law_639 : decode b_L_law 639 = .ok (.i2l, 1) := by decide +kernel
theorem d_L_law_640 : decode b_L_law 640 = .ok (.lcmp, 1) := by decide +kernel
theorem d_L_law_641 : decode b_L_law 641 = .ok (.ifCond .eq 5, 3) := by decide +kernel
theorem d_L_law_644 : decode b_L_law 644 = .ok (.iconst 0, 1) := by decide +kernel
theorem d_L_law_645 : decode b_L_law 645 = .ok (.ireturn, 1) := by decide +kernel
theorem d_L_law_646 : decode b_L_law 646 = .ok (.goto 183, 3) := by decide +kernel
theorem d_L_law_649 : decode b_L_law 649 = .ok (.aload_n 1, 1) := by decide +kernel
theorem d_L_law_650 : decode b_L_law 650 = .ok (.aload_n 0, 1) := by decide +kernel
theorem d_L_law_651 : decode b_L_law 651 = .ok (.iload 4, 2) := by decide +kernel
theorem d_L_law_653 : decode b_L_law 653 = .ok (.iconst 1, 1) := by decide +kernel
theorem d_L_law_654 : decode b_L_law 654 = .ok (.iadd, 1) := by decide +kernel
theorem d_L_law_655 : decode b_L_law 655 = .ok (.iaload, 1) := by decide +kernel
theorem d_L_law_656 : decode b_L_law 656 = .ok (.aload_n 0, 1) := by decide +kernel
theorem d_L_law_657 : decode b_L_law 657 = .ok (.iload 4, 2) := by decide +kernel
theorem d_L_law_659 : decode b_L_law 659 = .ok (.iconst 2, 1) := by decide +kernel
theorem d_L_law_660 : decode b_L_law 660 = .ok (.iadd, 1) := by decide +kernel
theorem d_L_law_661 : decode b_L_law 661 = .ok (.iaload, 1) := by decide +kernel
