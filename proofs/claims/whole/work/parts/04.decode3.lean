theorem d_G_tops_92 : decode b_G_tops 92 = .ok (.iload 7, 2) := by decide +kernel
theorem d_G_tops_94 : decode b_G_tops 94 = .ok (.ifCond .ne 6, 3) := by decide +kernel
theorem d_G_tops_97 : decode b_G_tops 97 = .ok (.goto 52, 3) := by decide +kernel
theorem d_G_tops_100 : decode b_G_tops 100 = .ok (.iload 4, 2) := by decide +kernel
theorem d_G_tops_102 : decode b_G_tops 102 = .ok (.istore 8, 2) := by decide +kernel
theorem d_G_tops_104 : decode b_G_tops 104 = .ok (.iload 8, 2) := by decide +kernel
theorem d_G_tops_106 : decode b_G_tops 106 = .ok (.ifCond .le 34, 3) := by decide +kernel
theorem d_G_tops_109 : decode b_G_tops 109 = .ok (.aload_n 0, 1) := by decide +kernel
theorem d_G_tops_110 : decode b_G_tops 110 = .ok (.iload 6, 2) := by decide +kernel
theorem d_G_tops_112 : decode b_G_tops 112 = .ok (.aload_n 3, 1) := by decide +kernel
theorem d_G_tops_113 : decode b_G_tops 113 = .ok (.iload 8, 2) := by decide +kernel
theorem d_G_tops_115 : decode b_G_tops 115 = .ok (.iconst 1, 1) := by decide +kernel
theorem d_G_tops_116 : decode b_G_tops 116 = .ok (.isub, 1) := by decide +kernel
theorem d_G_tops_117 : decode b_G_tops 117 = .ok (.iaload, 1) := by decide +kernel
theorem d_G_tops_118 : decode b_G_tops 118 = .ok (.invokevirtual 120, 3) := by decide +kernel
theorem d_G_tops_121 : decode b_G_tops 121 = .ok (.ifCond .eq 19, 3) := by decide +kernel
theorem d_G_tops_124 : decode b_G_tops 124 = .ok (.aload_n 3, 1) := by decide +kernel
theorem d_G_tops_125 : decode b_G_tops 125 = .ok (.iload 8, 2) := by decide +kernel
theorem d_G_tops_127 : decode b_G_tops 127 = .ok (.aload_n 3, 1) := by decide +kernel
theorem d_G_tops_128 : decode b_G_tops 128 = .ok (.iload 8, 2) := by decide +kernel
theorem d_G_tops_130 : decode b_G_tops 130 = .ok (.iconst 1, 1) := by decide +kernel
theorem d_G_tops_131 : decode b_G_tops 131 = .ok (.isub, 1) := by decide +kernel
theorem d_G_tops_132 : decode b_G_tops 132 = .ok (.iaload, 1) := by decide +kernel
theorem d_G_tops_133 : decode b_G_tops 133 = .ok (.iastore, 1) := by decide +kernel
theorem d_G_tops_134 : decode b_G_tops 134 = .ok (.iinc 8 (-1), 3) := by decide +kernel
theorem d_G_tops_137 : decode b_G_tops 137 = .ok (.goto (-33), 3) := by decide +kernel
theorem d_G_tops_140 : decode b_G_tops 140 = .ok (.aload_n 3, 1) := by decide +kernel
theorem d_G_tops_141 : decode b_G_tops 141 = .ok (.iload 8, 2) := by decide +kernel
theorem d_G_tops_143 : decode b_G_tops 143 = .ok (.iload 6, 2) := by decide +kernel
theorem d_G_tops_145 : decode b_G_tops 145 = .ok (.iastore, 1) := by decide +kernel
theorem d_G_tops_146 : decode b_G_tops 146 = .ok (.iinc 4 1, 3) := by decide +kernel
theorem d_G_tops_149 : decode b_G_tops 149 = .ok (.iinc 5 1, 3) := by decide +kernel
theorem d_G_tops_152 : decode b_G_tops 152 = .ok (.goto (-146), 3) := by decide +kernel
theorem d_G_tops_155 : decode b_G_tops 155 = .ok (.iload 4, 2) := by decide +kernel
theorem d_G_tops_157 : decode b_G_tops 157 = .ok (.ireturn, 1) := by decide +kernel
theorem d_G_lastIn_0 : decode b_G_lastIn 0 = .ok (.iload_n 3, 1) := by decide +kernel
theorem d_G_lastIn_1 : decode b_G_lastIn 1 = .ok (.aload_n 0, 1) := by decide +kernel
theorem d_G_lastIn_2 : decode b_G_lastIn 2 = .ok (.getfield 75, 3) := by decide +kernel
theorem d_G_lastIn_5 : decode b_G_lastIn 5 = .ok (.if_icmp .ge 28, 3) := by decide +kernel
theorem d_G_lastIn_8 : decode b_G_lastIn 8 = .ok (.aload_n 1, 1) := by decide +kernel
theorem d_G_lastIn_9 : decode b_G_lastIn 9 = .ok (.iload_n 2, 1) := by decide +kernel
theorem d_G_lastIn_10 : decode b_G_lastIn 10 = .ok (.iload_n 3, 1) := by decide +kernel
theorem d_G_lastIn_11 : decode b_G_lastIn 11 = .ok (.iadd, 1) := by decide +kernel
theorem d_G_lastIn_12 : decode b_G_lastIn 12 = .ok (.saload, 1) := by decide +kernel
theorem d_G_lastIn_13 : decode b_G_lastIn 13 = .ok (.ifCond .le 20, 3) := by decide +kernel
theorem d_G_lastIn_16 : decode b_G_lastIn 16 = .ok (.aload_n 0, 1) := by decide +kernel
theorem d_G_lastIn_17 : decode b_G_lastIn 17 = .ok (.getfield 20, 3) := by decide +kernel
theorem d_G_lastIn_20 : decode b_G_lastIn 20 = .ok (.iload_n 3, 1) := by decide +kernel
theorem d_G_lastIn_21 : decode b_G_lastIn 21 = .ok (.aaload, 1) := by decide +kernel
theorem d_G_lastIn_22 : decode b_G_lastIn 22 = .ok (.aload_n 1, 1) := by decide +kernel
theorem d_G_lastIn_23 : decode b_G_lastIn 23 = .ok (.iload_n 2, 1) := by decide +kernel
theorem d_G_lastIn_24 : decode b_G_lastIn 24 = .ok (.iload_n 3, 1) := by decide +kernel
theorem d_G_lastIn_25 : decode b_G_lastIn 25 = .ok (.iadd, 1) := by decide +kernel
theorem d_G_lastIn_26 : decode b_G_lastIn 26 = .ok (.saload, 1) := by decide +kernel
theorem d_G_lastIn_27 : decode b_G_lastIn 27 = .ok (.iconst 1, 1) := by decide +kernel
theorem d_G_lastIn_28 : decode b_G_lastIn 28 = .ok (.isub, 1) := by decide +kernel
theorem d_G_lastIn_29 : decode b_G_lastIn 29 = .ok (.iaload, 1) := by decide +kernel
theorem d_G_lastIn_30 : decode b_G_lastIn 30 = .ok (.goto 4, 3) := by decide +kernel
theorem d_G_lastIn_33 : decode b_G_lastIn 33 = .ok (.iconst (-1), 1) := by decide +kernel
theorem d_G_lastIn_34 : decode b_G_lastIn 34 = .ok (.ireturn, 1) := by decide +kernel
theorem d_G_isBefore_0 : decode b_G_isBefore 0 = .ok (.aload_n 0, 1) := by decide +kernel
theorem d_G_isBefore_1 : decode b_G_isBefore 1 = .ok (.getfield 26, 3) := by decide +kernel
theorem d_G_isBefore_4 : decode b_G_isBefore 4 = .ok (.iload_n 1, 1) := by decide +kernel
theorem d_G_isBefore_5 : decode b_G_isBefore 5 = .ok (.iaload, 1) := by decide +kernel
theorem d_G_isBefore_6 : decode b_G_isBefore 6 = .ok (.aload_n 0, 1) := by decide +kernel
theorem d_G_isBefore_7 : decode b_G_isBefore 7 = .ok (.getfield 30, 3) := by decide +kernel
theorem d_G_isBefore_10 : decode b_G_isBefore 10 = .ok (.bipush 16, 2) := by decide +kernel
theorem d_G_isBefore_12 : decode b_G_isBefore 12 = .ok (.iload_n 2, 1) := by decide +kernel
theorem d_G_isBefore_13 : decode b_G_isBefore 13 = .ok (.imul, 1) := by decide +kernel
theorem d_G_isBefore_14 : decode b_G_isBefore 14 = .ok (.aload_n 0, 1) := by decide +kernel
theorem d_G_isBefore_15 : decode b_G_isBefore 15 = .ok (.getfield 23, 3) := by decide +kernel
theorem d_G_isBefore_18 : decode b_G_isBefore 18 = .ok (.iload_n 1, 1) := by decide +kernel
theorem d_G_isBefore_19 : decode b_G_isBefore 19 = .ok (.iaload, 1) := by decide +kernel
theorem d_G_isBefore_20 : decode b_G_isBefore 20 = .ok (.iadd, 1) := by decide +kernel
theorem d_G_isBefore_21 : decode b_G_isBefore 21 = .ok (.saload, 1) := by decide +kernel
theorem d_G_isBefore_22 : decode b_G_isBefore 22 = .ok (.if_icmp .ge 7, 3) := by decide +kernel
theorem d_G_isBefore_25 : decode b_G_isBefore 25 = .ok (.iconst 1, 1) := by decide +kernel
theorem d_G_isBefore_26 : decode b_G_isBefore 26 = .ok (.goto 4, 3) := by decide +kernel
theorem d_G_isBefore_29 : decode b_G_isBefore 29 = .ok (.iconst 0, 1) := by decide +kernel
theorem d_G_isBefore_30 : decode b_G_isBefore 30 = .ok (.ireturn, 1) := by decide +kernel
theorem d_G_isLess_0 : decode b_G_isLess 0 = .ok (.aload_n 0, 1) := by decide +kernel
theorem d_G_isLess_1 : decode b_G_isLess 1 = .ok (.getfield 9, 3) := by decide +kernel
theorem d_G_isLess_4 : decode b_G_isLess 4 = .ok (.aload_n 0, 1) := by decide +kernel
theorem d_G_isLess_5 : decode b_G_isLess 5 = .ok (.getfield 23, 3) := by decide +kernel
theorem d_G_isLess_8 : decode b_G_isLess 8 = .ok (.iload_n 1, 1) := by decide +kernel
theorem d_G_isLess_9 : decode b_G_isLess 9 = .ok (.iaload, 1) := by decide +kernel
theorem d_G_isLess_10 : decode b_G_isLess 10 = .ok (.iaload, 1) := by decide +kernel
theorem d_G_isLess_11 : decode b_G_isLess 11 = .ok (.aload_n 0, 1) := by decide +kernel
theorem d_G_isLess_12 : decode b_G_isLess 12 = .ok (.getfield 9, 3) := by decide +kernel
theorem d_G_isLess_15 : decode b_G_isLess 15 = .ok (.aload_n 0, 1) := by decide +kernel
theorem d_G_isLess_16 : decode b_G_isLess 16 = .ok (.getfield 23, 3) := by decide +kernel
theorem d_G_isLess_19 : decode b_G_isLess 19 = .ok (.iload_n 2, 1) := by decide +kernel
theorem d_G_isLess_20 : decode b_G_isLess 20 = .ok (.iaload, 1) := by decide +kernel
theorem d_G_isLess_21 : decode b_G_isLess 21 = .ok (.iaload, 1) := by decide +kernel
theorem d_G_isLess_22 : decode b_G_isLess 22 = .ok (.if_icmp .eq 36, 3) := by decide +kernel
theorem d_G_isLess_25 : decode b_G_isLess 25 = .ok (.aload_n 0, 1) := by decide +kernel
theorem d_G_isLess_26 : decode b_G_isLess 26 = .ok (.getfield 9, 3) := by decide +kernel
theorem d_G_isLess_29 : decode b_G_isLess 29 = .ok (.aload_n 0, 1) := by decide +kernel
theorem d_G_isLess_30 : decode b_G_isLess 30 = .ok (.getfield 23, 3) := by decide +kernel
theorem d_G_isLess_33 : decode b_G_isLess 33 = .ok (.iload_n 1, 1) := by decide +kernel
theorem d_G_isLess_34 : decode b_G_isLess 34 = .ok (.iaload, 1) := by decide +kernel
theorem d_G_isLess_35 : decode b_G_isLess 35 = .ok (.iaload, 1) := by decide +kernel
theorem d_G_isLess_36 : decode b_G_isLess 36 = .ok (.aload_n 0, 1) := by decide +kernel
theorem d_G_isLess_37 : decode b_G_isLess 37 = .ok (.getfield 9, 3) := by decide +kernel
theorem d_G_isLess_40 : decode b_G_isLess 40 = .ok (.aload_n 0, 1) := by decide +kernel
theorem d_G_isLess_41 : decode b_G_isLess 41 = .ok (.getfield 23, 3) := by decide +kernel
theorem d_G_isLess_44 : decode b_G_isLess 44 = .ok (.iload_n 2, 1) := by decide +kernel
theorem d_G_isLess_45 : decode b_G_isLess 45 = .ok (.iaload, 1) := by decide +kernel
theorem d_G_isLess_46 : decode b_G_isLess 46 = .ok (.iaload, 1) := by decide +kernel
theorem d_G_isLess_47 : decode b_G_isLess 47 = .ok (.if_icmp .ge 7, 3) := by decide +kernel
theorem d_G_isLess_50 : decode b_G_isLess 50 = .ok (.iconst 1, 1) := by decide +kernel
theorem d_G_isLess_51 : decode b_G_isLess 51 = .ok (.goto 27, 3) := by decide +kernel
theorem d_G_isLess_54 : decode b_G_isLess 54 = .ok (.iconst 0, 1) := by decide +kernel
theorem d_G_isLess_55 : decode b_G_isLess 55 = .ok (.goto 23, 3) := by decide +kernel
theorem d_G_isLess_58 : decode b_G_isLess 58 = .ok (.aload_n 0, 1) := by decide +kernel
theorem d_G_isLess_59 : decode b_G_isLess 59 = .ok (.getfield 26, 3) := by decide +kernel
theorem d_G_isLess_62 : decode b_G_isLess 62 = .ok (.iload_n 1, 1) := by decide +kernel
theorem d_G_isLess_63 : decode b_G_isLess 63 = .ok (.iaload, 1) := by decide +kernel
theorem d_G_isLess_64 : decode b_G_isLess 64 = .ok (.aload_n 0, 1) := by decide +kernel
theorem d_G_isLess_65 : decode b_G_isLess 65 = .ok (.getfield 26, 3) := by decide +kernel
theorem d_G_isLess_68 : decode b_G_isLess 68 = .ok (.iload_n 2, 1) := by decide +kernel
theorem d_G_isLess_69 : decode b_G_isLess 69 = .ok (.iaload, 1) := by decide +kernel
theorem d_G_isLess_70 : decode b_G_isLess 70 = .ok (.if_icmp .ge 7, 3) := by decide +kernel
theorem d_G_isLess_73 : decode b_G_isLess 73 = .ok (.iconst 1, 1) := by decide +kernel
theorem d_G_isLess_74 : decode b_G_isLess 74 = .ok (.goto 4, 3) := by decide +kernel
theorem d_G_isLess_77 : decode b_G_isLess 77 = .ok (.iconst 0, 1) := by decide +kernel
theorem d_G_isLess_78 : decode b_G_isLess 78 = .ok (.ireturn, 1) := by decide +kernel
theorem d_M_seen_0 : decode b_M_seen 0 = .ok (.aload_n 0, 1) := by decide +kernel
theorem d_M_seen_1 : decode b_M_seen 1 = .ok (.iconst 0, 1) := by decide +kernel
theorem d_M_seen_2 : decode b_M_seen 2 = .ok (.putfield 174, 3) := by decide +kernel
theorem d_M_seen_5 : decode b_M_seen 5 = .ok (.aload_n 0, 1) := by decide +kernel
theorem d_M_seen_6 : decode b_M_seen 6 = .ok (.invokevirtual 183, 3) := by decide +kernel
theorem d_M_seen_9 : decode b_M_seen 9 = .ok (.ireturn, 1) := by decide +kernel
theorem d_M_seen_10 : decode b_M_seen 10 = .ok (.astore_n 1, 1) := by decide +kernel
theorem d_M_seen_11 : decode b_M_seen 11 = .ok (.aload_n 0, 1) := by decide +kernel
theorem d_M_seen_12 : decode b_M_seen 12 = .ok (.iconst 1, 1) := by decide +kernel
theorem d_M_seen_13 : decode b_M_seen 13 = .ok (.putfield 174, 3) := by decide +kernel
theorem d_M_seen_16 : decode b_M_seen 16 = .ok (.iconst 0, 1) := by decide +kernel
theorem d_M_seen_17 : decode b_M_seen 17 = .ok (.ireturn, 1) := by decide +kernel
theorem d_M_seen0_0 : decode b_M_seen0 0 = .ok (.aload_n 0, 1) := by decide +kernel
theorem d_M_seen0_1 : decode b_M_seen0 1 = .ok (.aload_n 0, 1) := by decide +kernel
theorem d_M_seen0_2 : decode b_M_seen0 2 = .ok (.getfield 37, 3) := by decide +kernel
theorem d_M_seen0_5 : decode b_M_seen0 5 = .ok (.invokevirtual 73, 3) := by decide +kernel
theorem d_M_seen0_8 : decode b_M_seen0 8 = .ok (.aload_n 0, 1) := by decide +kernel
theorem d_M_seen0_9 : decode b_M_seen0 9 = .ok (.getfield 10, 3) := by decide +kernel
theorem d_M_seen0_12 : decode b_M_seen0 12 = .ok (.aload_n 0, 1) := by decide +kernel
theorem d_M_seen0_13 : decode b_M_seen0 13 = .ok (.getfield 23, 3) := by decide +kernel
theorem d_M_seen0_16 : decode b_M_seen0 16 = .ok (.iconst 0, 1) := by decide +kernel
theorem d_M_seen0_17 : decode b_M_seen0 17 = .ok (.invokevirtual 77, 3) := by decide +kernel
theorem d_M_seen0_20 : decode b_M_seen0 20 = .ok (.ireturn, 1) := by decide +kernel
theorem d_M_gather_0 : decode b_M_gather 0 = .ok (.aload_n 0, 1) := by decide +kernel
theorem d_M_gather_1 : decode b_M_gather 1 = .ok (.getfield 23, 3) := by decide +kernel
theorem d_M_gather_4 : decode b_M_gather 4 = .ok (.iconst 0, 1) := by decide +kernel
theorem d_M_gather_5 : decode b_M_gather 5 = .ok (.invokestatic 54, 3) := by decide +kernel
theorem d_M_gather_8 : decode b_M_gather 8 = .ok (.iconst 0, 1) := by decide +kernel
theorem d_M_gather_9 : decode b_M_gather 9 = .ok (.istore_n 2, 1) := by decide +kernel
theorem d_M_gather_10 : decode b_M_gather 10 = .ok (.iload_n 2, 1) := by decide +kernel
theorem d_M_gather_11 : decode b_M_gather 11 = .ok (.iload_n 1, 1) := by decide +kernel
theorem d_M_gather_12 : decode b_M_gather 12 = .ok (.if_icmp .ge 146, 3) := by decide +kernel
theorem d_M_gather_15 : decode b_M_gather 15 = .ok (.aload_n 0, 1) := by decide +kernel
theorem d_M_gather_16 : decode b_M_gather 16 = .ok (.getfield 16, 3) := by decide +kernel
theorem d_M_gather_19 : decode b_M_gather 19 = .ok (.iload_n 2, 1) := by decide +kernel
theorem d_M_gather_20 : decode b_M_gather 20 = .ok (.iaload, 1) := by decide +kernel
theorem d_M_gather_21 : decode b_M_gather 21 = .ok (.istore_n 3, 1) := by decide +kernel
theorem d_M_gather_22 : decode b_M_gather 22 = .ok (.iconst 0, 1) := by decide +kernel
theorem d_M_gather_23 : decode b_M_gather 23 = .ok (.istore 4, 2) := by decide +kernel
theorem d_M_gather_25 : decode b_M_gather 25 = .ok (.iload 4, 2) := by decide +kernel
theorem d_M_gather_27 : decode b_M_gather 27 = .ok (.iload_n 1, 1) := by decide +kernel
theorem d_M_gather_28 : decode b_M_gather 28 = .ok (.if_icmp .ge 41, 3) := by decide +kernel
theorem d_M_gather_31 : decode b_M_gather 31 = .ok (.iload_n 2, 1) := by decide +kernel
theorem d_M_gather_32 : decode b_M_gather 32 = .ok (.iload 4, 2) := by decide +kernel
theorem d_M_gather_34 : decode b_M_gather 34 = .ok (.if_icmp .eq 29, 3) := by decide +kernel
theorem d_M_gather_37 : decode b_M_gather 37 = .ok (.aload_n 0, 1) := by decide +kernel
theorem d_M_gather_38 : decode b_M_gather 38 = .ok (.getfield 10, 3) := by decide +kernel
theorem d_M_gather_41 : decode b_M_gather 41 = .ok (.iload_n 3, 1) := by decide +kernel
theorem d_M_gather_42 : decode b_M_gather 42 = .ok (.aload_n 0, 1) := by decide +kernel
theorem d_M_gather_43 : decode b_M_gather 43 = .ok (.getfield 16, 3) := by decide +kernel
theorem d_M_gather_46 : decode b_M_gather 46 = .ok (.iload 4, 2) := by decide +kernel
theorem d_M_gather_48 : decode b_M_gather 48 = .ok (.iaload, 1) := by decide +kernel
theorem d_M_gather_49 : decode b_M_gather 49 = .ok (.invokevirtual 60, 3) := by decide +kernel
theorem d_M_gather_52 : decode b_M_gather 52 = .ok (.ifCond .eq 11, 3) := by decide +kernel
theorem d_M_gather_55 : decode b_M_gather 55 = .ok (.new 41, 3) := by decide +kernel
theorem d_M_gather_58 : decode b_M_gather 58 = .ok (.dup, 1) := by decide +kernel
theorem d_M_gather_59 : decode b_M_gather 59 = .ok (.invokespecial 43, 3) := by decide +kernel
theorem d_M_gather_62 : decode b_M_gather 62 = .ok (.athrow, 1) := by decide +kernel
theorem d_M_gather_63 : decode b_M_gather 63 = .ok (.iinc 4 1, 3) := by decide +kernel
theorem d_M_gather_66 : decode b_M_gather 66 = .ok (.goto (-41), 3) := by decide +kernel
theorem d_M_gather_69 : decode b_M_gather 69 = .ok (.iconst 0, 1) := by decide +kernel
theorem d_M_gather_70 : decode b_M_gather 70 = .ok (.istore 4, 2) := by decide +kernel
theorem d_M_gather_72 : decode b_M_gather 72 = .ok (.iload 4, 2) := by decide +kernel
theorem d_M_gather_74 : decode b_M_gather 74 = .ok (.bipush 16, 2) := by decide +kernel
theorem d_M_gather_76 : decode b_M_gather 76 = .ok (.if_icmp .ge 76, 3) := by decide +kernel
theorem d_M_gather_79 : decode b_M_gather 79 = .ok (.iload 4, 2) := by decide +kernel
theorem d_M_gather_81 : decode b_M_gather 81 = .ok (.aload_n 0, 1) := by decide +kernel
theorem d_M_gather_82 : decode b_M_gather 82 = .ok (.getfield 10, 3) := by decide +kernel
theorem d_M_gather_85 : decode b_M_gather 85 = .ok (.getfield 64, 3) := by decide +kernel
theorem d_M_gather_88 : decode b_M_gather 88 = .ok (.iload_n 3, 1) := by decide +kernel
theorem d_M_gather_89 : decode b_M_gather 89 = .ok (.iaload, 1) := by decide +kernel
theorem d_M_gather_90 : decode b_M_gather 90 = .ok (.if_icmp .ne 17, 3) := by decide +kernel
theorem d_M_gather_93 : decode b_M_gather 93 = .ok (.aload_n 0, 1) := by decide +kernel
theorem d_M_gather_94 : decode b_M_gather 94 = .ok (.getfield 10, 3) := by decide +kernel
theorem d_M_gather_97 : decode b_M_gather 97 = .ok (.getfield 67, 3) := by decide +kernel
theorem d_M_gather_100 : decode b_M_gather 100 = .ok (.iload_n 3, 1) := by decide +kernel
theorem d_M_gather_101 : decode b_M_gather 101 = .ok (.iaload, 1) := by decide +kernel
theorem d_M_gather_102 : decode b_M_gather 102 = .ok (.iconst 1, 1) := by decide +kernel
theorem d_M_gather_103 : decode b_M_gather 103 = .ok (.iadd, 1) := by decide +kernel
theorem d_M_gather_104 : decode b_M_gather 104 = .ok (.goto 18, 3) := by decide +kernel
theorem d_M_gather_107 : decode b_M_gather 107 = .ok (.aload_n 0, 1) := by decide +kernel
theorem d_M_gather_108 : decode b_M_gather 108 = .ok (.getfield 10, 3) := by decide +kernel
theorem d_M_gather_111 : decode b_M_gather 111 = .ok (.getfield 70, 3) := by decide +kernel
theorem d_M_gather_114 : decode b_M_gather 114 = .ok (.bipush 16, 2) := by decide +kernel
theorem d_M_gather_116 : decode b_M_gather 116 = .ok (.iload_n 3, 1) := by decide +kernel
theorem d_M_gather_117 : decode b_M_gather 117 = .ok (.imul, 1) := by decide +kernel
theorem d_M_gather_118 : decode b_M_gather 118 = .ok (.iload 4, 2) := by decide +kernel
theorem d_M_gather_120 : decode b_M_gather 120 = .ok (.iadd, 1) := by decide +kernel
theorem d_M_gather_121 : decode b_M_gather 121 = .ok (.saload, 1) := by decide +kernel
theorem d_M_gather_122 : decode b_M_gather 122 = .ok (.istore 5, 2) := by decide +kernel
theorem d_M_gather_124 : decode b_M_gather 124 = .ok (.iload 5, 2) := by decide +kernel
theorem d_M_gather_126 : decode b_M_gather 126 = .ok (.aload_n 0, 1) := by decide +kernel
theorem d_M_gather_127 : decode b_M_gather 127 = .ok (.getfield 23, 3) := by decide +kernel
theorem d_M_gather_130 : decode b_M_gather 130 = .ok (.iload 4, 2) := by decide +kernel
theorem d_M_gather_132 : decode b_M_gather 132 = .ok (.saload, 1) := by decide +kernel
theorem d_M_gather_133 : decode b_M_gather 133 = .ok (.if_icmp .le 13, 3) := by decide +kernel
theorem d_M_gather_136 : decode b_M_gather 136 = .ok (.aload_n 0, 1) := by decide +kernel
theorem d_M_gather_137 : decode b_M_gather 137 = .ok (.getfield 23, 3) := by decide +kernel
theorem d_M_gather_140 : decode b_M_gather 140 = .ok (.iload 4, 2) := by decide +kernel
theorem d_M_gather_142 : decode b_M_gather 142 = .ok (.iload 5, 2) := by decide +kernel
theorem d_M_gather_144 : decode b_M_gather 144 = .ok (.i2s, 1) := by decide +kernel
theorem d_M_gather_145 : decode b_M_gather 145 = .ok (.sastore, 1) := by decide +kernel
theorem d_M_gather_146 : decode b_M_gather 146 = .ok (.iinc 4 1, 3) := by decide +kernel
theorem d_M_gather_149 : decode b_M_gather 149 = .ok (.goto (-77), 3) := by decide +kernel
theorem d_M_gather_152 : decode b_M_gather 152 = .ok (.iinc 2 1, 3) := by decide +kernel
theorem d_M_gather_155 : decode b_M_gather 155 = .ok (.goto (-145), 3) := by decide +kernel
theorem d_M_gather_158 : decode b_M_gather 158 = .ok (.return_, 1) := by decide +kernel
theorem d_AR_fillS_0 : decode b_AR_fillS 0 = .ok (.iconst 0, 1) := by decide +kernel
theorem d_AR_fillS_1 : decode b_AR_fillS 1 = .ok (.istore_n 2, 1) := by decide +kernel
theorem d_AR_fillS_2 : decode b_AR_fillS 2 = .ok (.aload_n 0, 1) := by decide +kernel
theorem d_AR_fillS_3 : decode b_AR_fillS 3 = .ok (.arraylength, 1) := by decide +kernel
theorem d_AR_fillS_4 : decode b_AR_fillS 4 = .ok (.istore_n 3, 1) := by decide +kernel
theorem d_AR_fillS_5 : decode b_AR_fillS 5 = .ok (.iload_n 2, 1) := by decide +kernel
theorem d_AR_fillS_6 : decode b_AR_fillS 6 = .ok (.iload_n 3, 1) := by decide +kernel
theorem d_AR_fillS_7 : decode b_AR_fillS 7 = .ok (.if_icmp .ge 13, 3) := by decide +kernel
theorem d_AR_fillS_10 : decode b_AR_fillS 10 = .ok (.aload_n 0, 1) := by decide +kernel
theorem d_AR_fillS_11 : decode b_AR_fillS 11 = .ok (.iload_n 2, 1) := by decide +kernel
theorem d_AR_fillS_12 : decode b_AR_fillS 12 = .ok (.iload_n 1, 1) := by decide +kernel
theorem d_AR_fillS_13 : decode b_AR_fillS 13 = .ok (.sastore, 1) := by decide +kernel
theorem d_AR_fillS_14 : decode b_AR_fillS 14 = .ok (.iinc 2 1, 3) := by decide +kernel
theorem d_AR_fillS_17 : decode b_AR_fillS 17 = .ok (.goto (-12), 3) := by decide +kernel
theorem d_AR_fillS_20 : decode b_AR_fillS 20 = .ok (.return_, 1) := by decide +kernel
theorem d_G_seenMany_0 : decode b_G_seenMany 0 = .ok (.iconst 0, 1) := by decide +kernel
theorem d_G_seenMany_1 : decode b_G_seenMany 1 = .ok (.istore_n 3, 1) := by decide +kernel
theorem d_G_seenMany_2 : decode b_G_seenMany 2 = .ok (.iconst 0, 1) := by decide +kernel
theorem d_G_seenMany_3 : decode b_G_seenMany 3 = .ok (.istore 4, 2) := by decide +kernel
theorem d_G_seenMany_5 : decode b_G_seenMany 5 = .ok (.iload 4, 2) := by decide +kernel
theorem d_G_seenMany_7 : decode b_G_seenMany 7 = .ok (.aload_n 0, 1) := by decide +kernel
theorem d_G_seenMany_8 : decode b_G_seenMany 8 = .ok (.getfield 86, 3) := by decide +kernel
theorem d_G_seenMany_11 : decode b_G_seenMany 11 = .ok (.if_icmp .ge 28, 3) := by decide +kernel
theorem d_G_seenMany_14 : decode b_G_seenMany 14 = .ok (.aload_n 0, 1) := by decide +kernel
theorem d_G_seenMany_15 : decode b_G_seenMany 15 = .ok (.aload_n 1, 1) := by decide +kernel
theorem d_G_seenMany_16 : decode b_G_seenMany 16 = .ok (.iload_n 2, 1) := by decide +kernel
theorem d_G_seenMany_17 : decode b_G_seenMany 17 = .ok (.aload_n 0, 1) := by decide +kernel
theorem d_G_seenMany_18 : decode b_G_seenMany 18 = .ok (.getfield 72, 3) := by decide +kernel
theorem d_G_seenMany_21 : decode b_G_seenMany 21 = .ok (.iload 4, 2) := by decide +kernel
theorem d_G_seenMany_23 : decode b_G_seenMany 23 = .ok (.iaload, 1) := by decide +kernel
theorem d_G_seenMany_24 : decode b_G_seenMany 24 = .ok (.invokevirtual 89, 3) := by decide +kernel
theorem d_G_seenMany_27 : decode b_G_seenMany 27 = .ok (.ifCond .eq 6, 3) := by decide +kernel
theorem d_G_seenMany_30 : decode b_G_seenMany 30 = .ok (.iinc 3 1, 3) := by decide +kernel
theorem d_G_seenMany_33 : decode b_G_seenMany 33 = .ok (.iinc 4 1, 3) := by decide +kernel
theorem d_G_seenMany_36 : decode b_G_seenMany 36 = .ok (.goto (-31), 3) := by decide +kernel
theorem d_G_seenMany_39 : decode b_G_seenMany 39 = .ok (.iload_n 3, 1) := by decide +kernel
theorem d_G_seenMany_40 : decode b_G_seenMany 40 = .ok (.ireturn, 1) := by decide +kernel
theorem d_G_isSeen_0 : decode b_G_isSeen 0 = .ok (.aload_n 0, 1) := by decide +kernel
theorem d_G_isSeen_1 : decode b_G_isSeen 1 = .ok (.aload_n 1, 1) := by decide +kernel
theorem d_G_isSeen_2 : decode b_G_isSeen 2 = .ok (.iload_n 2, 1) := by decide +kernel
theorem d_G_isSeen_3 : decode b_G_isSeen 3 = .ok (.iload_n 3, 1) := by decide +kernel
theorem d_G_isSeen_4 : decode b_G_isSeen 4 = .ok (.invokevirtual 82, 3) := by decide +kernel
theorem d_G_isSeen_7 : decode b_G_isSeen 7 = .ok (.ifCond .ne 5, 3) := by decide +kernel
theorem d_G_isSeen_10 : decode b_G_isSeen 10 = .ok (.iconst 0, 1) := by decide +kernel
theorem d_G_isSeen_11 : decode b_G_isSeen 11 = .ok (.ireturn, 1) := by decide +kernel
theorem d_G_isSeen_12 : decode b_G_isSeen 12 = .ok (.aload_n 0, 1) := by decide +kernel
theorem d_G_isSeen_13 : decode b_G_isSeen 13 = .ok (.getfield 69, 3) := by decide +kernel
theorem d_G_isSeen_16 : decode b_G_isSeen 16 = .ok (.iload_n 3, 1) := by decide +kernel
theorem d_G_isSeen_17 : decode b_G_isSeen 17 = .ok (.iaload, 1) := by decide +kernel
theorem d_G_isSeen_18 : decode b_G_isSeen 18 = .ok (.istore 4, 2) := by decide +kernel
theorem d_G_isSeen_20 : decode b_G_isSeen 20 = .ok (.iload 4, 2) := by decide +kernel
theorem d_G_isSeen_22 : decode b_G_isSeen 22 = .ok (.ifCond .lt 28, 3) := by decide +kernel
theorem d_G_isSeen_25 : decode b_G_isSeen 25 = .ok (.aload_n 0, 1) := by decide +kernel
theorem d_G_isSeen_26 : decode b_G_isSeen 26 = .ok (.aload_n 1, 1) := by decide +kernel
theorem d_G_isSeen_27 : decode b_G_isSeen 27 = .ok (.iload_n 2, 1) := by decide +kernel
theorem d_G_isSeen_28 : decode b_G_isSeen 28 = .ok (.iload 4, 2) := by decide +kernel
theorem d_G_isSeen_30 : decode b_G_isSeen 30 = .ok (.invokevirtual 82, 3) := by decide +kernel
theorem d_G_isSeen_33 : decode b_G_isSeen 33 = .ok (.ifCond .eq 5, 3) := by decide +kernel
theorem d_G_isSeen_36 : decode b_G_isSeen 36 = .ok (.iconst 0, 1) := by decide +kernel
theorem d_G_isSeen_37 : decode b_G_isSeen 37 = .ok (.ireturn, 1) := by decide +kernel
theorem d_G_isSeen_38 : decode b_G_isSeen 38 = .ok (.aload_n 0, 1) := by decide +kernel
theorem d_G_isSeen_39 : decode b_G_isSeen 39 = .ok (.getfield 66, 3) := by decide +kernel
theorem d_G_isSeen_42 : decode b_G_isSeen 42 = .ok (.iload 4, 2) := by decide +kernel
theorem d_G_isSeen_44 : decode b_G_isSeen 44 = .ok (.iaload, 1) := by decide +kernel
theorem d_G_isSeen_45 : decode b_G_isSeen 45 = .ok (.istore 4, 2) := by decide +kernel
theorem d_G_isSeen_47 : decode b_G_isSeen 47 = .ok (.goto (-27), 3) := by decide +kernel
theorem d_G_isSeen_50 : decode b_G_isSeen 50 = .ok (.iconst 1, 1) := by decide +kernel
theorem d_G_isSeen_51 : decode b_G_isSeen 51 = .ok (.ireturn, 1) := by decide +kernel
theorem d_G_has_0 : decode b_G_has 0 = .ok (.aload_n 0, 1) := by decide +kernel
theorem d_G_has_1 : decode b_G_has 1 = .ok (.getfield 26, 3) := by decide +kernel
theorem d_G_has_4 : decode b_G_has 4 = .ok (.iload_n 3, 1) := by decide +kernel
theorem d_G_has_5 : decode b_G_has 5 = .ok (.iaload, 1) := by decide +kernel
theorem d_G_has_6 : decode b_G_has 6 = .ok (.aload_n 1, 1) := by decide +kernel
theorem d_G_has_7 : decode b_G_has 7 = .ok (.iload_n 2, 1) := by decide +kernel
theorem d_G_has_8 : decode b_G_has 8 = .ok (.aload_n 0, 1) := by decide +kernel
theorem d_G_has_9 : decode b_G_has 9 = .ok (.getfield 23, 3) := by decide +kernel
theorem d_G_has_12 : decode b_G_has 12 = .ok (.iload_n 3, 1) := by decide +kernel
theorem d_G_has_13 : decode b_G_has 13 = .ok (.iaload, 1) := by decide +kernel
theorem d_G_has_14 : decode b_G_has 14 = .ok (.iadd, 1) := by decide +kernel
theorem d_G_has_15 : decode b_G_has 15 = .ok (.saload, 1) := by decide +kernel
theorem d_G_has_16 : decode b_G_has 16 = .ok (.if_icmp .ge 7, 3) := by decide +kernel
theorem d_G_has_19 : decode b_G_has 19 = .ok (.iconst 1, 1) := by decide +kernel
theorem d_G_has_20 : decode b_G_has 20 = .ok (.goto 4, 3) := by decide +kernel
theorem d_G_has_23 : decode b_G_has 23 = .ok (.iconst 0, 1) := by decide +kernel
theorem d_G_has_24 : decode b_G_has 24 = .ok (.ireturn, 1) := by decide +kernel
theorem d_M_insert_0 : decode b_M_insert 0 = .ok (.aload_n 0, 1) := by decide +kernel
theorem d_M_insert_1 : decode b_M_insert 1 = .ok (.iconst 0, 1) := by decide +kernel
theorem d_M_insert_2 : decode b_M_insert 2 = .ok (.putfield 174, 3) := by decide +kernel
theorem d_M_insert_5 : decode b_M_insert 5 = .ok (.aload_n 0, 1) := by decide +kernel
theorem d_M_insert_6 : decode b_M_insert 6 = .ok (.iload_n 1, 1) := by decide +kernel
theorem d_M_insert_7 : decode b_M_insert 7 = .ok (.iload_n 2, 1) := by decide +kernel
theorem d_M_insert_8 : decode b_M_insert 8 = .ok (.iload_n 3, 1) := by decide +kernel
theorem d_M_insert_9 : decode b_M_insert 9 = .ok (.iload 4, 2) := by decide +kernel
theorem d_M_insert_11 : decode b_M_insert 11 = .ok (.invokevirtual 186, 3) := by decide +kernel
theorem d_M_insert_14 : decode b_M_insert 14 = .ok (.ireturn, 1) := by decide +kernel
theorem d_M_insert_15 : decode b_M_insert 15 = .ok (.astore 5, 2) := by decide +kernel
theorem d_M_insert_17 : decode b_M_insert 17 = .ok (.aload_n 0, 1) := by decide +kernel
theorem d_M_insert_18 : decode b_M_insert 18 = .ok (.iconst 1, 1) := by decide +kernel
theorem d_M_insert_19 : decode b_M_insert 19 = .ok (.putfield 174, 3) := by decide +kernel
theorem d_M_insert_22 : decode b_M_insert 22 = .ok (.goto 30, 3) := by decide +kernel
theorem d_M_insert_25 : decode b_M_insert 25 = .ok (.astore 5, 2) := by decide +kernel
theorem d_M_insert_27 : decode b_M_insert 27 = .ok (.aload_n 0, 1) := by decide +kernel
theorem d_M_insert_28 : decode b_M_insert 28 = .ok (.iconst 2, 1) := by decide +kernel
theorem d_M_insert_29 : decode b_M_insert 29 = .ok (.putfield 174, 3) := by decide +kernel
theorem d_M_insert_32 : decode b_M_insert 32 = .ok (.goto 20, 3) := by decide +kernel
theorem d_M_insert_35 : decode b_M_insert 35 = .ok (.astore 5, 2) := by decide +kernel
theorem d_M_insert_37 : decode b_M_insert 37 = .ok (.aload_n 0, 1) := by decide +kernel
theorem d_M_insert_38 : decode b_M_insert 38 = .ok (.iconst 3, 1) := by decide +kernel
theorem d_M_insert_39 : decode b_M_insert 39 = .ok (.putfield 174, 3) := by decide +kernel
theorem d_M_insert_42 : decode b_M_insert 42 = .ok (.goto 10, 3) := by decide +kernel
theorem d_M_insert_45 : decode b_M_insert 45 = .ok (.astore 5, 2) := by decide +kernel
theorem d_M_insert_47 : decode b_M_insert 47 = .ok (.aload_n 0, 1) := by decide +kernel
theorem d_M_insert_48 : decode b_M_insert 48 = .ok (.iconst 4, 1) := by decide +kernel
theorem d_M_insert_49 : decode b_M_insert 49 = .ok (.putfield 174, 3) := by decide +kernel
theorem d_M_insert_52 : decode b_M_insert 52 = .ok (.iconst 0, 1) := by decide +kernel
theorem d_M_insert_53 : decode b_M_insert 53 = .ok (.ireturn, 1) := by decide +kernel
theorem d_M_insert0_0 : decode b_M_insert0 0 = .ok (.iload_n 1, 1) := by decide +kernel
theorem d_M_insert0_1 : decode b_M_insert0 1 = .ok (.iconst 0, 1) := by decide +kernel
theorem d_M_insert0_2 : decode b_M_insert0 2 = .ok (.sipush 255, 3) := by decide +kernel
theorem d_M_insert0_5 : decode b_M_insert0 5 = .ok (.invokestatic 98, 3) := by decide +kernel
theorem d_M_insert0_8 : decode b_M_insert0 8 = .ok (.ifCond .eq 35, 3) := by decide +kernel
theorem d_M_insert0_11 : decode b_M_insert0 11 = .ok (.iload 4, 2) := by decide +kernel
theorem d_M_insert0_13 : decode b_M_insert0 13 = .ok (.iconst 1, 1) := by decide +kernel
theorem d_M_insert0_14 : decode b_M_insert0 14 = .ok (.bipush 100, 2) := by decide +kernel
theorem d_M_insert0_16 : decode b_M_insert0 16 = .ok (.invokestatic 98, 3) := by decide +kernel
theorem d_M_insert0_19 : decode b_M_insert0 19 = .ok (.ifCond .eq 24, 3) := by decide +kernel
theorem d_M_insert0_22 : decode b_M_insert0 22 = .ok (.iload_n 3, 1) := by decide +kernel
theorem d_M_insert0_23 : decode b_M_insert0 23 = .ok (.iconst 0, 1) := by decide +kernel
theorem d_M_insert0_24 : decode b_M_insert0 24 = .ok (.ldc 102, 2) := by decide +kernel
theorem d_M_insert0_26 : decode b_M_insert0 26 = .ok (.iload 4, 2) := by decide +kernel
theorem d_M_insert0_28 : decode b_M_insert0 28 = .ok (.isub, 1) := by decide +kernel
theorem d_M_insert0_29 : decode b_M_insert0 29 = .ok (.invokestatic 98, 3) := by decide +kernel
theorem d_M_insert0_32 : decode b_M_insert0 32 = .ok (.ifCond .eq 11, 3) := by decide +kernel
theorem d_M_insert0_35 : decode b_M_insert0 35 = .ok (.iload_n 2, 1) := by decide +kernel
theorem d_M_insert0_36 : decode b_M_insert0 36 = .ok (.ifCond .lt 7, 3) := by decide +kernel
theorem d_M_insert0_39 : decode b_M_insert0 39 = .ok (.iconst 1, 1) := by decide +kernel
theorem d_M_insert0_40 : decode b_M_insert0 40 = .ok (.goto 4, 3) := by decide +kernel
theorem d_M_insert0_43 : decode b_M_insert0 43 = .ok (.iconst 0, 1) := by decide +kernel
theorem d_M_insert0_44 : decode b_M_insert0 44 = .ok (.invokestatic 103, 3) := by decide +kernel
theorem d_M_insert0_47 : decode b_M_insert0 47 = .ok (.iload_n 2, 1) := by decide +kernel
theorem d_M_insert0_48 : decode b_M_insert0 48 = .ok (.aload_n 0, 1) := by decide +kernel
theorem d_M_insert0_49 : decode b_M_insert0 49 = .ok (.iload_n 1, 1) := by decide +kernel
theorem d_M_insert0_50 : decode b_M_insert0 50 = .ok (.invokevirtual 107, 3) := by decide +kernel
theorem d_M_insert0_53 : decode b_M_insert0 53 = .ok (.if_icmp .le 11, 3) := by decide +kernel
theorem d_M_insert0_56 : decode b_M_insert0 56 = .ok (.new 110, 3) := by decide +kernel
theorem d_M_insert0_59 : decode b_M_insert0 59 = .ok (.dup, 1) := by decide +kernel
theorem d_M_insert0_60 : decode b_M_insert0 60 = .ok (.invokespecial 112, 3) := by decide +kernel
theorem d_M_insert0_63 : decode b_M_insert0 63 = .ok (.athrow, 1) := by decide +kernel
theorem d_M_insert0_64 : decode b_M_insert0 64 = .ok (.aload_n 0, 1) := by decide +kernel
theorem d_M_insert0_65 : decode b_M_insert0 65 = .ok (.iload_n 1, 1) := by decide +kernel
theorem d_M_insert0_66 : decode b_M_insert0 66 = .ok (.iload 4, 2) := by decide +kernel
theorem d_M_insert0_68 : decode b_M_insert0 68 = .ok (.invokevirtual 113, 3) := by decide +kernel
theorem d_M_insert0_71 : decode b_M_insert0 71 = .ok (.iconst 0, 1) := by decide +kernel
theorem d_M_insert0_72 : decode b_M_insert0 72 = .ok (.istore 5, 2) := by decide +kernel
theorem d_M_insert0_74 : decode b_M_insert0 74 = .ok (.iload 5, 2) := by decide +kernel
theorem d_M_insert0_76 : decode b_M_insert0 76 = .ok (.iload 4, 2) := by decide +kernel
theorem d_M_insert0_78 : decode b_M_insert0 78 = .ok (.if_icmp .ge 29, 3) := by decide +kernel
theorem d_M_insert0_81 : decode b_M_insert0 81 = .ok (.aload_n 0, 1) := by decide +kernel
theorem d_M_insert0_82 : decode b_M_insert0 82 = .ok (.getfield 10, 3) := by decide +kernel
theorem d_M_insert0_85 : decode b_M_insert0 85 = .ok (.aload_n 0, 1) := by decide +kernel
theorem d_M_insert0_86 : decode b_M_insert0 86 = .ok (.iload_n 1, 1) := by decide +kernel
theorem d_M_insert0_87 : decode b_M_insert0 87 = .ok (.invokevirtual 117, 3) := by decide +kernel
theorem d_M_insert0_90 : decode b_M_insert0 90 = .ok (.iload_n 2, 1) := by decide +kernel
theorem d_M_insert0_91 : decode b_M_insert0 91 = .ok (.iload 5, 2) := by decide +kernel
theorem d_M_insert0_93 : decode b_M_insert0 93 = .ok (.iadd, 1) := by decide +kernel
theorem d_M_insert0_94 : decode b_M_insert0 94 = .ok (.iload_n 3, 1) := by decide +kernel
theorem d_M_insert0_95 : decode b_M_insert0 95 = .ok (.iload 5, 2) := by decide +kernel
theorem d_M_insert0_97 : decode b_M_insert0 97 = .ok (.iadd, 1) := by decide +kernel
theorem d_M_insert0_98 : decode b_M_insert0 98 = .ok (.invokevirtual 120, 3) := by decide +kernel
theorem d_M_insert0_101 : decode b_M_insert0 101 = .ok (.iinc 5 1, 3) := by decide +kernel
theorem d_M_insert0_104 : decode b_M_insert0 104 = .ok (.goto (-30), 3) := by decide +kernel
theorem d_M_insert0_107 : decode b_M_insert0 107 = .ok (.aload_n 0, 1) := by decide +kernel
theorem d_M_insert0_108 : decode b_M_insert0 108 = .ok (.getfield 10, 3) := by decide +kernel
theorem d_M_insert0_111 : decode b_M_insert0 111 = .ok (.invokevirtual 124, 3) := by decide +kernel
theorem d_M_insert0_114 : decode b_M_insert0 114 = .ok (.ireturn, 1) := by decide +kernel
theorem d_M_in_0 : decode b_M_in 0 = .ok (.iload_n 0, 1) := by decide +kernel
theorem d_M_in_1 : decode b_M_in 1 = .ok (.iload_n 1, 1) := by decide +kernel
theorem d_M_in_2 : decode b_M_in 2 = .ok (.if_icmp .lt 12, 3) := by decide +kernel
theorem d_M_in_5 : decode b_M_in 5 = .ok (.iload_n 0, 1) := by decide +kernel
theorem d_M_in_6 : decode b_M_in 6 = .ok (.iload_n 2, 1) := by decide +kernel
theorem d_M_in_7 : decode b_M_in 7 = .ok (.if_icmp .gt 7, 3) := by decide +kernel
theorem d_M_in_10 : decode b_M_in 10 = .ok (.iconst 1, 1) := by decide +kernel
theorem d_M_in_11 : decode b_M_in 11 = .ok (.goto 4, 3) := by decide +kernel
theorem d_M_in_14 : decode b_M_in 14 = .ok (.iconst 0, 1) := by decide +kernel
theorem d_M_in_15 : decode b_M_in 15 = .ok (.ireturn, 1) := by decide +kernel
theorem d_M_check_0 : decode b_M_check 0 = .ok (.iload_n 0, 1) := by decide +kernel
theorem d_M_check_1 : decode b_M_check 1 = .ok (.ifCond .ne 11, 3) := by decide +kernel
theorem d_M_check_4 : decode b_M_check 4 = .ok (.new 27, 3) := by decide +kernel
theorem d_M_check_7 : decode b_M_check 7 = .ok (.dup, 1) := by decide +kernel
theorem d_M_check_8 : decode b_M_check 8 = .ok (.invokespecial 29, 3) := by decide +kernel
theorem d_M_check_11 : decode b_M_check 11 = .ok (.athrow, 1) := by decide +kernel
theorem d_M_check_12 : decode b_M_check 12 = .ok (.return_, 1) := by decide +kernel
theorem d_M_open_0 : decode b_M_open 0 = .ok (.aload_n 0, 1) := by decide +kernel
theorem d_M_open_1 : decode b_M_open 1 = .ok (.getfield 37, 3) := by decide +kernel
theorem d_M_open_4 : decode b_M_open 4 = .ok (.istore_n 2, 1) := by decide +kernel
theorem d_M_open_5 : decode b_M_open 5 = .ok (.aload_n 0, 1) := by decide +kernel
theorem d_M_open_6 : decode b_M_open 6 = .ok (.getfield 10, 3) := by decide +kernel
theorem d_M_open_9 : decode b_M_open 9 = .ok (.iload_n 1, 1) := by decide +kernel
theorem d_M_open_10 : decode b_M_open 10 = .ok (.invokevirtual 81, 3) := by decide +kernel
theorem d_M_open_13 : decode b_M_open 13 = .ok (.istore_n 3, 1) := by decide +kernel
theorem d_M_open_14 : decode b_M_open 14 = .ok (.aload_n 0, 1) := by decide +kernel
theorem d_M_open_15 : decode b_M_open 15 = .ok (.iconst 0, 1) := by decide +kernel
theorem d_M_open_16 : decode b_M_open 16 = .ok (.putfield 37, 3) := by decide +kernel
theorem d_M_open_19 : decode b_M_open 19 = .ok (.aload_n 0, 1) := by decide +kernel
theorem d_M_open_20 : decode b_M_open 20 = .ok (.iload_n 2, 1) := by decide +kernel
theorem d_M_open_21 : decode b_M_open 21 = .ok (.invokevirtual 73, 3) := by decide +kernel
theorem d_M_open_24 : decode b_M_open 24 = .ok (.iload_n 3, 1) := by decide +kernel
theorem d_M_open_25 : decode b_M_open 25 = .ok (.ifCond .lt 29, 3) := by decide +kernel
theorem d_M_open_28 : decode b_M_open 28 = .ok (.aload_n 0, 1) := by decide +kernel
theorem d_M_open_29 : decode b_M_open 29 = .ok (.getfield 23, 3) := by decide +kernel
theorem d_M_open_32 : decode b_M_open 32 = .ok (.iload_n 3, 1) := by decide +kernel
theorem d_M_open_33 : decode b_M_open 33 = .ok (.saload, 1) := by decide +kernel
theorem d_M_open_34 : decode b_M_open 34 = .ok (.aload_n 0, 1) := by decide +kernel
theorem d_M_open_35 : decode b_M_open 35 = .ok (.getfield 10, 3) := by decide +kernel
theorem d_M_open_38 : decode b_M_open 38 = .ok (.getfield 85, 3) := by decide +kernel
theorem d_M_open_41 : decode b_M_open 41 = .ok (.iload_n 3, 1) := by decide +kernel
theorem d_M_open_42 : decode b_M_open 42 = .ok (.iaload, 1) := by decide +kernel
theorem d_M_open_43 : decode b_M_open 43 = .ok (.if_icmp .ge 11, 3) := by decide +kernel
theorem d_M_open_46 : decode b_M_open 46 = .ok (.new 41, 3) := by decide +kernel
theorem d_M_open_49 : decode b_M_open 49 = .ok (.dup, 1) := by decide +kernel
theorem d_M_open_50 : decode b_M_open 50 = .ok (.invokespecial 43, 3) := by decide +kernel
theorem d_M_open_53 : decode b_M_open 53 = .ok (.athrow, 1) := by decide +kernel
theorem d_M_open_54 : decode b_M_open 54 = .ok (.aload_n 0, 1) := by decide +kernel
theorem d_M_open_55 : decode b_M_open 55 = .ok (.getfield 10, 3) := by decide +kernel
theorem d_M_open_58 : decode b_M_open 58 = .ok (.aload_n 0, 1) := by decide +kernel
theorem d_M_open_59 : decode b_M_open 59 = .ok (.getfield 23, 3) := by decide +kernel
theorem d_M_open_62 : decode b_M_open 62 = .ok (.iconst 0, 1) := by decide +kernel
theorem d_M_open_63 : decode b_M_open 63 = .ok (.invokevirtual 77, 3) := by decide +kernel
theorem d_M_open_66 : decode b_M_open 66 = .ok (.ireturn, 1) := by decide +kernel
theorem d_M_room_0 : decode b_M_room 0 = .ok (.aload_n 0, 1) := by decide +kernel
theorem d_M_room_1 : decode b_M_room 1 = .ok (.getfield 10, 3) := by decide +kernel
theorem d_M_room_4 : decode b_M_room 4 = .ok (.getfield 88, 3) := by decide +kernel
theorem d_M_room_7 : decode b_M_room 7 = .ok (.iload_n 2, 1) := by decide +kernel
theorem d_M_room_8 : decode b_M_room 8 = .ok (.iadd, 1) := by decide +kernel
theorem d_M_room_9 : decode b_M_room 9 = .ok (.sipush 8192, 3) := by decide +kernel
theorem d_M_room_12 : decode b_M_room 12 = .ok (.if_icmp .gt 26, 3) := by decide +kernel
theorem d_M_room_15 : decode b_M_room 15 = .ok (.aload_n 0, 1) := by decide +kernel
theorem d_M_room_16 : decode b_M_room 16 = .ok (.getfield 10, 3) := by decide +kernel
theorem d_M_room_19 : decode b_M_room 19 = .ok (.iload_n 1, 1) := by decide +kernel
theorem d_M_room_20 : decode b_M_room 20 = .ok (.invokevirtual 81, 3) := by decide +kernel
theorem d_M_room_23 : decode b_M_room 23 = .ok (.ifCond .ge 23, 3) := by decide +kernel
theorem d_M_room_26 : decode b_M_room 26 = .ok (.aload_n 0, 1) := by decide +kernel
theorem d_M_room_27 : decode b_M_room 27 = .ok (.getfield 10, 3) := by decide +kernel
theorem d_M_room_30 : decode b_M_room 30 = .ok (.getfield 91, 3) := by decide +kernel
theorem d_M_room_33 : decode b_M_room 33 = .ok (.bipush 16, 2) := by decide +kernel
theorem d_M_room_35 : decode b_M_room 35 = .ok (.if_icmp .ne 11, 3) := by decide +kernel
theorem d_M_room_38 : decode b_M_room 38 = .ok (.new 44, 3) := by decide +kernel
theorem d_M_room_41 : decode b_M_room 41 = .ok (.dup, 1) := by decide +kernel
theorem d_M_room_42 : decode b_M_room 42 = .ok (.invokespecial 46, 3) := by decide +kernel
theorem d_M_room_45 : decode b_M_room 45 = .ok (.athrow, 1) := by decide +kernel
theorem d_M_room_46 : decode b_M_room 46 = .ok (.return_, 1) := by decide +kernel
theorem d_M_come_0 : decode b_M_come 0 = .ok (.aload_n 0, 1) := by decide +kernel
theorem d_M_come_1 : decode b_M_come 1 = .ok (.getfield 10, 3) := by decide +kernel
theorem d_M_come_4 : decode b_M_come 4 = .ok (.iload_n 1, 1) := by decide +kernel
theorem d_M_come_5 : decode b_M_come 5 = .ok (.aload_n 0, 1) := by decide +kernel
theorem d_M_come_6 : decode b_M_come 6 = .ok (.getfield 23, 3) := by decide +kernel
theorem d_M_come_9 : decode b_M_come 9 = .ok (.iconst 0, 1) := by decide +kernel
theorem d_M_come_10 : decode b_M_come 10 = .ok (.invokevirtual 94, 3) := by decide +kernel
theorem d_M_come_13 : decode b_M_come 13 = .ok (.istore_n 2, 1) := by decide +kernel
theorem d_M_come_14 : decode b_M_come 14 = .ok (.aload_n 0, 1) := by decide +kernel
theorem d_M_come_15 : decode b_M_come 15 = .ok (.getfield 23, 3) := by decide +kernel
theorem d_M_come_18 : decode b_M_come 18 = .ok (.aload_n 0, 1) := by decide +kernel
theorem d_M_come_19 : decode b_M_come 19 = .ok (.getfield 10, 3) := by decide +kernel
theorem d_M_come_22 : decode b_M_come 22 = .ok (.getfield 64, 3) := by decide +kernel
theorem d_M_come_25 : decode b_M_come 25 = .ok (.iload_n 2, 1) := by decide +kernel
theorem d_M_come_26 : decode b_M_come 26 = .ok (.iaload, 1) := by decide +kernel
theorem d_M_come_27 : decode b_M_come 27 = .ok (.aload_n 0, 1) := by decide +kernel
theorem d_M_come_28 : decode b_M_come 28 = .ok (.getfield 10, 3) := by decide +kernel
theorem d_M_come_31 : decode b_M_come 31 = .ok (.getfield 67, 3) := by decide +kernel
theorem d_M_come_34 : decode b_M_come 34 = .ok (.iload_n 2, 1) := by decide +kernel
theorem d_M_come_35 : decode b_M_come 35 = .ok (.iaload, 1) := by decide +kernel
theorem d_M_come_36 : decode b_M_come 36 = .ok (.iconst 1, 1) := by decide +kernel
theorem d_M_come_37 : decode b_M_come 37 = .ok (.iadd, 1) := by decide +kernel
theorem d_M_come_38 : decode b_M_come 38 = .ok (.i2s, 1) := by decide +kernel
theorem d_M_come_39 : decode b_M_come 39 = .ok (.sastore, 1) := by decide +kernel
theorem d_M_come_40 : decode b_M_come 40 = .ok (.iload_n 2, 1) := by decide +kernel
theorem d_M_come_41 : decode b_M_come 41 = .ok (.ireturn, 1) := by decide +kernel
theorem d_G_add_0 : decode b_G_add 0 = .ok (.aload_n 0, 1) := by decide +kernel
theorem d_G_add_1 : decode b_G_add 1 = .ok (.iload_n 1, 1) := by decide +kernel
theorem d_G_add_2 : decode b_G_add 2 = .ok (.invokevirtual 78, 3) := by decide +kernel
theorem d_G_add_5 : decode b_G_add 5 = .ok (.istore 4, 2) := by decide +kernel
theorem d_G_add_7 : decode b_G_add 7 = .ok (.iload 4, 2) := by decide +kernel
theorem d_G_add_9 : decode b_G_add 9 = .ok (.ifCond .ge 27, 3) := by decide +kernel
theorem d_G_add_12 : decode b_G_add 12 = .ok (.aload_n 0, 1) := by decide +kernel
theorem d_G_add_13 : decode b_G_add 13 = .ok (.getfield 75, 3) := by decide +kernel
theorem d_G_add_16 : decode b_G_add 16 = .ok (.istore 4, 2) := by decide +kernel
theorem d_G_add_18 : decode b_G_add 18 = .ok (.aload_n 0, 1) := by decide +kernel
theorem d_G_add_19 : decode b_G_add 19 = .ok (.getfield 9, 3) := by decide +kernel
theorem d_G_add_22 : decode b_G_add 22 = .ok (.iload 4, 2) := by decide +kernel
theorem d_G_add_24 : decode b_G_add 24 = .ok (.iload_n 1, 1) := by decide +kernel
theorem d_G_add_25 : decode b_G_add 25 = .ok (.iastore, 1) := by decide +kernel
theorem d_G_add_26 : decode b_G_add 26 = .ok (.aload_n 0, 1) := by decide +kernel
theorem d_G_add_27 : decode b_G_add 27 = .ok (.dup, 1) := by decide +kernel
theorem d_G_add_28 : decode b_G_add 28 = .ok (.getfield 75, 3) := by decide +kernel
theorem d_G_add_31 : decode b_G_add 31 = .ok (.iconst 1, 1) := by decide +kernel
theorem d_G_add_32 : decode b_G_add 32 = .ok (.iadd, 1) := by decide +kernel
theorem d_G_add_33 : decode b_G_add 33 = .ok (.putfield 75, 3) := by decide +kernel
theorem d_G_add_36 : decode b_G_add 36 = .ok (.aload_n 0, 1) := by decide +kernel
theorem d_G_add_37 : decode b_G_add 37 = .ok (.getfield 96, 3) := by decide +kernel
theorem d_G_add_40 : decode b_G_add 40 = .ok (.istore 5, 2) := by decide +kernel
theorem d_G_add_42 : decode b_G_add 42 = .ok (.aload_n 0, 1) := by decide +kernel
theorem d_G_add_43 : decode b_G_add 43 = .ok (.dup, 1) := by decide +kernel
theorem d_G_add_44 : decode b_G_add 44 = .ok (.getfield 96, 3) := by decide +kernel
theorem d_G_add_47 : decode b_G_add 47 = .ok (.iconst 1, 1) := by decide +kernel
theorem d_G_add_48 : decode b_G_add 48 = .ok (.iadd, 1) := by decide +kernel
theorem d_G_add_49 : decode b_G_add 49 = .ok (.putfield 96, 3) := by decide +kernel
theorem d_G_add_52 : decode b_G_add 52 = .ok (.aload_n 0, 1) := by decide +kernel
theorem d_G_add_53 : decode b_G_add 53 = .ok (.getfield 23, 3) := by decide +kernel
theorem d_G_add_56 : decode b_G_add 56 = .ok (.iload 5, 2) := by decide +kernel
theorem d_G_add_58 : decode b_G_add 58 = .ok (.iload 4, 2) := by decide +kernel
theorem d_G_add_60 : decode b_G_add 60 = .ok (.iastore, 1) := by decide +kernel
theorem d_G_add_61 : decode b_G_add 61 = .ok (.aload_n 0, 1) := by decide +kernel
theorem d_G_add_62 : decode b_G_add 62 = .ok (.getfield 26, 3) := by decide +kernel
theorem d_G_add_65 : decode b_G_add 65 = .ok (.iload 5, 2) := by decide +kernel
theorem d_G_add_67 : decode b_G_add 67 = .ok (.aload_n 0, 1) := by decide +kernel
theorem d_G_add_68 : decode b_G_add 68 = .ok (.getfield 15, 3) := by decide +kernel
theorem d_G_add_71 : decode b_G_add 71 = .ok (.iload 4, 2) := by decide +kernel
theorem d_G_add_73 : decode b_G_add 73 = .ok (.iaload, 1) := by decide +kernel
theorem d_G_add_74 : decode b_G_add 74 = .ok (.iastore, 1) := by decide +kernel
theorem d_G_add_75 : decode b_G_add 75 = .ok (.aload_n 0, 1) := by decide +kernel
theorem d_G_add_76 : decode b_G_add 76 = .ok (.getfield 15, 3) := by decide +kernel
theorem d_G_add_79 : decode b_G_add 79 = .ok (.iload 4, 2) := by decide +kernel
theorem d_G_add_81 : decode b_G_add 81 = .ok (.iaload, 1) := by decide +kernel
theorem d_G_add_82 : decode b_G_add 82 = .ok (.aload_n 0, 1) := by decide +kernel
theorem d_G_add_83 : decode b_G_add 83 = .ok (.getfield 20, 3) := by decide +kernel
theorem d_G_add_86 : decode b_G_add 86 = .ok (.iload 4, 2) := by decide +kernel
theorem d_G_add_88 : decode b_G_add 88 = .ok (.aaload, 1) := by decide +kernel
theorem d_G_add_89 : decode b_G_add 89 = .ok (.arraylength, 1) := by decide +kernel
theorem d_G_add_90 : decode b_G_add 90 = .ok (.if_icmp .ne 29, 3) := by decide +kernel
theorem d_G_add_93 : decode b_G_add 93 = .ok (.aload_n 0, 1) := by decide +kernel
theorem d_G_add_94 : decode b_G_add 94 = .ok (.getfield 20, 3) := by decide +kernel
theorem d_G_add_97 : decode b_G_add 97 = .ok (.iload 4, 2) := by decide +kernel
theorem d_G_add_99 : decode b_G_add 99 = .ok (.aload_n 0, 1) := by decide +kernel
theorem d_G_add_100 : decode b_G_add 100 = .ok (.getfield 20, 3) := by decide +kernel
theorem d_G_add_103 : decode b_G_add 103 = .ok (.iload 4, 2) := by decide +kernel
theorem d_G_add_105 : decode b_G_add 105 = .ok (.aaload, 1) := by decide +kernel
theorem d_G_add_106 : decode b_G_add 106 = .ok (.iconst 2, 1) := by decide +kernel
theorem d_G_add_107 : decode b_G_add 107 = .ok (.aload_n 0, 1) := by decide +kernel
theorem d_G_add_108 : decode b_G_add 108 = .ok (.getfield 15, 3) := by decide +kernel
theorem d_G_add_111 : decode b_G_add 111 = .ok (.iload 4, 2) := by decide +kernel
theorem d_G_add_113 : decode b_G_add 113 = .ok (.iaload, 1) := by decide +kernel
theorem d_G_add_114 : decode b_G_add 114 = .ok (.imul, 1) := by decide +kernel
theorem d_G_add_115 : decode b_G_add 115 = .ok (.invokestatic 99, 3) := by decide +kernel
theorem d_G_add_118 : decode b_G_add 118 = .ok (.aastore, 1) := by decide +kernel
theorem d_G_add_119 : decode b_G_add 119 = .ok (.aload_n 0, 1) := by decide +kernel
theorem d_G_add_120 : decode b_G_add 120 = .ok (.getfield 20, 3) := by decide +kernel
theorem d_G_add_123 : decode b_G_add 123 = .ok (.iload 4, 2) := by decide +kernel
theorem d_G_add_125 : decode b_G_add 125 = .ok (.aaload, 1) := by decide +kernel
theorem d_G_add_126 : decode b_G_add 126 = .ok (.aload_n 0, 1) := by decide +kernel
theorem d_G_add_127 : decode b_G_add 127 = .ok (.getfield 15, 3) := by decide +kernel
theorem d_G_add_130 : decode b_G_add 130 = .ok (.iload 4, 2) := by decide +kernel
theorem d_G_add_132 : decode b_G_add 132 = .ok (.iaload, 1) := by decide +kernel
theorem d_G_add_133 : decode b_G_add 133 = .ok (.iload 5, 2) := by decide +kernel
theorem d_G_add_135 : decode b_G_add 135 = .ok (.iastore, 1) := by decide +kernel
theorem d_G_add_136 : decode b_G_add 136 = .ok (.aload_n 0, 1) := by decide +kernel
theorem d_G_add_137 : decode b_G_add 137 = .ok (.getfield 15, 3) := by decide +kernel
theorem d_G_add_140 : decode b_G_add 140 = .ok (.iload 4, 2) := by decide +kernel
theorem d_G_add_142 : decode b_G_add 142 = .ok (.dup2, 1) := by decide +kernel
theorem d_G_add_143 : decode b_G_add 143 = .ok (.iaload, 1) := by decide +kernel
theorem d_G_add_144 : decode b_G_add 144 = .ok (.iconst 1, 1) := by decide +kernel
theorem d_G_add_145 : decode b_G_add 145 = .ok (.iadd, 1) := by decide +kernel
theorem d_G_add_146 : decode b_G_add 146 = .ok (.iastore, 1) := by decide +kernel
theorem d_G_add_147 : decode b_G_add 147 = .ok (.iconst 0, 1) := by decide +kernel
theorem d_G_add_148 : decode b_G_add 148 = .ok (.istore 6, 2) := by decide +kernel
theorem d_G_add_150 : decode b_G_add 150 = .ok (.iload 6, 2) := by decide +kernel
theorem d_G_add_152 : decode b_G_add 152 = .ok (.bipush 16, 2) := by decide +kernel
theorem d_G_add_154 : decode b_G_add 154 = .ok (.if_icmp .ge 28, 3) := by decide +kernel
theorem d_G_add_157 : decode b_G_add 157 = .ok (.aload_n 0, 1) := by decide +kernel
theorem d_G_add_158 : decode b_G_add 158 = .ok (.getfield 30, 3) := by decide +kernel
theorem d_G_add_161 : decode b_G_add 161 = .ok (.bipush 16, 2) := by decide +kernel
theorem d_G_add_163 : decode b_G_add 163 = .ok (.iload 5, 2) := by decide +kernel
theorem d_G_add_165 : decode b_G_add 165 = .ok (.imul, 1) := by decide +kernel
theorem d_G_add_166 : decode b_G_add 166 = .ok (.iload 6, 2) := by decide +kernel
theorem d_G_add_168 : decode b_G_add 168 = .ok (.iadd, 1) := by decide +kernel
theorem d_G_add_169 : decode b_G_add 169 = .ok (.aload_n 2, 1) := by decide +kernel
theorem d_G_add_170 : decode b_G_add 170 = .ok (.iload_n 3, 1) := by decide +kernel
theorem d_G_add_171 : decode b_G_add 171 = .ok (.iload 6, 2) := by decide +kernel
theorem d_G_add_173 : decode b_G_add 173 = .ok (.iadd, 1) := by decide +kernel
theorem d_G_add_174 : decode b_G_add 174 = .ok (.saload, 1) := by decide +kernel
theorem d_G_add_175 : decode b_G_add 175 = .ok (.sastore, 1) := by decide +kernel
theorem d_G_add_176 : decode b_G_add 176 = .ok (.iinc 6 1, 3) := by decide +kernel
theorem d_G_add_179 : decode b_G_add 179 = .ok (.goto (-29), 3) := by decide +kernel
theorem d_G_add_182 : decode b_G_add 182 = .ok (.aload_n 0, 1) := by decide +kernel
theorem d_G_add_183 : decode b_G_add 183 = .ok (.getfield 69, 3) := by decide +kernel
theorem d_G_add_186 : decode b_G_add 186 = .ok (.iload 5, 2) := by decide +kernel
theorem d_G_add_188 : decode b_G_add 188 = .ok (.iconst (-1), 1) := by decide +kernel
theorem d_G_add_189 : decode b_G_add 189 = .ok (.iastore, 1) := by decide +kernel
theorem d_G_add_190 : decode b_G_add 190 = .ok (.aload_n 0, 1) := by decide +kernel
theorem d_G_add_191 : decode b_G_add 191 = .ok (.getfield 50, 3) := by decide +kernel
theorem d_G_add_194 : decode b_G_add 194 = .ok (.iload 5, 2) := by decide +kernel
theorem d_G_add_196 : decode b_G_add 196 = .ok (.iconst (-1), 1) := by decide +kernel
theorem d_G_add_197 : decode b_G_add 197 = .ok (.iastore, 1) := by decide +kernel
theorem d_G_add_198 : decode b_G_add 198 = .ok (.aload_n 0, 1) := by decide +kernel
theorem d_G_add_199 : decode b_G_add 199 = .ok (.getfield 53, 3) := by decide +kernel
theorem d_G_add_202 : decode b_G_add 202 = .ok (.iload 5, 2) := by decide +kernel
theorem d_G_add_204 : decode b_G_add 204 = .ok (.iconst (-1), 1) := by decide +kernel
theorem d_G_add_205 : decode b_G_add 205 = .ok (.iastore, 1) := by decide +kernel
theorem d_G_add_206 : decode b_G_add 206 = .ok (.aload_n 0, 1) := by decide +kernel
theorem d_G_add_207 : decode b_G_add 207 = .ok (.getfield 47, 3) := by decide +kernel
theorem d_G_add_210 : decode b_G_add 210 = .ok (.iload 5, 2) := by decide +kernel
theorem d_G_add_212 : decode b_G_add 212 = .ok (.iconst (-1), 1) := by decide +kernel
theorem d_G_add_213 : decode b_G_add 213 = .ok (.iastore, 1) := by decide +kernel
theorem d_G_add_214 : decode b_G_add 214 = .ok (.iload 5, 2) := by decide +kernel
theorem d_G_add_216 : decode b_G_add 216 = .ok (.ireturn, 1) := by decide +kernel
theorem d_AR_copyI_0 : decode b_AR_copyI 0 = .ok (.iload_n 1, 1) := by decide +kernel
theorem d_AR_copyI_1 : decode b_AR_copyI 1 = .ok (.aload_n 0, 1) := by decide +kernel
theorem d_AR_copyI_2 : decode b_AR_copyI 2 = .ok (.arraylength, 1) := by decide +kernel
theorem d_AR_copyI_3 : decode b_AR_copyI 3 = .ok (.if_icmp .ne 11, 3) := by decide +kernel
theorem d_AR_copyI_6 : decode b_AR_copyI 6 = .ok (.aload_n 0, 1) := by decide +kernel
theorem d_AR_copyI_7 : decode b_AR_copyI 7 = .ok (.invokevirtual 316, 3) := by decide +kernel
theorem d_AR_copyI_10 : decode b_AR_copyI 10 = .ok (.checkcast 317, 3) := by decide +kernel
theorem d_AR_copyI_13 : decode b_AR_copyI 13 = .ok (.areturn, 1) := by decide +kernel
theorem d_AR_copyI_14 : decode b_AR_copyI 14 = .ok (.iload_n 1, 1) := by decide +kernel
theorem d_AR_copyI_15 : decode b_AR_copyI 15 = .ok (.newarray .int, 2) := by decide +kernel
theorem d_AR_copyI_17 : decode b_AR_copyI 17 = .ok (.astore_n 2, 1) := by decide +kernel
theorem d_AR_copyI_18 : decode b_AR_copyI 18 = .ok (.aload_n 0, 1) := by decide +kernel
theorem d_AR_copyI_19 : decode b_AR_copyI 19 = .ok (.iconst 0, 1) := by decide +kernel
theorem d_AR_copyI_20 : decode b_AR_copyI 20 = .ok (.aload_n 2, 1) := by decide +kernel
theorem d_AR_copyI_21 : decode b_AR_copyI 21 = .ok (.iconst 0, 1) := by decide +kernel
theorem d_AR_copyI_22 : decode b_AR_copyI 22 = .ok (.aload_n 0, 1) := by decide +kernel
theorem d_AR_copyI_23 : decode b_AR_copyI 23 = .ok (.arraylength, 1) := by decide +kernel
theorem d_AR_copyI_24 : decode b_AR_copyI 24 = .ok (.iload_n 1, 1) := by decide +kernel
theorem d_AR_copyI_25 : decode b_AR_copyI 25 = .ok (.invokestatic 304, 3) := by decide +kernel
theorem d_AR_copyI_28 : decode b_AR_copyI 28 = .ok (.invokestatic 150, 3) := by decide +kernel
theorem d_AR_copyI_31 : decode b_AR_copyI 31 = .ok (.aload_n 2, 1) := by decide +kernel
theorem d_AR_copyI_32 : decode b_AR_copyI 32 = .ok (.areturn, 1) := by decide +kernel
theorem d_G_insert_0 : decode b_G_insert 0 = .ok (.bipush 16, 2) := by decide +kernel
theorem d_G_insert_2 : decode b_G_insert 2 = .ok (.iload_n 1, 1) := by decide +kernel
theorem d_G_insert_3 : decode b_G_insert 3 = .ok (.imul, 1) := by decide +kernel
theorem d_G_insert_4 : decode b_G_insert 4 = .ok (.istore 4, 2) := by decide +kernel
theorem d_G_insert_6 : decode b_G_insert 6 = .ok (.iload_n 2, 1) := by decide +kernel
theorem d_G_insert_7 : decode b_G_insert 7 = .ok (.ifCond .ne 7, 3) := by decide +kernel
theorem d_G_insert_10 : decode b_G_insert 10 = .ok (.iconst (-1), 1) := by decide +kernel
theorem d_G_insert_11 : decode b_G_insert 11 = .ok (.goto 16, 3) := by decide +kernel
theorem d_G_insert_14 : decode b_G_insert 14 = .ok (.aload_n 0, 1) := by decide +kernel
theorem d_G_insert_15 : decode b_G_insert 15 = .ok (.aload_n 0, 1) := by decide +kernel
theorem d_G_insert_16 : decode b_G_insert 16 = .ok (.getfield 30, 3) := by decide +kernel
theorem d_G_insert_19 : decode b_G_insert 19 = .ok (.iload 4, 2) := by decide +kernel
theorem d_G_insert_21 : decode b_G_insert 21 = .ok (.iload_n 2, 1) := by decide +kernel
theorem d_G_insert_22 : decode b_G_insert 22 = .ok (.iconst 1, 1) := by decide +kernel
theorem d_G_insert_23 : decode b_G_insert 23 = .ok (.isub, 1) := by decide +kernel
theorem d_G_insert_24 : decode b_G_insert 24 = .ok (.invokevirtual 105, 3) := by decide +kernel
theorem d_G_insert_27 : decode b_G_insert 27 = .ok (.istore 5, 2) := by decide +kernel
theorem d_G_insert_29 : decode b_G_insert 29 = .ok (.iload 5, 2) := by decide +kernel
theorem d_G_insert_31 : decode b_G_insert 31 = .ok (.ifCond .ge 7, 3) := by decide +kernel
theorem d_G_insert_34 : decode b_G_insert 34 = .ok (.iconst (-1), 1) := by decide +kernel
theorem d_G_insert_35 : decode b_G_insert 35 = .ok (.goto 10, 3) := by decide +kernel
theorem d_G_insert_38 : decode b_G_insert 38 = .ok (.aload_n 0, 1) := by decide +kernel
theorem d_G_insert_39 : decode b_G_insert 39 = .ok (.getfield 72, 3) := by decide +kernel
theorem d_G_insert_42 : decode b_G_insert 42 = .ok (.iload 5, 2) := by decide +kernel
theorem d_G_insert_44 : decode b_G_insert 44 = .ok (.iaload, 1) := by decide +kernel
theorem d_G_insert_45 : decode b_G_insert 45 = .ok (.istore 6, 2) := by decide +kernel
theorem d_G_insert_47 : decode b_G_insert 47 = .ok (.aload_n 0, 1) := by decide +kernel
theorem d_G_insert_48 : decode b_G_insert 48 = .ok (.getfield 38, 3) := by decide +kernel
theorem d_G_insert_51 : decode b_G_insert 51 = .ok (.iload_n 1, 1) := by decide +kernel
theorem d_G_insert_52 : decode b_G_insert 52 = .ok (.iload_n 2, 1) := by decide +kernel
theorem d_G_insert_53 : decode b_G_insert 53 = .ok (.iastore, 1) := by decide +kernel
theorem d_G_insert_54 : decode b_G_insert 54 = .ok (.aload_n 0, 1) := by decide +kernel
theorem d_G_insert_55 : decode b_G_insert 55 = .ok (.getfield 34, 3) := by decide +kernel
theorem d_G_insert_58 : decode b_G_insert 58 = .ok (.iload_n 1, 1) := by decide +kernel
theorem d_G_insert_59 : decode b_G_insert 59 = .ok (.iconst 1, 1) := by decide +kernel
theorem d_G_insert_60 : decode b_G_insert 60 = .ok (.bastore, 1) := by decide +kernel
theorem d_G_insert_61 : decode b_G_insert 61 = .ok (.aload_n 0, 1) := by decide +kernel
theorem d_G_insert_62 : decode b_G_insert 62 = .ok (.getfield 41, 3) := by decide +kernel
theorem d_G_insert_65 : decode b_G_insert 65 = .ok (.iload_n 1, 1) := by decide +kernel
theorem d_G_insert_66 : decode b_G_insert 66 = .ok (.iload_n 3, 1) := by decide +kernel
theorem d_G_insert_67 : decode b_G_insert 67 = .ok (.iastore, 1) := by decide +kernel
theorem d_G_insert_68 : decode b_G_insert 68 = .ok (.iconst 0, 1) := by decide +kernel
theorem d_G_insert_69 : decode b_G_insert 69 = .ok (.istore 7, 2) := by decide +kernel
theorem d_G_insert_71 : decode b_G_insert 71 = .ok (.iload 6, 2) := by decide +kernel
theorem d_G_insert_73 : decode b_G_insert 73 = .ok (.ifCond .ge 10, 3) := by decide +kernel
theorem d_G_insert_76 : decode b_G_insert 76 = .ok (.aload_n 0, 1) := by decide +kernel
theorem d_G_insert_77 : decode b_G_insert 77 = .ok (.getfield 59, 3) := by decide +kernel
theorem d_G_insert_80 : decode b_G_insert 80 = .ok (.goto 10, 3) := by decide +kernel
theorem d_G_insert_83 : decode b_G_insert 83 = .ok (.aload_n 0, 1) := by decide +kernel
theorem d_G_insert_84 : decode b_G_insert 84 = .ok (.getfield 53, 3) := by decide +kernel
theorem d_G_insert_87 : decode b_G_insert 87 = .ok (.iload 6, 2) := by decide +kernel
theorem d_G_insert_89 : decode b_G_insert 89 = .ok (.iaload, 1) := by decide +kernel
theorem d_G_insert_90 : decode b_G_insert 90 = .ok (.istore 8, 2) := by decide +kernel
theorem d_G_insert_92 : decode b_G_insert 92 = .ok (.iload 8, 2) := by decide +kernel
theorem d_G_insert_94 : decode b_G_insert 94 = .ok (.ifCond .lt 32, 3) := by decide +kernel
theorem d_G_insert_97 : decode b_G_insert 97 = .ok (.iload 7, 2) := by decide +kernel
theorem d_G_insert_99 : decode b_G_insert 99 = .ok (.aload_n 0, 1) := by decide +kernel
theorem d_G_insert_100 : decode b_G_insert 100 = .ok (.aload_n 0, 1) := by decide +kernel
theorem d_G_insert_101 : decode b_G_insert 101 = .ok (.getfield 30, 3) := by decide +kernel
theorem d_G_insert_104 : decode b_G_insert 104 = .ok (.iload 4, 2) := by decide +kernel
theorem d_G_insert_106 : decode b_G_insert 106 = .ok (.iload 8, 2) := by decide +kernel
theorem d_G_insert_108 : decode b_G_insert 108 = .ok (.invokevirtual 82, 3) := by decide +kernel
theorem d_G_insert_111 : decode b_G_insert 111 = .ok (.ior, 1) := by decide +kernel
theorem d_G_insert_112 : decode b_G_insert 112 = .ok (.istore 7, 2) := by decide +kernel
theorem d_G_insert_114 : decode b_G_insert 114 = .ok (.aload_n 0, 1) := by decide +kernel
theorem d_G_insert_115 : decode b_G_insert 115 = .ok (.getfield 47, 3) := by decide +kernel
theorem d_G_insert_118 : decode b_G_insert 118 = .ok (.iload 8, 2) := by decide +kernel
theorem d_G_insert_120 : decode b_G_insert 120 = .ok (.iaload, 1) := by decide +kernel
theorem d_G_insert_121 : decode b_G_insert 121 = .ok (.istore 8, 2) := by decide +kernel
theorem d_G_insert_123 : decode b_G_insert 123 = .ok (.goto (-31), 3) := by decide +kernel
theorem d_G_insert_126 : decode b_G_insert 126 = .ok (.aload_n 0, 1) := by decide +kernel
theorem d_G_insert_127 : decode b_G_insert 127 = .ok (.getfield 56, 3) := by decide +kernel
theorem d_G_insert_130 : decode b_G_insert 130 = .ok (.iload_n 1, 1) := by decide +kernel
theorem d_G_insert_131 : decode b_G_insert 131 = .ok (.iload 7, 2) := by decide +kernel
theorem d_G_insert_133 : decode b_G_insert 133 = .ok (.ifCond .ne 7, 3) := by decide +kernel
theorem d_G_insert_136 : decode b_G_insert 136 = .ok (.iconst 1, 1) := by decide +kernel
theorem d_G_insert_137 : decode b_G_insert 137 = .ok (.goto 4, 3) := by decide +kernel
theorem d_G_insert_140 : decode b_G_insert 140 = .ok (.iconst 0, 1) := by decide +kernel
theorem d_G_insert_141 : decode b_G_insert 141 = .ok (.bastore, 1) := by decide +kernel
theorem d_G_insert_142 : decode b_G_insert 142 = .ok (.aload_n 0, 1) := by decide +kernel
theorem d_G_insert_143 : decode b_G_insert 143 = .ok (.getfield 44, 3) := by decide +kernel
theorem d_G_insert_146 : decode b_G_insert 146 = .ok (.iload_n 1, 1) := by decide +kernel
theorem d_G_insert_147 : decode b_G_insert 147 = .ok (.iload 6, 2) := by decide +kernel
theorem d_G_insert_149 : decode b_G_insert 149 = .ok (.iastore, 1) := by decide +kernel
theorem d_G_insert_150 : decode b_G_insert 150 = .ok (.iload 7, 2) := by decide +kernel
theorem d_G_insert_152 : decode b_G_insert 152 = .ok (.ifCond .eq 48, 3) := by decide +kernel
theorem d_G_insert_155 : decode b_G_insert 155 = .ok (.iload 5, 2) := by decide +kernel
theorem d_G_insert_157 : decode b_G_insert 157 = .ok (.iconst 1, 1) := by decide +kernel
theorem d_G_insert_158 : decode b_G_insert 158 = .ok (.iadd, 1) := by decide +kernel
theorem d_G_insert_159 : decode b_G_insert 159 = .ok (.istore 8, 2) := by decide +kernel
theorem d_G_insert_161 : decode b_G_insert 161 = .ok (.aload_n 0, 1) := by decide +kernel
theorem d_G_insert_162 : decode b_G_insert 162 = .ok (.aload_n 0, 1) := by decide +kernel
theorem d_G_insert_163 : decode b_G_insert 163 = .ok (.getfield 30, 3) := by decide +kernel
theorem d_G_insert_166 : decode b_G_insert 166 = .ok (.iload 4, 2) := by decide +kernel
theorem d_G_insert_168 : decode b_G_insert 168 = .ok (.aload_n 0, 1) := by decide +kernel
theorem d_G_insert_169 : decode b_G_insert 169 = .ok (.getfield 72, 3) := by decide +kernel
theorem d_G_insert_172 : decode b_G_insert 172 = .ok (.iload 8, 2) := by decide +kernel
theorem d_G_insert_174 : decode b_G_insert 174 = .ok (.iaload, 1) := by decide +kernel
theorem d_G_insert_175 : decode b_G_insert 175 = .ok (.invokevirtual 82, 3) := by decide +kernel
theorem d_G_insert_178 : decode b_G_insert 178 = .ok (.ifCond .ne 9, 3) := by decide +kernel
theorem d_G_insert_181 : decode b_G_insert 181 = .ok (.iinc 8 1, 3) := by decide +kernel
theorem d_G_insert_184 : decode b_G_insert 184 = .ok (.goto (-23), 3) := by decide +kernel
theorem d_G_insert_187 : decode b_G_insert 187 = .ok (.aload_n 0, 1) := by decide +kernel
theorem d_G_insert_188 : decode b_G_insert 188 = .ok (.getfield 44, 3) := by decide +kernel
theorem d_G_insert_191 : decode b_G_insert 191 = .ok (.iload_n 1, 1) := by decide +kernel
theorem d_G_insert_192 : decode b_G_insert 192 = .ok (.aload_n 0, 1) := by decide +kernel
theorem d_G_insert_193 : decode b_G_insert 193 = .ok (.getfield 72, 3) := by decide +kernel
theorem d_G_insert_196 : decode b_G_insert 196 = .ok (.iload 8, 2) := by decide +kernel
theorem d_G_insert_198 : decode b_G_insert 198 = .ok (.iaload, 1) := by decide +kernel
theorem d_G_insert_199 : decode b_G_insert 199 = .ok (.iastore, 1) := by decide +kernel
theorem d_G_insert_200 : decode b_G_insert 200 = .ok (.aload_n 0, 1) := by decide +kernel
theorem d_G_insert_201 : decode b_G_insert 201 = .ok (.iload_n 1, 1) := by decide +kernel
theorem d_G_insert_202 : decode b_G_insert 202 = .ok (.invokevirtual 109, 3) := by decide +kernel
theorem d_G_insert_205 : decode b_G_insert 205 = .ok (.aload_n 0, 1) := by decide +kernel
theorem d_G_insert_206 : decode b_G_insert 206 = .ok (.iload_n 1, 1) := by decide +kernel
theorem d_G_insert_207 : decode b_G_insert 207 = .ok (.invokevirtual 113, 3) := by decide +kernel
theorem d_G_insert_210 : decode b_G_insert 210 = .ok (.istore 8, 2) := by decide +kernel
theorem d_G_insert_212 : decode b_G_insert 212 = .ok (.aload_n 0, 1) := by decide +kernel
theorem d_G_insert_213 : decode b_G_insert 213 = .ok (.getfield 86, 3) := by decide +kernel
theorem d_G_insert_216 : decode b_G_insert 216 = .ok (.istore 9, 2) := by decide +kernel
theorem d_G_insert_218 : decode b_G_insert 218 = .ok (.iload 9, 2) := by decide +kernel
theorem d_G_insert_220 : decode b_G_insert 220 = .ok (.iload 8, 2) := by decide +kernel
theorem d_G_insert_222 : decode b_G_insert 222 = .ok (.if_icmp .le 25, 3) := by decide +kernel
theorem d_G_insert_225 : decode b_G_insert 225 = .ok (.aload_n 0, 1) := by decide +kernel
theorem d_G_insert_226 : decode b_G_insert 226 = .ok (.getfield 72, 3) := by decide +kernel
theorem d_G_insert_229 : decode b_G_insert 229 = .ok (.iload 9, 2) := by decide +kernel
theorem d_G_insert_231 : decode b_G_insert 231 = .ok (.aload_n 0, 1) := by decide +kernel
theorem d_G_insert_232 : decode b_G_insert 232 = .ok (.getfield 72, 3) := by decide +kernel
theorem d_G_insert_235 : decode b_G_insert 235 = .ok (.iload 9, 2) := by decide +kernel
theorem d_G_insert_237 : decode b_G_insert 237 = .ok (.iconst 1, 1) := by decide +kernel
theorem d_G_insert_238 : decode b_G_insert 238 = .ok (.isub, 1) := by decide +kernel
theorem d_G_insert_239 : decode b_G_insert 239 = .ok (.iaload, 1) := by decide +kernel
theorem d_G_insert_240 : decode b_G_insert 240 = .ok (.iastore, 1) := by decide +kernel
theorem d_G_insert_241 : decode b_G_insert 241 = .ok (.iinc 9 (-1), 3) := by decide +kernel
theorem d_G_insert_244 : decode b_G_insert 244 = .ok (.goto (-26), 3) := by decide +kernel
theorem d_G_insert_247 : decode b_G_insert 247 = .ok (.aload_n 0, 1) := by decide +kernel
theorem d_G_insert_248 : decode b_G_insert 248 = .ok (.getfield 72, 3) := by decide +kernel
theorem d_G_insert_251 : decode b_G_insert 251 = .ok (.iload 8, 2) := by decide +kernel
theorem d_G_insert_253 : decode b_G_insert 253 = .ok (.iload_n 1, 1) := by decide +kernel
theorem d_G_insert_254 : decode b_G_insert 254 = .ok (.iastore, 1) := by decide +kernel
theorem d_G_insert_255 : decode b_G_insert 255 = .ok (.aload_n 0, 1) := by decide +kernel
theorem d_G_insert_256 : decode b_G_insert 256 = .ok (.dup, 1) := by decide +kernel
theorem d_G_insert_257 : decode b_G_insert 257 = .ok (.getfield 86, 3) := by decide +kernel
theorem d_G_insert_260 : decode b_G_insert 260 = .ok (.iconst 1, 1) := by decide +kernel
theorem d_G_insert_261 : decode b_G_insert 261 = .ok (.iadd, 1) := by decide +kernel
theorem d_G_insert_262 : decode b_G_insert 262 = .ok (.putfield 86, 3) := by decide +kernel
theorem d_G_insert_265 : decode b_G_insert 265 = .ok (.return_, 1) := by decide +kernel
theorem d_G_seenAt_0 : decode b_G_seenAt 0 = .ok (.iload_n 3, 1) := by decide +kernel
theorem d_G_seenAt_1 : decode b_G_seenAt 1 = .ok (.istore 4, 2) := by decide +kernel
theorem d_G_seenAt_3 : decode b_G_seenAt 3 = .ok (.iconst 0, 1) := by decide +kernel
theorem d_G_seenAt_4 : decode b_G_seenAt 4 = .ok (.istore 5, 2) := by decide +kernel
theorem d_G_seenAt_6 : decode b_G_seenAt 6 = .ok (.aload_n 0, 1) := by decide +kernel
theorem d_G_seenAt_7 : decode b_G_seenAt 7 = .ok (.aload_n 1, 1) := by decide +kernel
theorem d_G_seenAt_8 : decode b_G_seenAt 8 = .ok (.iload_n 2, 1) := by decide +kernel
theorem d_G_seenAt_9 : decode b_G_seenAt 9 = .ok (.aload_n 0, 1) := by decide +kernel
theorem d_G_seenAt_10 : decode b_G_seenAt 10 = .ok (.getfield 72, 3) := by decide +kernel
theorem d_G_seenAt_13 : decode b_G_seenAt 13 = .ok (.iload 5, 2) := by decide +kernel
theorem d_G_seenAt_15 : decode b_G_seenAt 15 = .ok (.iaload, 1) := by decide +kernel
theorem d_G_seenAt_16 : decode b_G_seenAt 16 = .ok (.invokevirtual 89, 3) := by decide +kernel
theorem d_G_seenAt_19 : decode b_G_seenAt 19 = .ok (.ifCond .eq 8, 3) := by decide +kernel
theorem d_G_seenAt_22 : decode b_G_seenAt 22 = .ok (.iload 4, 2) := by decide +kernel
theorem d_G_seenAt_24 : decode b_G_seenAt 24 = .ok (.ifCond .le 28, 3) := by decide +kernel
theorem d_G_seenAt_27 : decode b_G_seenAt 27 = .ok (.aload_n 0, 1) := by decide +kernel
theorem d_G_seenAt_28 : decode b_G_seenAt 28 = .ok (.aload_n 1, 1) := by decide +kernel
theorem d_G_seenAt_29 : decode b_G_seenAt 29 = .ok (.iload_n 2, 1) := by decide +kernel
theorem d_G_seenAt_30 : decode b_G_seenAt 30 = .ok (.aload_n 0, 1) := by decide +kernel
theorem d_G_seenAt_31 : decode b_G_seenAt 31 = .ok (.getfield 72, 3) := by decide +kernel
theorem d_G_seenAt_34 : decode b_G_seenAt 34 = .ok (.iload 5, 2) := by decide +kernel
theorem d_G_seenAt_36 : decode b_G_seenAt 36 = .ok (.iaload, 1) := by decide +kernel
theorem d_G_seenAt_37 : decode b_G_seenAt 37 = .ok (.invokevirtual 89, 3) := by decide +kernel
theorem d_G_seenAt_40 : decode b_G_seenAt 40 = .ok (.ifCond .eq 6, 3) := by decide +kernel
theorem d_G_seenAt_43 : decode b_G_seenAt 43 = .ok (.iinc 4 (-1), 3) := by decide +kernel
theorem d_G_seenAt_46 : decode b_G_seenAt 46 = .ok (.iinc 5 1, 3) := by decide +kernel
theorem d_G_seenAt_49 : decode b_G_seenAt 49 = .ok (.goto (-43), 3) := by decide +kernel
theorem d_G_seenAt_52 : decode b_G_seenAt 52 = .ok (.iload 5, 2) := by decide +kernel
theorem d_G_seenAt_54 : decode b_G_seenAt 54 = .ok (.ireturn, 1) := by decide +kernel
theorem d_G_hang_0 : decode b_G_hang 0 = .ok (.aload_n 0, 1) := by decide +kernel
theorem d_G_hang_1 : decode b_G_hang 1 = .ok (.getfield 44, 3) := by decide +kernel
theorem d_G_hang_4 : decode b_G_hang 4 = .ok (.iload_n 1, 1) := by decide +kernel
theorem d_G_hang_5 : decode b_G_hang 5 = .ok (.iaload, 1) := by decide +kernel
theorem d_G_hang_6 : decode b_G_hang 6 = .ok (.istore_n 2, 1) := by decide +kernel
theorem d_G_hang_7 : decode b_G_hang 7 = .ok (.aload_n 0, 1) := by decide +kernel
theorem d_G_hang_8 : decode b_G_hang 8 = .ok (.iload_n 2, 1) := by decide +kernel
theorem d_G_hang_9 : decode b_G_hang 9 = .ok (.aload_n 0, 1) := by decide +kernel
theorem d_G_hang_10 : decode b_G_hang 10 = .ok (.getfield 56, 3) := by decide +kernel
theorem d_G_hang_13 : decode b_G_hang 13 = .ok (.iload_n 1, 1) := by decide +kernel
theorem d_G_hang_14 : decode b_G_hang 14 = .ok (.baload, 1) := by decide +kernel
theorem d_G_hang_15 : decode b_G_hang 15 = .ok (.invokevirtual 116, 3) := by decide +kernel
theorem d_G_hang_18 : decode b_G_hang 18 = .ok (.istore_n 3, 1) := by decide +kernel
theorem d_G_hang_19 : decode b_G_hang 19 = .ok (.iconst (-1), 1) := by decide +kernel
theorem d_G_hang_20 : decode b_G_hang 20 = .ok (.istore 4, 2) := by decide +kernel
theorem d_G_hang_22 : decode b_G_hang 22 = .ok (.iload_n 3, 1) := by decide +kernel
theorem d_G_hang_23 : decode b_G_hang 23 = .ok (.istore 5, 2) := by decide +kernel
theorem d_G_hang_25 : decode b_G_hang 25 = .ok (.iload 5, 2) := by decide +kernel
theorem d_G_hang_27 : decode b_G_hang 27 = .ok (.ifCond .lt 29, 3) := by decide +kernel
theorem d_G_hang_30 : decode b_G_hang 30 = .ok (.aload_n 0, 1) := by decide +kernel
theorem d_G_hang_31 : decode b_G_hang 31 = .ok (.iload 5, 2) := by decide +kernel
theorem d_G_hang_33 : decode b_G_hang 33 = .ok (.iload_n 1, 1) := by decide +kernel
theorem d_G_hang_34 : decode b_G_hang 34 = .ok (.invokevirtual 120, 3) := by decide +kernel
theorem d_G_hang_37 : decode b_G_hang 37 = .ok (.ifCond .eq 19, 3) := by decide +kernel
theorem d_G_hang_40 : decode b_G_hang 40 = .ok (.iload 5, 2) := by decide +kernel
theorem d_G_hang_42 : decode b_G_hang 42 = .ok (.istore 4, 2) := by decide +kernel
theorem d_G_hang_44 : decode b_G_hang 44 = .ok (.aload_n 0, 1) := by decide +kernel
theorem d_G_hang_45 : decode b_G_hang 45 = .ok (.getfield 47, 3) := by decide +kernel
theorem d_G_hang_48 : decode b_G_hang 48 = .ok (.iload 5, 2) := by decide +kernel
theorem d_G_hang_50 : decode b_G_hang 50 = .ok (.iaload, 1) := by decide +kernel
theorem d_G_hang_51 : decode b_G_hang 51 = .ok (.istore 5, 2) := by decide +kernel
theorem d_G_hang_53 : decode b_G_hang 53 = .ok (.goto (-28), 3) := by decide +kernel
theorem d_G_hang_56 : decode b_G_hang 56 = .ok (.iload 4, 2) := by decide +kernel
theorem d_G_hang_58 : decode b_G_hang 58 = .ok (.ifCond .lt 25, 3) := by decide +kernel
theorem d_G_hang_61 : decode b_G_hang 61 = .ok (.aload_n 0, 1) := by decide +kernel
theorem d_G_hang_62 : decode b_G_hang 62 = .ok (.getfield 47, 3) := by decide +kernel
theorem d_G_hang_65 : decode b_G_hang 65 = .ok (.iload_n 1, 1) := by decide +kernel
theorem d_G_hang_66 : decode b_G_hang 66 = .ok (.aload_n 0, 1) := by decide +kernel
theorem d_G_hang_67 : decode b_G_hang 67 = .ok (.getfield 47, 3) := by decide +kernel
theorem d_G_hang_70 : decode b_G_hang 70 = .ok (.iload 4, 2) := by decide +kernel
theorem d_G_hang_72 : decode b_G_hang 72 = .ok (.iaload, 1) := by decide +kernel
theorem d_G_hang_73 : decode b_G_hang 73 = .ok (.iastore, 1) := by decide +kernel
theorem d_G_hang_74 : decode b_G_hang 74 = .ok (.aload_n 0, 1) := by decide +kernel
theorem d_G_hang_75 : decode b_G_hang 75 = .ok (.getfield 47, 3) := by decide +kernel
theorem d_G_hang_78 : decode b_G_hang 78 = .ok (.iload 4, 2) := by decide +kernel
theorem d_G_hang_80 : decode b_G_hang 80 = .ok (.iload_n 1, 1) := by decide +kernel
theorem d_G_hang_81 : decode b_G_hang 81 = .ok (.iastore, 1) := by decide +kernel
theorem d_G_hang_82 : decode b_G_hang 82 = .ok (.return_, 1) := by decide +kernel
theorem d_G_hang_83 : decode b_G_hang 83 = .ok (.aload_n 0, 1) := by decide +kernel
theorem d_G_hang_84 : decode b_G_hang 84 = .ok (.getfield 47, 3) := by decide +kernel
theorem d_G_hang_87 : decode b_G_hang 87 = .ok (.iload_n 1, 1) := by decide +kernel
theorem d_G_hang_88 : decode b_G_hang 88 = .ok (.iload_n 3, 1) := by decide +kernel
theorem d_G_hang_89 : decode b_G_hang 89 = .ok (.iastore, 1) := by decide +kernel
theorem d_G_hang_90 : decode b_G_hang 90 = .ok (.iload_n 2, 1) := by decide +kernel
theorem d_G_hang_91 : decode b_G_hang 91 = .ok (.ifCond .ge 11, 3) := by decide +kernel
theorem d_G_hang_94 : decode b_G_hang 94 = .ok (.aload_n 0, 1) := by decide +kernel
theorem d_G_hang_95 : decode b_G_hang 95 = .ok (.iload_n 1, 1) := by decide +kernel
theorem d_G_hang_96 : decode b_G_hang 96 = .ok (.putfield 59, 3) := by decide +kernel
theorem d_G_hang_99 : decode b_G_hang 99 = .ok (.goto 29, 3) := by decide +kernel
theorem d_G_hang_102 : decode b_G_hang 102 = .ok (.aload_n 0, 1) := by decide +kernel
theorem d_G_hang_103 : decode b_G_hang 103 = .ok (.getfield 56, 3) := by decide +kernel
theorem d_G_hang_106 : decode b_G_hang 106 = .ok (.iload_n 1, 1) := by decide +kernel
theorem d_G_hang_107 : decode b_G_hang 107 = .ok (.baload, 1) := by decide +kernel
theorem d_G_hang_108 : decode b_G_hang 108 = .ok (.ifCond .eq 13, 3) := by decide +kernel
theorem d_G_hang_111 : decode b_G_hang 111 = .ok (.aload_n 0, 1) := by decide +kernel
theorem d_G_hang_112 : decode b_G_hang 112 = .ok (.getfield 53, 3) := by decide +kernel
theorem d_G_hang_115 : decode b_G_hang 115 = .ok (.iload_n 2, 1) := by decide +kernel
theorem d_G_hang_116 : decode b_G_hang 116 = .ok (.iload_n 1, 1) := by decide +kernel
theorem d_G_hang_117 : decode b_G_hang 117 = .ok (.iastore, 1) := by decide +kernel
theorem d_G_hang_118 : decode b_G_hang 118 = .ok (.goto 10, 3) := by decide +kernel
theorem d_G_hang_121 : decode b_G_hang 121 = .ok (.aload_n 0, 1) := by decide +kernel
theorem d_G_hang_122 : decode b_G_hang 122 = .ok (.getfield 50, 3) := by decide +kernel
theorem d_G_hang_125 : decode b_G_hang 125 = .ok (.iload_n 2, 1) := by decide +kernel
theorem d_G_hang_126 : decode b_G_hang 126 = .ok (.iload_n 1, 1) := by decide +kernel
theorem d_G_hang_127 : decode b_G_hang 127 = .ok (.iastore, 1) := by decide +kernel
theorem d_G_hang_128 : decode b_G_hang 128 = .ok (.return_, 1) := by decide +kernel
theorem d_G_childrenOf_0 : decode b_G_childrenOf 0 = .ok (.iload_n 1, 1) := by decide +kernel
theorem d_G_childrenOf_1 : decode b_G_childrenOf 1 = .ok (.ifCond .ge 10, 3) := by decide +kernel
theorem d_G_childrenOf_4 : decode b_G_childrenOf 4 = .ok (.aload_n 0, 1) := by decide +kernel
theorem d_G_childrenOf_5 : decode b_G_childrenOf 5 = .ok (.getfield 59, 3) := by decide +kernel
theorem d_G_childrenOf_8 : decode b_G_childrenOf 8 = .ok (.goto 22, 3) := by decide +kernel
theorem d_G_childrenOf_11 : decode b_G_childrenOf 11 = .ok (.iload_n 2, 1) := by decide +kernel
theorem d_G_childrenOf_12 : decode b_G_childrenOf 12 = .ok (.ifCond .eq 12, 3) := by decide +kernel
theorem d_G_childrenOf_15 : decode b_G_childrenOf 15 = .ok (.aload_n 0, 1) := by decide +kernel
theorem d_G_childrenOf_16 : decode b_G_childrenOf 16 = .ok (.getfield 53, 3) := by decide +kernel
theorem d_G_childrenOf_19 : decode b_G_childrenOf 19 = .ok (.iload_n 1, 1) := by decide +kernel
theorem d_G_childrenOf_20 : decode b_G_childrenOf 20 = .ok (.iaload, 1) := by decide +kernel
theorem d_G_childrenOf_21 : decode b_G_childrenOf 21 = .ok (.goto 9, 3) := by decide +kernel
theorem d_G_childrenOf_24 : decode b_G_childrenOf 24 = .ok (.aload_n 0, 1) := by decide +kernel
theorem d_G_childrenOf_25 : decode b_G_childrenOf 25 = .ok (.getfield 50, 3) := by decide +kernel
theorem d_G_childrenOf_28 : decode b_G_childrenOf 28 = .ok (.iload_n 1, 1) := by decide +kernel
theorem d_G_childrenOf_29 : decode b_G_childrenOf 29 = .ok (.iaload, 1) := by decide +kernel
theorem d_G_childrenOf_30 : decode b_G_childrenOf 30 = .ok (.ireturn, 1) := by decide +kernel
theorem d_G_placeOf_0 : decode b_G_placeOf 0 = .ok (.aload_n 0, 1) := by decide +kernel
theorem d_G_placeOf_1 : decode b_G_placeOf 1 = .ok (.getfield 44, 3) := by decide +kernel
theorem d_G_placeOf_4 : decode b_G_placeOf 4 = .ok (.iload_n 1, 1) := by decide +kernel
theorem d_G_placeOf_5 : decode b_G_placeOf 5 = .ok (.iaload, 1) := by decide +kernel
theorem d_G_placeOf_6 : decode b_G_placeOf 6 = .ok (.istore_n 2, 1) := by decide +kernel
theorem d_G_placeOf_7 : decode b_G_placeOf 7 = .ok (.aload_n 0, 1) := by decide +kernel
theorem d_G_placeOf_8 : decode b_G_placeOf 8 = .ok (.getfield 56, 3) := by decide +kernel
theorem d_G_placeOf_11 : decode b_G_placeOf 11 = .ok (.iload_n 1, 1) := by decide +kernel
theorem d_G_placeOf_12 : decode b_G_placeOf 12 = .ok (.baload, 1) := by decide +kernel
theorem d_G_placeOf_13 : decode b_G_placeOf 13 = .ok (.ifCond .ne 35, 3) := by decide +kernel
theorem d_G_placeOf_16 : decode b_G_placeOf 16 = .ok (.aload_n 0, 1) := by decide +kernel
theorem d_G_placeOf_17 : decode b_G_placeOf 17 = .ok (.getfield 47, 3) := by decide +kernel
theorem d_G_placeOf_20 : decode b_G_placeOf 20 = .ok (.iload_n 1, 1) := by decide +kernel
theorem d_G_placeOf_21 : decode b_G_placeOf 21 = .ok (.iaload, 1) := by decide +kernel
theorem d_G_placeOf_22 : decode b_G_placeOf 22 = .ok (.ifCond .lt 20, 3) := by decide +kernel
theorem d_G_placeOf_25 : decode b_G_placeOf 25 = .ok (.aload_n 0, 1) := by decide +kernel
theorem d_G_placeOf_26 : decode b_G_placeOf 26 = .ok (.aload_n 0, 1) := by decide +kernel
theorem d_G_placeOf_27 : decode b_G_placeOf 27 = .ok (.aload_n 0, 1) := by decide +kernel
theorem d_G_placeOf_28 : decode b_G_placeOf 28 = .ok (.getfield 47, 3) := by decide +kernel
theorem d_G_placeOf_31 : decode b_G_placeOf 31 = .ok (.iload_n 1, 1) := by decide +kernel
theorem d_G_placeOf_32 : decode b_G_placeOf 32 = .ok (.iaload, 1) := by decide +kernel
theorem d_G_placeOf_33 : decode b_G_placeOf 33 = .ok (.invokevirtual 124, 3) := by decide +kernel
theorem d_G_placeOf_36 : decode b_G_placeOf 36 = .ok (.invokevirtual 127, 3) := by decide +kernel
theorem d_G_placeOf_39 : decode b_G_placeOf 39 = .ok (.goto 8, 3) := by decide +kernel
theorem d_G_placeOf_42 : decode b_G_placeOf 42 = .ok (.aload_n 0, 1) := by decide +kernel
theorem d_G_placeOf_43 : decode b_G_placeOf 43 = .ok (.iload_n 2, 1) := by decide +kernel
theorem d_G_placeOf_44 : decode b_G_placeOf 44 = .ok (.invokevirtual 127, 3) := by decide +kernel
theorem d_G_placeOf_47 : decode b_G_placeOf 47 = .ok (.ireturn, 1) := by decide +kernel
theorem d_G_placeOf_48 : decode b_G_placeOf 48 = .ok (.iconst (-1), 1) := by decide +kernel
theorem d_G_placeOf_49 : decode b_G_placeOf 49 = .ok (.istore_n 3, 1) := by decide +kernel
theorem d_G_placeOf_50 : decode b_G_placeOf 50 = .ok (.aload_n 0, 1) := by decide +kernel
theorem d_G_placeOf_51 : decode b_G_placeOf 51 = .ok (.iload_n 2, 1) := by decide +kernel
theorem d_G_placeOf_52 : decode b_G_placeOf 52 = .ok (.iconst 1, 1) := by decide +kernel
theorem d_G_placeOf_53 : decode b_G_placeOf 53 = .ok (.invokevirtual 116, 3) := by decide +kernel
theorem d_G_placeOf_56 : decode b_G_placeOf 56 = .ok (.istore 4, 2) := by decide +kernel
theorem d_G_placeOf_58 : decode b_G_placeOf 58 = .ok (.iload 4, 2) := by decide +kernel
theorem d_G_placeOf_60 : decode b_G_placeOf 60 = .ok (.iload_n 1, 1) := by decide +kernel
theorem d_G_placeOf_61 : decode b_G_placeOf 61 = .ok (.if_icmp .eq 18, 3) := by decide +kernel
theorem d_G_placeOf_64 : decode b_G_placeOf 64 = .ok (.iload 4, 2) := by decide +kernel
theorem d_G_placeOf_66 : decode b_G_placeOf 66 = .ok (.istore_n 3, 1) := by decide +kernel
theorem d_G_placeOf_67 : decode b_G_placeOf 67 = .ok (.aload_n 0, 1) := by decide +kernel
theorem d_G_placeOf_68 : decode b_G_placeOf 68 = .ok (.getfield 47, 3) := by decide +kernel
theorem d_G_placeOf_71 : decode b_G_placeOf 71 = .ok (.iload 4, 2) := by decide +kernel
theorem d_G_placeOf_73 : decode b_G_placeOf 73 = .ok (.iaload, 1) := by decide +kernel
theorem d_G_placeOf_74 : decode b_G_placeOf 74 = .ok (.istore 4, 2) := by decide +kernel
theorem d_G_placeOf_76 : decode b_G_placeOf 76 = .ok (.goto (-18), 3) := by decide +kernel
theorem d_G_placeOf_79 : decode b_G_placeOf 79 = .ok (.iload_n 3, 1) := by decide +kernel
theorem d_G_placeOf_80 : decode b_G_placeOf 80 = .ok (.ifCond .lt 15, 3) := by decide +kernel
theorem d_G_placeOf_83 : decode b_G_placeOf 83 = .ok (.aload_n 0, 1) := by decide +kernel
theorem d_G_placeOf_84 : decode b_G_placeOf 84 = .ok (.aload_n 0, 1) := by decide +kernel
theorem d_G_placeOf_85 : decode b_G_placeOf 85 = .ok (.iload_n 3, 1) := by decide +kernel
theorem d_G_placeOf_86 : decode b_G_placeOf 86 = .ok (.invokevirtual 130, 3) := by decide +kernel
theorem d_G_placeOf_89 : decode b_G_placeOf 89 = .ok (.invokevirtual 127, 3) := by decide +kernel
theorem d_G_placeOf_92 : decode b_G_placeOf 92 = .ok (.iconst 1, 1) := by decide +kernel
theorem d_G_placeOf_93 : decode b_G_placeOf 93 = .ok (.iadd, 1) := by decide +kernel
theorem d_G_placeOf_94 : decode b_G_placeOf 94 = .ok (.ireturn, 1) := by decide +kernel
theorem d_G_placeOf_95 : decode b_G_placeOf 95 = .ok (.iload_n 2, 1) := by decide +kernel
theorem d_G_placeOf_96 : decode b_G_placeOf 96 = .ok (.ifCond .ge 7, 3) := by decide +kernel
theorem d_G_placeOf_99 : decode b_G_placeOf 99 = .ok (.iconst 0, 1) := by decide +kernel
theorem d_G_placeOf_100 : decode b_G_placeOf 100 = .ok (.goto 10, 3) := by decide +kernel
theorem d_G_placeOf_103 : decode b_G_placeOf 103 = .ok (.aload_n 0, 1) := by decide +kernel
theorem d_G_placeOf_104 : decode b_G_placeOf 104 = .ok (.iload_n 2, 1) := by decide +kernel
theorem d_G_placeOf_105 : decode b_G_placeOf 105 = .ok (.invokevirtual 127, 3) := by decide +kernel
theorem d_G_placeOf_108 : decode b_G_placeOf 108 = .ok (.iconst 1, 1) := by decide +kernel
theorem d_G_placeOf_109 : decode b_G_placeOf 109 = .ok (.iadd, 1) := by decide +kernel
theorem d_G_placeOf_110 : decode b_G_placeOf 110 = .ok (.ireturn, 1) := by decide +kernel
theorem d_G_firstOf_0 : decode b_G_firstOf 0 = .ok (.iload_n 1, 1) := by decide +kernel
theorem d_G_firstOf_1 : decode b_G_firstOf 1 = .ok (.istore_n 2, 1) := by decide +kernel
theorem d_G_firstOf_2 : decode b_G_firstOf 2 = .ok (.aload_n 0, 1) := by decide +kernel
theorem d_G_firstOf_3 : decode b_G_firstOf 3 = .ok (.getfield 50, 3) := by decide +kernel
theorem d_G_firstOf_6 : decode b_G_firstOf 6 = .ok (.iload_n 2, 1) := by decide +kernel
