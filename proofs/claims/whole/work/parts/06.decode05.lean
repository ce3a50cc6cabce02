theorem k142_0 : decode (q_mB 142) 0 = .ok (.aload_n 0, 1) := by decide +kernel
theorem k142_1 : decode (q_mB 142) 1 = .ok (.invokevirtual 173, 3) := by decide +kernel
theorem k142_4 : decode (q_mB 142) 4 = .ok (.ifCond .ne 10, 3) := by decide +kernel
theorem k142_7 : decode (q_mB 142) 7 = .ok (.aload_n 0, 1) := by decide +kernel
theorem k142_8 : decode (q_mB 142) 8 = .ok (.bipush (-3), 2) := by decide +kernel
theorem k142_10 : decode (q_mB 142) 10 = .ok (.invokevirtual 80, 3) := by decide +kernel
theorem k142_13 : decode (q_mB 142) 13 = .ok (.ireturn, 1) := by decide +kernel
theorem k142_14 : decode (q_mB 142) 14 = .ok (.aload_n 0, 1) := by decide +kernel
theorem k142_15 : decode (q_mB 142) 15 = .ok (.bipush (-9), 2) := by decide +kernel
theorem k142_17 : decode (q_mB 142) 17 = .ok (.invokevirtual 170, 3) := by decide +kernel
theorem k142_20 : decode (q_mB 142) 20 = .ok (.aload_n 0, 1) := by decide +kernel
theorem k142_21 : decode (q_mB 142) 21 = .ok (.getfield 144, 3) := by decide +kernel
theorem k142_24 : decode (q_mB 142) 24 = .ok (.ireturn, 1) := by decide +kernel
theorem k143_0 : decode (q_mB 143) 0 = .ok (.aload_n 0, 1) := by decide +kernel
theorem k143_1 : decode (q_mB 143) 1 = .ok (.iload_n 1, 1) := by decide +kernel
theorem k143_2 : decode (q_mB 143) 2 = .ok (.invokevirtual 96, 3) := by decide +kernel
theorem k143_5 : decode (q_mB 143) 5 = .ok (.ifCond .ne 9, 3) := by decide +kernel
theorem k143_8 : decode (q_mB 143) 8 = .ok (.aload_n 0, 1) := by decide +kernel
theorem k143_9 : decode (q_mB 143) 9 = .ok (.iconst (-1), 1) := by decide +kernel
theorem k143_10 : decode (q_mB 143) 10 = .ok (.invokevirtual 80, 3) := by decide +kernel
theorem k143_13 : decode (q_mB 143) 13 = .ok (.ireturn, 1) := by decide +kernel
theorem k143_14 : decode (q_mB 143) 14 = .ok (.aload_n 0, 1) := by decide +kernel
theorem k143_15 : decode (q_mB 143) 15 = .ok (.bipush (-9), 2) := by decide +kernel
theorem k143_17 : decode (q_mB 143) 17 = .ok (.invokevirtual 170, 3) := by decide +kernel
theorem k143_20 : decode (q_mB 143) 20 = .ok (.aload_n 0, 1) := by decide +kernel
theorem k143_21 : decode (q_mB 143) 21 = .ok (.getfield 55, 3) := by decide +kernel
theorem k143_24 : decode (q_mB 143) 24 = .ok (.iload_n 1, 1) := by decide +kernel
theorem k143_25 : decode (q_mB 143) 25 = .ok (.iaload, 1) := by decide +kernel
theorem k143_26 : decode (q_mB 143) 26 = .ok (.ireturn, 1) := by decide +kernel
theorem k144_0 : decode (q_mB 144) 0 = .ok (.aload_n 0, 1) := by decide +kernel
theorem k144_1 : decode (q_mB 144) 1 = .ok (.iload_n 1, 1) := by decide +kernel
theorem k144_2 : decode (q_mB 144) 2 = .ok (.invokevirtual 96, 3) := by decide +kernel
theorem k144_5 : decode (q_mB 144) 5 = .ok (.ifCond .ne 7, 3) := by decide +kernel
theorem k144_8 : decode (q_mB 144) 8 = .ok (.iconst (-1), 1) := by decide +kernel
theorem k144_9 : decode (q_mB 144) 9 = .ok (.goto 17, 3) := by decide +kernel
theorem k144_12 : decode (q_mB 144) 12 = .ok (.aload_n 0, 1) := by decide +kernel
theorem k144_13 : decode (q_mB 144) 13 = .ok (.iload_n 1, 1) := by decide +kernel
theorem k144_14 : decode (q_mB 144) 14 = .ok (.invokevirtual 106, 3) := by decide +kernel
theorem k144_17 : decode (q_mB 144) 17 = .ok (.ifCond .ne 7, 3) := by decide +kernel
theorem k144_20 : decode (q_mB 144) 20 = .ok (.iconst 0, 1) := by decide +kernel
theorem k144_21 : decode (q_mB 144) 21 = .ok (.goto 5, 3) := by decide +kernel
theorem k144_24 : decode (q_mB 144) 24 = .ok (.bipush (-3), 2) := by decide +kernel
theorem k144_26 : decode (q_mB 144) 26 = .ok (.istore_n 2, 1) := by decide +kernel
theorem k144_27 : decode (q_mB 144) 27 = .ok (.iload_n 2, 1) := by decide +kernel
theorem k144_28 : decode (q_mB 144) 28 = .ok (.ifCond .eq 9, 3) := by decide +kernel
theorem k144_31 : decode (q_mB 144) 31 = .ok (.aload_n 0, 1) := by decide +kernel
theorem k144_32 : decode (q_mB 144) 32 = .ok (.iload_n 2, 1) := by decide +kernel
theorem k144_33 : decode (q_mB 144) 33 = .ok (.invokevirtual 80, 3) := by decide +kernel
theorem k144_36 : decode (q_mB 144) 36 = .ok (.ireturn, 1) := by decide +kernel
theorem k144_37 : decode (q_mB 144) 37 = .ok (.aload_n 0, 1) := by decide +kernel
theorem k144_38 : decode (q_mB 144) 38 = .ok (.invokevirtual 177, 3) := by decide +kernel
theorem k144_41 : decode (q_mB 144) 41 = .ok (.istore_n 3, 1) := by decide +kernel
theorem k144_42 : decode (q_mB 144) 42 = .ok (.aload_n 0, 1) := by decide +kernel
theorem k144_43 : decode (q_mB 144) 43 = .ok (.getfield 13, 3) := by decide +kernel
theorem k144_46 : decode (q_mB 144) 46 = .ok (.bipush 45, 2) := by decide +kernel
theorem k144_48 : decode (q_mB 144) 48 = .ok (.iconst 3, 1) := by decide +kernel
theorem k144_49 : decode (q_mB 144) 49 = .ok (.iload_n 1, 1) := by decide +kernel
theorem k144_50 : decode (q_mB 144) 50 = .ok (.imul, 1) := by decide +kernel
theorem k144_51 : decode (q_mB 144) 51 = .ok (.iadd, 1) := by decide +kernel
theorem k144_52 : decode (q_mB 144) 52 = .ok (.iconst 1, 1) := by decide +kernel
theorem k144_53 : decode (q_mB 144) 53 = .ok (.iastore, 1) := by decide +kernel
theorem k144_54 : decode (q_mB 144) 54 = .ok (.aload_n 0, 1) := by decide +kernel
theorem k144_55 : decode (q_mB 144) 55 = .ok (.invokevirtual 177, 3) := by decide +kernel
theorem k144_58 : decode (q_mB 144) 58 = .ok (.istore 4, 2) := by decide +kernel
theorem k144_60 : decode (q_mB 144) 60 = .ok (.aload_n 0, 1) := by decide +kernel
theorem k144_61 : decode (q_mB 144) 61 = .ok (.getfield 13, 3) := by decide +kernel
theorem k144_64 : decode (q_mB 144) 64 = .ok (.bipush 45, 2) := by decide +kernel
theorem k144_66 : decode (q_mB 144) 66 = .ok (.iconst 3, 1) := by decide +kernel
theorem k144_67 : decode (q_mB 144) 67 = .ok (.iload_n 1, 1) := by decide +kernel
theorem k144_68 : decode (q_mB 144) 68 = .ok (.imul, 1) := by decide +kernel
theorem k144_69 : decode (q_mB 144) 69 = .ok (.iadd, 1) := by decide +kernel
theorem k144_70 : decode (q_mB 144) 70 = .ok (.iconst 0, 1) := by decide +kernel
theorem k144_71 : decode (q_mB 144) 71 = .ok (.iastore, 1) := by decide +kernel
theorem k144_72 : decode (q_mB 144) 72 = .ok (.iload_n 3, 1) := by decide +kernel
theorem k144_73 : decode (q_mB 144) 73 = .ok (.iload 4, 2) := by decide +kernel
theorem k144_75 : decode (q_mB 144) 75 = .ok (.isub, 1) := by decide +kernel
theorem k144_76 : decode (q_mB 144) 76 = .ok (.ireturn, 1) := by decide +kernel
theorem k145_0 : decode (q_mB 145) 0 = .ok (.aload_n 0, 1) := by decide +kernel
theorem k145_1 : decode (q_mB 145) 1 = .ok (.getfield 13, 3) := by decide +kernel
theorem k145_4 : decode (q_mB 145) 4 = .ok (.aload_n 0, 1) := by decide +kernel
theorem k145_5 : decode (q_mB 145) 5 = .ok (.getfield 58, 3) := by decide +kernel
theorem k145_8 : decode (q_mB 145) 8 = .ok (.invokestatic 202, 3) := by decide +kernel
theorem k145_11 : decode (q_mB 145) 11 = .ok (.iconst 0, 1) := by decide +kernel
theorem k145_12 : decode (q_mB 145) 12 = .ok (.istore_n 1, 1) := by decide +kernel
theorem k145_13 : decode (q_mB 145) 13 = .ok (.aload_n 0, 1) := by decide +kernel
theorem k145_14 : decode (q_mB 145) 14 = .ok (.getfield 13, 3) := by decide +kernel
theorem k145_17 : decode (q_mB 145) 17 = .ok (.iconst 2, 1) := by decide +kernel
theorem k145_18 : decode (q_mB 145) 18 = .ok (.iaload, 1) := by decide +kernel
theorem k145_19 : decode (q_mB 145) 19 = .ok (.istore_n 2, 1) := by decide +kernel
theorem k145_20 : decode (q_mB 145) 20 = .ok (.iload_n 2, 1) := by decide +kernel
theorem k145_21 : decode (q_mB 145) 21 = .ok (.ifCond .le 110, 3) := by decide +kernel
theorem k145_24 : decode (q_mB 145) 24 = .ok (.iload_n 1, 1) := by decide +kernel
theorem k145_25 : decode (q_mB 145) 25 = .ok (.ifCond .ne 106, 3) := by decide +kernel
theorem k145_28 : decode (q_mB 145) 28 = .ok (.iconst 0, 1) := by decide +kernel
theorem k145_29 : decode (q_mB 145) 29 = .ok (.istore_n 3, 1) := by decide +kernel
theorem k145_30 : decode (q_mB 145) 30 = .ok (.iload_n 3, 1) := by decide +kernel
theorem k145_31 : decode (q_mB 145) 31 = .ok (.aload_n 0, 1) := by decide +kernel
theorem k145_32 : decode (q_mB 145) 32 = .ok (.invokevirtual 64, 3) := by decide +kernel
theorem k145_35 : decode (q_mB 145) 35 = .ok (.if_icmp .ge 48, 3) := by decide +kernel
theorem k145_38 : decode (q_mB 145) 38 = .ok (.aload_n 0, 1) := by decide +kernel
theorem k145_39 : decode (q_mB 145) 39 = .ok (.iload_n 3, 1) := by decide +kernel
theorem k145_40 : decode (q_mB 145) 40 = .ok (.invokevirtual 106, 3) := by decide +kernel
theorem k145_43 : decode (q_mB 145) 43 = .ok (.iconst 2, 1) := by decide +kernel
theorem k145_44 : decode (q_mB 145) 44 = .ok (.if_icmp .eq 12, 3) := by decide +kernel
theorem k145_47 : decode (q_mB 145) 47 = .ok (.aload_n 0, 1) := by decide +kernel
theorem k145_48 : decode (q_mB 145) 48 = .ok (.iload_n 3, 1) := by decide +kernel
theorem k145_49 : decode (q_mB 145) 49 = .ok (.invokevirtual 106, 3) := by decide +kernel
theorem k145_52 : decode (q_mB 145) 52 = .ok (.iconst 3, 1) := by decide +kernel
theorem k145_53 : decode (q_mB 145) 53 = .ok (.if_icmp .ne 24, 3) := by decide +kernel
theorem k145_56 : decode (q_mB 145) 56 = .ok (.aload_n 0, 1) := by decide +kernel
theorem k145_57 : decode (q_mB 145) 57 = .ok (.iload_n 3, 1) := by decide +kernel
theorem k145_58 : decode (q_mB 145) 58 = .ok (.invokevirtual 109, 3) := by decide +kernel
theorem k145_61 : decode (q_mB 145) 61 = .ok (.iload_n 2, 1) := by decide +kernel
theorem k145_62 : decode (q_mB 145) 62 = .ok (.if_icmp .lt 15, 3) := by decide +kernel
theorem k145_65 : decode (q_mB 145) 65 = .ok (.aload_n 0, 1) := by decide +kernel
theorem k145_66 : decode (q_mB 145) 66 = .ok (.getfield 13, 3) := by decide +kernel
theorem k145_69 : decode (q_mB 145) 69 = .ok (.bipush 45, 2) := by decide +kernel
theorem k145_71 : decode (q_mB 145) 71 = .ok (.iconst 3, 1) := by decide +kernel
theorem k145_72 : decode (q_mB 145) 72 = .ok (.iload_n 3, 1) := by decide +kernel
theorem k145_73 : decode (q_mB 145) 73 = .ok (.imul, 1) := by decide +kernel
theorem k145_74 : decode (q_mB 145) 74 = .ok (.iadd, 1) := by decide +kernel
theorem k145_75 : decode (q_mB 145) 75 = .ok (.iconst 0, 1) := by decide +kernel
theorem k145_76 : decode (q_mB 145) 76 = .ok (.iastore, 1) := by decide +kernel
theorem k145_77 : decode (q_mB 145) 77 = .ok (.iinc 3 1, 3) := by decide +kernel
theorem k145_80 : decode (q_mB 145) 80 = .ok (.goto (-50), 3) := by decide +kernel
theorem k145_83 : decode (q_mB 145) 83 = .ok (.aload_n 0, 1) := by decide +kernel
theorem k145_84 : decode (q_mB 145) 84 = .ok (.getfield 13, 3) := by decide +kernel
theorem k145_87 : decode (q_mB 145) 87 = .ok (.iconst 2, 1) := by decide +kernel
theorem k145_88 : decode (q_mB 145) 88 = .ok (.iload_n 2, 1) := by decide +kernel
theorem k145_89 : decode (q_mB 145) 89 = .ok (.iastore, 1) := by decide +kernel
theorem k145_90 : decode (q_mB 145) 90 = .ok (.iconst 0, 1) := by decide +kernel
theorem k145_91 : decode (q_mB 145) 91 = .ok (.istore_n 3, 1) := by decide +kernel
theorem k145_92 : decode (q_mB 145) 92 = .ok (.iload_n 3, 1) := by decide +kernel
theorem k145_93 : decode (q_mB 145) 93 = .ok (.iload_n 2, 1) := by decide +kernel
theorem k145_94 : decode (q_mB 145) 94 = .ok (.if_icmp .ge 16, 3) := by decide +kernel
theorem k145_97 : decode (q_mB 145) 97 = .ok (.aload_n 0, 1) := by decide +kernel
theorem k145_98 : decode (q_mB 145) 98 = .ok (.getfield 43, 3) := by decide +kernel
theorem k145_101 : decode (q_mB 145) 101 = .ok (.iload_n 3, 1) := by decide +kernel
theorem k145_102 : decode (q_mB 145) 102 = .ok (.iload_n 3, 1) := by decide +kernel
theorem k145_103 : decode (q_mB 145) 103 = .ok (.iastore, 1) := by decide +kernel
theorem k145_104 : decode (q_mB 145) 104 = .ok (.iinc 3 1, 3) := by decide +kernel
theorem k145_107 : decode (q_mB 145) 107 = .ok (.goto (-15), 3) := by decide +kernel
theorem k145_110 : decode (q_mB 145) 110 = .ok (.aload_n 0, 1) := by decide +kernel
theorem k145_111 : decode (q_mB 145) 111 = .ok (.bipush (-9), 2) := by decide +kernel
theorem k145_113 : decode (q_mB 145) 113 = .ok (.invokevirtual 167, 3) := by decide +kernel
theorem k145_116 : decode (q_mB 145) 116 = .ok (.aload_n 0, 1) := by decide +kernel
theorem k145_117 : decode (q_mB 145) 117 = .ok (.getfield 147, 3) := by decide +kernel
theorem k145_120 : decode (q_mB 145) 120 = .ok (.ifCond .le 5, 3) := by decide +kernel
theorem k145_123 : decode (q_mB 145) 123 = .ok (.iload_n 2, 1) := by decide +kernel
theorem k145_124 : decode (q_mB 145) 124 = .ok (.istore_n 1, 1) := by decide +kernel
theorem k145_125 : decode (q_mB 145) 125 = .ok (.iinc 2 (-1), 3) := by decide +kernel
theorem k145_128 : decode (q_mB 145) 128 = .ok (.goto (-108), 3) := by decide +kernel
theorem k145_131 : decode (q_mB 145) 131 = .ok (.aload_n 0, 1) := by decide +kernel
theorem k145_132 : decode (q_mB 145) 132 = .ok (.getfield 58, 3) := by decide +kernel
theorem k145_135 : decode (q_mB 145) 135 = .ok (.aload_n 0, 1) := by decide +kernel
theorem k145_136 : decode (q_mB 145) 136 = .ok (.getfield 13, 3) := by decide +kernel
theorem k145_139 : decode (q_mB 145) 139 = .ok (.invokestatic 202, 3) := by decide +kernel
theorem k145_142 : decode (q_mB 145) 142 = .ok (.iload_n 1, 1) := by decide +kernel
theorem k145_143 : decode (q_mB 145) 143 = .ok (.ireturn, 1) := by decide +kernel
theorem k146_0 : decode (q_mB 146) 0 = .ok (.iconst 1, 1) := by decide +kernel
theorem k146_1 : decode (q_mB 146) 1 = .ok (.istore_n 3, 1) := by decide +kernel
theorem k146_2 : decode (q_mB 146) 2 = .ok (.iconst 1, 1) := by decide +kernel
theorem k146_3 : decode (q_mB 146) 3 = .ok (.istore 4, 2) := by decide +kernel
theorem k146_5 : decode (q_mB 146) 5 = .ok (.iconst 1, 1) := by decide +kernel
theorem k146_6 : decode (q_mB 146) 6 = .ok (.istore 5, 2) := by decide +kernel
theorem k146_8 : decode (q_mB 146) 8 = .ok (.iload 5, 2) := by decide +kernel
theorem k146_10 : decode (q_mB 146) 10 = .ok (.iload_n 0, 1) := by decide +kernel
theorem k146_11 : decode (q_mB 146) 11 = .ok (.if_icmp .gt 68, 3) := by decide +kernel
theorem k146_14 : decode (q_mB 146) 14 = .ok (.iconst 1, 1) := by decide +kernel
theorem k146_15 : decode (q_mB 146) 15 = .ok (.istore 6, 2) := by decide +kernel
theorem k146_17 : decode (q_mB 146) 17 = .ok (.iload 6, 2) := by decide +kernel
theorem k146_19 : decode (q_mB 146) 19 = .ok (.iload_n 1, 1) := by decide +kernel
theorem k146_20 : decode (q_mB 146) 20 = .ok (.if_icmp .gt 53, 3) := by decide +kernel
theorem k146_23 : decode (q_mB 146) 23 = .ok (.iload_n 3, 1) := by decide +kernel
theorem k146_24 : decode (q_mB 146) 24 = .ok (.iload 5, 2) := by decide +kernel
theorem k146_26 : decode (q_mB 146) 26 = .ok (.iload 6, 2) := by decide +kernel
theorem k146_28 : decode (q_mB 146) 28 = .ok (.iadd, 1) := by decide +kernel
theorem k146_29 : decode (q_mB 146) 29 = .ok (.iload_n 2, 1) := by decide +kernel
theorem k146_30 : decode (q_mB 146) 30 = .ok (.iadd, 1) := by decide +kernel
theorem k146_31 : decode (q_mB 146) 31 = .ok (.iconst 1, 1) := by decide +kernel
theorem k146_32 : decode (q_mB 146) 32 = .ok (.isub, 1) := by decide +kernel
theorem k146_33 : decode (q_mB 146) 33 = .ok (.imul, 1) := by decide +kernel
theorem k146_34 : decode (q_mB 146) 34 = .ok (.istore_n 3, 1) := by decide +kernel
theorem k146_35 : decode (q_mB 146) 35 = .ok (.iload 4, 2) := by decide +kernel
theorem k146_37 : decode (q_mB 146) 37 = .ok (.iload 5, 2) := by decide +kernel
theorem k146_39 : decode (q_mB 146) 39 = .ok (.iload 6, 2) := by decide +kernel
theorem k146_41 : decode (q_mB 146) 41 = .ok (.iadd, 1) := by decide +kernel
theorem k146_42 : decode (q_mB 146) 42 = .ok (.iconst 1, 1) := by decide +kernel
theorem k146_43 : decode (q_mB 146) 43 = .ok (.isub, 1) := by decide +kernel
theorem k146_44 : decode (q_mB 146) 44 = .ok (.imul, 1) := by decide +kernel
theorem k146_45 : decode (q_mB 146) 45 = .ok (.istore 4, 2) := by decide +kernel
theorem k146_47 : decode (q_mB 146) 47 = .ok (.iload_n 3, 1) := by decide +kernel
theorem k146_48 : decode (q_mB 146) 48 = .ok (.iload 4, 2) := by decide +kernel
theorem k146_50 : decode (q_mB 146) 50 = .ok (.invokestatic 187, 3) := by decide +kernel
theorem k146_53 : decode (q_mB 146) 53 = .ok (.istore 7, 2) := by decide +kernel
theorem k146_55 : decode (q_mB 146) 55 = .ok (.iload_n 3, 1) := by decide +kernel
theorem k146_56 : decode (q_mB 146) 56 = .ok (.iload 7, 2) := by decide +kernel
theorem k146_58 : decode (q_mB 146) 58 = .ok (.idiv, 1) := by decide +kernel
theorem k146_59 : decode (q_mB 146) 59 = .ok (.istore_n 3, 1) := by decide +kernel
theorem k146_60 : decode (q_mB 146) 60 = .ok (.iload 4, 2) := by decide +kernel
theorem k146_62 : decode (q_mB 146) 62 = .ok (.iload 7, 2) := by decide +kernel
theorem k146_64 : decode (q_mB 146) 64 = .ok (.idiv, 1) := by decide +kernel
theorem k146_65 : decode (q_mB 146) 65 = .ok (.istore 4, 2) := by decide +kernel
theorem k146_67 : decode (q_mB 146) 67 = .ok (.iinc 6 1, 3) := by decide +kernel
theorem k146_70 : decode (q_mB 146) 70 = .ok (.goto (-53), 3) := by decide +kernel
theorem k146_73 : decode (q_mB 146) 73 = .ok (.iinc 5 1, 3) := by decide +kernel
theorem k146_76 : decode (q_mB 146) 76 = .ok (.goto (-68), 3) := by decide +kernel
theorem k146_79 : decode (q_mB 146) 79 = .ok (.iload_n 3, 1) := by decide +kernel
theorem k146_80 : decode (q_mB 146) 80 = .ok (.iload 4, 2) := by decide +kernel
theorem k146_82 : decode (q_mB 146) 82 = .ok (.idiv, 1) := by decide +kernel
theorem k146_83 : decode (q_mB 146) 83 = .ok (.ireturn, 1) := by decide +kernel
theorem k147_0 : decode (q_mB 147) 0 = .ok (.iload_n 1, 1) := by decide +kernel
theorem k147_1 : decode (q_mB 147) 1 = .ok (.ifCond .lt 11, 3) := by decide +kernel
theorem k147_4 : decode (q_mB 147) 4 = .ok (.iload_n 2, 1) := by decide +kernel
theorem k147_5 : decode (q_mB 147) 5 = .ok (.ifCond .lt 7, 3) := by decide +kernel
theorem k147_8 : decode (q_mB 147) 8 = .ok (.iload_n 3, 1) := by decide +kernel
theorem k147_9 : decode (q_mB 147) 9 = .ok (.ifCond .ge 8, 3) := by decide +kernel
theorem k147_12 : decode (q_mB 147) 12 = .ok (.bipush (-4), 2) := by decide +kernel
theorem k147_14 : decode (q_mB 147) 14 = .ok (.goto 24, 3) := by decide +kernel
theorem k147_17 : decode (q_mB 147) 17 = .ok (.iload_n 1, 1) := by decide +kernel
theorem k147_18 : decode (q_mB 147) 18 = .ok (.iconst 4, 1) := by decide +kernel
theorem k147_19 : decode (q_mB 147) 19 = .ok (.if_icmp .gt 13, 3) := by decide +kernel
theorem k147_22 : decode (q_mB 147) 22 = .ok (.iload_n 2, 1) := by decide +kernel
theorem k147_23 : decode (q_mB 147) 23 = .ok (.iconst 4, 1) := by decide +kernel
theorem k147_24 : decode (q_mB 147) 24 = .ok (.if_icmp .gt 8, 3) := by decide +kernel
theorem k147_27 : decode (q_mB 147) 27 = .ok (.iload_n 3, 1) := by decide +kernel
theorem k147_28 : decode (q_mB 147) 28 = .ok (.iconst 4, 1) := by decide +kernel
theorem k147_29 : decode (q_mB 147) 29 = .ok (.if_icmp .le 8, 3) := by decide +kernel
theorem k147_32 : decode (q_mB 147) 32 = .ok (.bipush (-6), 2) := by decide +kernel
theorem k147_34 : decode (q_mB 147) 34 = .ok (.goto 4, 3) := by decide +kernel
theorem k147_37 : decode (q_mB 147) 37 = .ok (.iconst 0, 1) := by decide +kernel
theorem k147_38 : decode (q_mB 147) 38 = .ok (.istore 4, 2) := by decide +kernel
theorem k147_40 : decode (q_mB 147) 40 = .ok (.iload 4, 2) := by decide +kernel
theorem k147_42 : decode (q_mB 147) 42 = .ok (.ifCond .eq 12, 3) := by decide +kernel
theorem k147_45 : decode (q_mB 147) 45 = .ok (.aload_n 0, 1) := by decide +kernel
theorem k147_46 : decode (q_mB 147) 46 = .ok (.iload 4, 2) := by decide +kernel
theorem k147_48 : decode (q_mB 147) 48 = .ok (.invokevirtual 80, 3) := by decide +kernel
theorem k147_51 : decode (q_mB 147) 51 = .ok (.goto 9, 3) := by decide +kernel
theorem k147_54 : decode (q_mB 147) 54 = .ok (.iload_n 1, 1) := by decide +kernel
theorem k147_55 : decode (q_mB 147) 55 = .ok (.iload_n 2, 1) := by decide +kernel
theorem k147_56 : decode (q_mB 147) 56 = .ok (.iload_n 3, 1) := by decide +kernel
theorem k147_57 : decode (q_mB 147) 57 = .ok (.invokestatic 206, 3) := by decide +kernel
theorem k147_60 : decode (q_mB 147) 60 = .ok (.ireturn, 1) := by decide +kernel
theorem k148_0 : decode (q_mB 148) 0 = .ok (.aload_n 0, 1) := by decide +kernel
theorem k148_1 : decode (q_mB 148) 1 = .ok (.iload_n 1, 1) := by decide +kernel
theorem k148_2 : decode (q_mB 148) 2 = .ok (.invokevirtual 126, 3) := by decide +kernel
theorem k148_5 : decode (q_mB 148) 5 = .ok (.ifCond .ne 7, 3) := by decide +kernel
theorem k148_8 : decode (q_mB 148) 8 = .ok (.iconst (-1), 1) := by decide +kernel
theorem k148_9 : decode (q_mB 148) 9 = .ok (.goto 36, 3) := by decide +kernel
theorem k148_12 : decode (q_mB 148) 12 = .ok (.iload_n 2, 1) := by decide +kernel
theorem k148_13 : decode (q_mB 148) 13 = .ok (.iconst 2, 1) := by decide +kernel
theorem k148_14 : decode (q_mB 148) 14 = .ok (.invokestatic 68, 3) := by decide +kernel
theorem k148_17 : decode (q_mB 148) 17 = .ok (.ifCond .ne 8, 3) := by decide +kernel
theorem k148_20 : decode (q_mB 148) 20 = .ok (.bipush (-2), 2) := by decide +kernel
theorem k148_22 : decode (q_mB 148) 22 = .ok (.goto 23, 3) := by decide +kernel
theorem k148_25 : decode (q_mB 148) 25 = .ok (.aload_n 0, 1) := by decide +kernel
theorem k148_26 : decode (q_mB 148) 26 = .ok (.getfield 13, 3) := by decide +kernel
theorem k148_29 : decode (q_mB 148) 29 = .ok (.bipush 12, 2) := by decide +kernel
theorem k148_31 : decode (q_mB 148) 31 = .ok (.iload_n 1, 1) := by decide +kernel
theorem k148_32 : decode (q_mB 148) 32 = .ok (.iadd, 1) := by decide +kernel
theorem k148_33 : decode (q_mB 148) 33 = .ok (.iaload, 1) := by decide +kernel
theorem k148_34 : decode (q_mB 148) 34 = .ok (.bipush 10, 2) := by decide +kernel
theorem k148_36 : decode (q_mB 148) 36 = .ok (.if_icmp .ne 8, 3) := by decide +kernel
theorem k148_39 : decode (q_mB 148) 39 = .ok (.bipush (-6), 2) := by decide +kernel
theorem k148_41 : decode (q_mB 148) 41 = .ok (.goto 4, 3) := by decide +kernel
theorem k148_44 : decode (q_mB 148) 44 = .ok (.iconst 0, 1) := by decide +kernel
theorem k148_45 : decode (q_mB 148) 45 = .ok (.istore_n 3, 1) := by decide +kernel
theorem k148_46 : decode (q_mB 148) 46 = .ok (.iload_n 3, 1) := by decide +kernel
theorem k148_47 : decode (q_mB 148) 47 = .ok (.ifCond .eq 9, 3) := by decide +kernel
theorem k148_50 : decode (q_mB 148) 50 = .ok (.aload_n 0, 1) := by decide +kernel
theorem k148_51 : decode (q_mB 148) 51 = .ok (.iload_n 3, 1) := by decide +kernel
theorem k148_52 : decode (q_mB 148) 52 = .ok (.invokevirtual 80, 3) := by decide +kernel
theorem k148_55 : decode (q_mB 148) 55 = .ok (.ireturn, 1) := by decide +kernel
theorem k148_56 : decode (q_mB 148) 56 = .ok (.aload_n 0, 1) := by decide +kernel
theorem k148_57 : decode (q_mB 148) 57 = .ok (.getfield 13, 3) := by decide +kernel
theorem k148_60 : decode (q_mB 148) 60 = .ok (.bipush 15, 2) := by decide +kernel
theorem k148_62 : decode (q_mB 148) 62 = .ok (.bipush 10, 2) := by decide +kernel
theorem k148_64 : decode (q_mB 148) 64 = .ok (.iload_n 1, 1) := by decide +kernel
theorem k148_65 : decode (q_mB 148) 65 = .ok (.imul, 1) := by decide +kernel
theorem k148_66 : decode (q_mB 148) 66 = .ok (.iadd, 1) := by decide +kernel
theorem k148_67 : decode (q_mB 148) 67 = .ok (.aload_n 0, 1) := by decide +kernel
theorem k148_68 : decode (q_mB 148) 68 = .ok (.getfield 13, 3) := by decide +kernel
theorem k148_71 : decode (q_mB 148) 71 = .ok (.bipush 12, 2) := by decide +kernel
theorem k148_73 : decode (q_mB 148) 73 = .ok (.iload_n 1, 1) := by decide +kernel
theorem k148_74 : decode (q_mB 148) 74 = .ok (.iadd, 1) := by decide +kernel
theorem k148_75 : decode (q_mB 148) 75 = .ok (.iaload, 1) := by decide +kernel
theorem k148_76 : decode (q_mB 148) 76 = .ok (.iadd, 1) := by decide +kernel
theorem k148_77 : decode (q_mB 148) 77 = .ok (.iload_n 2, 1) := by decide +kernel
theorem k148_78 : decode (q_mB 148) 78 = .ok (.iastore, 1) := by decide +kernel
theorem k148_79 : decode (q_mB 148) 79 = .ok (.aload_n 0, 1) := by decide +kernel
theorem k148_80 : decode (q_mB 148) 80 = .ok (.getfield 13, 3) := by decide +kernel
theorem k148_83 : decode (q_mB 148) 83 = .ok (.bipush 12, 2) := by decide +kernel
theorem k148_85 : decode (q_mB 148) 85 = .ok (.iload_n 1, 1) := by decide +kernel
theorem k148_86 : decode (q_mB 148) 86 = .ok (.iadd, 1) := by decide +kernel
theorem k148_87 : decode (q_mB 148) 87 = .ok (.dup2, 1) := by decide +kernel
theorem k148_88 : decode (q_mB 148) 88 = .ok (.iaload, 1) := by decide +kernel
theorem k148_89 : decode (q_mB 148) 89 = .ok (.iconst 1, 1) := by decide +kernel
theorem k148_90 : decode (q_mB 148) 90 = .ok (.iadd, 1) := by decide +kernel
theorem k148_91 : decode (q_mB 148) 91 = .ok (.iastore, 1) := by decide +kernel
theorem k148_92 : decode (q_mB 148) 92 = .ok (.aload_n 0, 1) := by decide +kernel
theorem k148_93 : decode (q_mB 148) 93 = .ok (.getfield 13, 3) := by decide +kernel
theorem k148_96 : decode (q_mB 148) 96 = .ok (.bipush 12, 2) := by decide +kernel
theorem k148_98 : decode (q_mB 148) 98 = .ok (.iload_n 1, 1) := by decide +kernel
theorem k148_99 : decode (q_mB 148) 99 = .ok (.iadd, 1) := by decide +kernel
theorem k148_100 : decode (q_mB 148) 100 = .ok (.iaload, 1) := by decide +kernel
theorem k148_101 : decode (q_mB 148) 101 = .ok (.ireturn, 1) := by decide +kernel
theorem k149_0 : decode (q_mB 149) 0 = .ok (.aload_n 0, 1) := by decide +kernel
theorem k149_1 : decode (q_mB 149) 1 = .ok (.iconst 2, 1) := by decide +kernel
theorem k149_2 : decode (q_mB 149) 2 = .ok (.iload_n 1, 1) := by decide +kernel
theorem k149_3 : decode (q_mB 149) 3 = .ok (.invokevirtual 120, 3) := by decide +kernel
theorem k149_6 : decode (q_mB 149) 6 = .ok (.istore_n 2, 1) := by decide +kernel
theorem k149_7 : decode (q_mB 149) 7 = .ok (.iconst 1, 1) := by decide +kernel
theorem k149_8 : decode (q_mB 149) 8 = .ok (.iload_n 2, 1) := by decide +kernel
theorem k149_9 : decode (q_mB 149) 9 = .ok (.ishl, 1) := by decide +kernel
theorem k149_10 : decode (q_mB 149) 10 = .ok (.istore_n 3, 1) := by decide +kernel
theorem k149_11 : decode (q_mB 149) 11 = .ok (.iconst 0, 1) := by decide +kernel
theorem k149_12 : decode (q_mB 149) 12 = .ok (.istore 4, 2) := by decide +kernel
theorem k149_14 : decode (q_mB 149) 14 = .ok (.iload 4, 2) := by decide +kernel
theorem k149_16 : decode (q_mB 149) 16 = .ok (.aload_n 0, 1) := by decide +kernel
theorem k149_17 : decode (q_mB 149) 17 = .ok (.getfield 13, 3) := by decide +kernel
theorem k149_20 : decode (q_mB 149) 20 = .ok (.bipush 12, 2) := by decide +kernel
theorem k149_22 : decode (q_mB 149) 22 = .ok (.iload_n 1, 1) := by decide +kernel
theorem k149_23 : decode (q_mB 149) 23 = .ok (.iadd, 1) := by decide +kernel
theorem k149_24 : decode (q_mB 149) 24 = .ok (.iaload, 1) := by decide +kernel
theorem k149_25 : decode (q_mB 149) 25 = .ok (.if_icmp .ge 43, 3) := by decide +kernel
theorem k149_28 : decode (q_mB 149) 28 = .ok (.aload_n 0, 1) := by decide +kernel
theorem k149_29 : decode (q_mB 149) 29 = .ok (.iload_n 2, 1) := by decide +kernel
theorem k149_30 : decode (q_mB 149) 30 = .ok (.aload_n 0, 1) := by decide +kernel
theorem k149_31 : decode (q_mB 149) 31 = .ok (.getfield 13, 3) := by decide +kernel
theorem k149_34 : decode (q_mB 149) 34 = .ok (.bipush 15, 2) := by decide +kernel
theorem k149_36 : decode (q_mB 149) 36 = .ok (.bipush 10, 2) := by decide +kernel
theorem k149_38 : decode (q_mB 149) 38 = .ok (.iload_n 1, 1) := by decide +kernel
theorem k149_39 : decode (q_mB 149) 39 = .ok (.imul, 1) := by decide +kernel
theorem k149_40 : decode (q_mB 149) 40 = .ok (.iadd, 1) := by decide +kernel
theorem k149_41 : decode (q_mB 149) 41 = .ok (.iload 4, 2) := by decide +kernel
theorem k149_43 : decode (q_mB 149) 43 = .ok (.iadd, 1) := by decide +kernel
theorem k149_44 : decode (q_mB 149) 44 = .ok (.iaload, 1) := by decide +kernel
theorem k149_45 : decode (q_mB 149) 45 = .ok (.invokevirtual 112, 3) := by decide +kernel
theorem k149_48 : decode (q_mB 149) 48 = .ok (.istore_n 2, 1) := by decide +kernel
theorem k149_49 : decode (q_mB 149) 49 = .ok (.iload_n 2, 1) := by decide +kernel
theorem k149_50 : decode (q_mB 149) 50 = .ok (.ifCond .ge 6, 3) := by decide +kernel
theorem k149_53 : decode (q_mB 149) 53 = .ok (.iload 4, 2) := by decide +kernel
theorem k149_55 : decode (q_mB 149) 55 = .ok (.ireturn, 1) := by decide +kernel
theorem k149_56 : decode (q_mB 149) 56 = .ok (.iload_n 3, 1) := by decide +kernel
theorem k149_57 : decode (q_mB 149) 57 = .ok (.iconst 1, 1) := by decide +kernel
theorem k149_58 : decode (q_mB 149) 58 = .ok (.iload_n 2, 1) := by decide +kernel
theorem k149_59 : decode (q_mB 149) 59 = .ok (.ishl, 1) := by decide +kernel
theorem k149_60 : decode (q_mB 149) 60 = .ok (.ior, 1) := by decide +kernel
theorem k149_61 : decode (q_mB 149) 61 = .ok (.istore_n 3, 1) := by decide +kernel
theorem k149_62 : decode (q_mB 149) 62 = .ok (.iinc 4 1, 3) := by decide +kernel
theorem k149_65 : decode (q_mB 149) 65 = .ok (.goto (-51), 3) := by decide +kernel
theorem k149_68 : decode (q_mB 149) 68 = .ok (.aload_n 0, 1) := by decide +kernel
theorem k149_69 : decode (q_mB 149) 69 = .ok (.getfield 61, 3) := by decide +kernel
theorem k149_72 : decode (q_mB 149) 72 = .ok (.iload_n 1, 1) := by decide +kernel
theorem k149_73 : decode (q_mB 149) 73 = .ok (.iload_n 2, 1) := by decide +kernel
theorem k149_74 : decode (q_mB 149) 74 = .ok (.iastore, 1) := by decide +kernel
theorem k149_75 : decode (q_mB 149) 75 = .ok (.aload_n 0, 1) := by decide +kernel
theorem k149_76 : decode (q_mB 149) 76 = .ok (.iload_n 3, 1) := by decide +kernel
theorem k149_77 : decode (q_mB 149) 77 = .ok (.putfield 209, 3) := by decide +kernel
theorem k149_80 : decode (q_mB 149) 80 = .ok (.bipush (-9), 2) := by decide +kernel
theorem k149_82 : decode (q_mB 149) 82 = .ok (.ireturn, 1) := by decide +kernel
theorem k150_0 : decode (q_mB 150) 0 = .ok (.aload_n 0, 1) := by decide +kernel
theorem k150_1 : decode (q_mB 150) 1 = .ok (.invokevirtual 173, 3) := by decide +kernel
theorem k150_4 : decode (q_mB 150) 4 = .ok (.ifCond .ne 10, 3) := by decide +kernel
theorem k150_7 : decode (q_mB 150) 7 = .ok (.aload_n 0, 1) := by decide +kernel
theorem k150_8 : decode (q_mB 150) 8 = .ok (.bipush (-3), 2) := by decide +kernel
theorem k150_10 : decode (q_mB 150) 10 = .ok (.invokevirtual 80, 3) := by decide +kernel
theorem k150_13 : decode (q_mB 150) 13 = .ok (.ireturn, 1) := by decide +kernel
theorem k150_14 : decode (q_mB 150) 14 = .ok (.iconst 0, 1) := by decide +kernel
theorem k150_15 : decode (q_mB 150) 15 = .ok (.istore_n 1, 1) := by decide +kernel
theorem k150_16 : decode (q_mB 150) 16 = .ok (.iconst 0, 1) := by decide +kernel
theorem k150_17 : decode (q_mB 150) 17 = .ok (.istore_n 2, 1) := by decide +kernel
theorem k150_18 : decode (q_mB 150) 18 = .ok (.iconst 0, 1) := by decide +kernel
theorem k150_19 : decode (q_mB 150) 19 = .ok (.istore_n 3, 1) := by decide +kernel
theorem k150_20 : decode (q_mB 150) 20 = .ok (.iload_n 3, 1) := by decide +kernel
theorem k150_21 : decode (q_mB 150) 21 = .ok (.aload_n 0, 1) := by decide +kernel
theorem k150_22 : decode (q_mB 150) 22 = .ok (.getfield 13, 3) := by decide +kernel
theorem k150_25 : decode (q_mB 150) 25 = .ok (.iconst 2, 1) := by decide +kernel
theorem k150_26 : decode (q_mB 150) 26 = .ok (.iaload, 1) := by decide +kernel
theorem k150_27 : decode (q_mB 150) 27 = .ok (.if_icmp .ge 49, 3) := by decide +kernel
theorem k150_30 : decode (q_mB 150) 30 = .ok (.aload_n 0, 1) := by decide +kernel
theorem k150_31 : decode (q_mB 150) 31 = .ok (.iload_n 3, 1) := by decide +kernel
theorem k150_32 : decode (q_mB 150) 32 = .ok (.invokevirtual 212, 3) := by decide +kernel
theorem k150_35 : decode (q_mB 150) 35 = .ok (.istore 4, 2) := by decide +kernel
theorem k150_37 : decode (q_mB 150) 37 = .ok (.iload 4, 2) := by decide +kernel
theorem k150_39 : decode (q_mB 150) 39 = .ok (.ifCond .lt 15, 3) := by decide +kernel
theorem k150_42 : decode (q_mB 150) 42 = .ok (.sipush 1000, 3) := by decide +kernel
theorem k150_45 : decode (q_mB 150) 45 = .ok (.bipush 20, 2) := by decide +kernel
theorem k150_47 : decode (q_mB 150) 47 = .ok (.iload_n 3, 1) := by decide +kernel
theorem k150_48 : decode (q_mB 150) 48 = .ok (.imul, 1) := by decide +kernel
theorem k150_49 : decode (q_mB 150) 49 = .ok (.iadd, 1) := by decide +kernel
theorem k150_50 : decode (q_mB 150) 50 = .ok (.iload 4, 2) := by decide +kernel
theorem k150_52 : decode (q_mB 150) 52 = .ok (.iadd, 1) := by decide +kernel
theorem k150_53 : decode (q_mB 150) 53 = .ok (.ireturn, 1) := by decide +kernel
theorem k150_54 : decode (q_mB 150) 54 = .ok (.iload_n 2, 1) := by decide +kernel
theorem k150_55 : decode (q_mB 150) 55 = .ok (.iload_n 1, 1) := by decide +kernel
theorem k150_56 : decode (q_mB 150) 56 = .ok (.aload_n 0, 1) := by decide +kernel
theorem k150_57 : decode (q_mB 150) 57 = .ok (.getfield 209, 3) := by decide +kernel
theorem k150_60 : decode (q_mB 150) 60 = .ok (.iand, 1) := by decide +kernel
theorem k150_61 : decode (q_mB 150) 61 = .ok (.ior, 1) := by decide +kernel
theorem k150_62 : decode (q_mB 150) 62 = .ok (.istore_n 2, 1) := by decide +kernel
theorem k150_63 : decode (q_mB 150) 63 = .ok (.iload_n 1, 1) := by decide +kernel
theorem k150_64 : decode (q_mB 150) 64 = .ok (.aload_n 0, 1) := by decide +kernel
theorem k150_65 : decode (q_mB 150) 65 = .ok (.getfield 209, 3) := by decide +kernel
theorem k150_68 : decode (q_mB 150) 68 = .ok (.ior, 1) := by decide +kernel
theorem k150_69 : decode (q_mB 150) 69 = .ok (.istore_n 1, 1) := by decide +kernel
theorem k150_70 : decode (q_mB 150) 70 = .ok (.iinc 3 1, 3) := by decide +kernel
theorem k150_73 : decode (q_mB 150) 73 = .ok (.goto (-53), 3) := by decide +kernel
theorem k150_76 : decode (q_mB 150) 76 = .ok (.iconst 0, 1) := by decide +kernel
theorem k150_77 : decode (q_mB 150) 77 = .ok (.istore_n 3, 1) := by decide +kernel
theorem k150_78 : decode (q_mB 150) 78 = .ok (.iload_n 3, 1) := by decide +kernel
theorem k150_79 : decode (q_mB 150) 79 = .ok (.aload_n 0, 1) := by decide +kernel
theorem k150_80 : decode (q_mB 150) 80 = .ok (.getfield 13, 3) := by decide +kernel
theorem k150_83 : decode (q_mB 150) 83 = .ok (.iconst 2, 1) := by decide +kernel
theorem k150_84 : decode (q_mB 150) 84 = .ok (.iaload, 1) := by decide +kernel
theorem k150_85 : decode (q_mB 150) 85 = .ok (.if_icmp .ge 73, 3) := by decide +kernel
theorem k150_88 : decode (q_mB 150) 88 = .ok (.aload_n 0, 1) := by decide +kernel
theorem k150_89 : decode (q_mB 150) 89 = .ok (.aload_n 0, 1) := by decide +kernel
theorem k150_90 : decode (q_mB 150) 90 = .ok (.getfield 13, 3) := by decide +kernel
theorem k150_93 : decode (q_mB 150) 93 = .ok (.iconst 3, 1) := by decide +kernel
theorem k150_94 : decode (q_mB 150) 94 = .ok (.iaload, 1) := by decide +kernel
theorem k150_95 : decode (q_mB 150) 95 = .ok (.iload_n 3, 1) := by decide +kernel
theorem k150_96 : decode (q_mB 150) 96 = .ok (.invokevirtual 164, 3) := by decide +kernel
theorem k150_99 : decode (q_mB 150) 99 = .ok (.istore 4, 2) := by decide +kernel
theorem k150_101 : decode (q_mB 150) 101 = .ok (.aload_n 0, 1) := by decide +kernel
theorem k150_102 : decode (q_mB 150) 102 = .ok (.aload_n 0, 1) := by decide +kernel
theorem k150_103 : decode (q_mB 150) 103 = .ok (.getfield 61, 3) := by decide +kernel
theorem k150_106 : decode (q_mB 150) 106 = .ok (.iload_n 3, 1) := by decide +kernel
theorem k150_107 : decode (q_mB 150) 107 = .ok (.iaload, 1) := by decide +kernel
theorem k150_108 : decode (q_mB 150) 108 = .ok (.invokevirtual 106, 3) := by decide +kernel
theorem k150_111 : decode (q_mB 150) 111 = .ok (.iconst 3, 1) := by decide +kernel
theorem k150_112 : decode (q_mB 150) 112 = .ok (.if_icmp .ne 27, 3) := by decide +kernel
theorem k150_115 : decode (q_mB 150) 115 = .ok (.iload 4, 2) := by decide +kernel
theorem k150_117 : decode (q_mB 150) 117 = .ok (.ifCond .lt 18, 3) := by decide +kernel
theorem k150_120 : decode (q_mB 150) 120 = .ok (.aload_n 0, 1) := by decide +kernel
theorem k150_121 : decode (q_mB 150) 121 = .ok (.aload_n 0, 1) := by decide +kernel
theorem k150_122 : decode (q_mB 150) 122 = .ok (.getfield 61, 3) := by decide +kernel
theorem k150_125 : decode (q_mB 150) 125 = .ok (.iload_n 3, 1) := by decide +kernel
theorem k150_126 : decode (q_mB 150) 126 = .ok (.iaload, 1) := by decide +kernel
theorem k150_127 : decode (q_mB 150) 127 = .ok (.invokevirtual 109, 3) := by decide +kernel
theorem k150_130 : decode (q_mB 150) 130 = .ok (.iload 4, 2) := by decide +kernel
theorem k150_132 : decode (q_mB 150) 132 = .ok (.if_icmp .ne 7, 3) := by decide +kernel
theorem k150_135 : decode (q_mB 150) 135 = .ok (.iconst 1, 1) := by decide +kernel
theorem k150_136 : decode (q_mB 150) 136 = .ok (.goto 4, 3) := by decide +kernel
theorem k150_139 : decode (q_mB 150) 139 = .ok (.iconst 0, 1) := by decide +kernel
theorem k150_140 : decode (q_mB 150) 140 = .ok (.istore 5, 2) := by decide +kernel
theorem k150_142 : decode (q_mB 150) 142 = .ok (.iload 5, 2) := by decide +kernel
theorem k150_144 : decode (q_mB 150) 144 = .ok (.ifCond .ne 8, 3) := by decide +kernel
theorem k150_147 : decode (q_mB 150) 147 = .ok (.bipush 100, 2) := by decide +kernel
theorem k150_149 : decode (q_mB 150) 149 = .ok (.iload_n 3, 1) := by decide +kernel
theorem k150_150 : decode (q_mB 150) 150 = .ok (.iadd, 1) := by decide +kernel
theorem k150_151 : decode (q_mB 150) 151 = .ok (.ireturn, 1) := by decide +kernel
theorem k150_152 : decode (q_mB 150) 152 = .ok (.iinc 3 1, 3) := by decide +kernel
theorem k150_155 : decode (q_mB 150) 155 = .ok (.goto (-77), 3) := by decide +kernel
theorem k150_158 : decode (q_mB 150) 158 = .ok (.iload_n 2, 1) := by decide +kernel
theorem k150_159 : decode (q_mB 150) 159 = .ok (.ifCond .ne 6, 3) := by decide +kernel
theorem k150_162 : decode (q_mB 150) 162 = .ok (.bipush (-9), 2) := by decide +kernel
theorem k150_164 : decode (q_mB 150) 164 = .ok (.ireturn, 1) := by decide +kernel
theorem k150_165 : decode (q_mB 150) 165 = .ok (.iconst 0, 1) := by decide +kernel
theorem k150_166 : decode (q_mB 150) 166 = .ok (.istore_n 3, 1) := by decide +kernel
theorem k150_167 : decode (q_mB 150) 167 = .ok (.iload_n 2, 1) := by decide +kernel
theorem k150_168 : decode (q_mB 150) 168 = .ok (.iload_n 3, 1) := by decide +kernel
theorem k150_169 : decode (q_mB 150) 169 = .ok (.ishr, 1) := by decide +kernel
theorem k150_170 : decode (q_mB 150) 170 = .ok (.iconst 1, 1) := by decide +kernel
theorem k150_171 : decode (q_mB 150) 171 = .ok (.iand, 1) := by decide +kernel
theorem k150_172 : decode (q_mB 150) 172 = .ok (.ifCond .ne 9, 3) := by decide +kernel
theorem k150_175 : decode (q_mB 150) 175 = .ok (.iinc 3 1, 3) := by decide +kernel
theorem k150_178 : decode (q_mB 150) 178 = .ok (.goto (-11), 3) := by decide +kernel
theorem k150_181 : decode (q_mB 150) 181 = .ok (.iload_n 3, 1) := by decide +kernel
theorem k150_182 : decode (q_mB 150) 182 = .ok (.ireturn, 1) := by decide +kernel
theorem k151_0 : decode (q_mB 151) 0 = .ok (.iconst 0, 1) := by decide +kernel
theorem k151_1 : decode (q_mB 151) 1 = .ok (.istore_n 1, 1) := by decide +kernel
theorem k151_2 : decode (q_mB 151) 2 = .ok (.iconst 0, 1) := by decide +kernel
theorem k151_3 : decode (q_mB 151) 3 = .ok (.istore_n 2, 1) := by decide +kernel
theorem k151_4 : decode (q_mB 151) 4 = .ok (.iload_n 2, 1) := by decide +kernel
theorem k151_5 : decode (q_mB 151) 5 = .ok (.iconst 3, 1) := by decide +kernel
theorem k151_6 : decode (q_mB 151) 6 = .ok (.if_icmp .ge 31, 3) := by decide +kernel
theorem k151_9 : decode (q_mB 151) 9 = .ok (.iload_n 1, 1) := by decide +kernel
theorem k151_10 : decode (q_mB 151) 10 = .ok (.aload_n 0, 1) := by decide +kernel
theorem k151_11 : decode (q_mB 151) 11 = .ok (.getfield 13, 3) := by decide +kernel
theorem k151_14 : decode (q_mB 151) 14 = .ok (.bipush 12, 2) := by decide +kernel
theorem k151_16 : decode (q_mB 151) 16 = .ok (.iload_n 2, 1) := by decide +kernel
theorem k151_17 : decode (q_mB 151) 17 = .ok (.iadd, 1) := by decide +kernel
theorem k151_18 : decode (q_mB 151) 18 = .ok (.iaload, 1) := by decide +kernel
theorem k151_19 : decode (q_mB 151) 19 = .ok (.iadd, 1) := by decide +kernel
theorem k151_20 : decode (q_mB 151) 20 = .ok (.istore_n 1, 1) := by decide +kernel
theorem k151_21 : decode (q_mB 151) 21 = .ok (.aload_n 0, 1) := by decide +kernel
theorem k151_22 : decode (q_mB 151) 22 = .ok (.getfield 13, 3) := by decide +kernel
theorem k151_25 : decode (q_mB 151) 25 = .ok (.bipush 12, 2) := by decide +kernel
theorem k151_27 : decode (q_mB 151) 27 = .ok (.iload_n 2, 1) := by decide +kernel
theorem k151_28 : decode (q_mB 151) 28 = .ok (.iadd, 1) := by decide +kernel
theorem k151_29 : decode (q_mB 151) 29 = .ok (.iconst 0, 1) := by decide +kernel
theorem k151_30 : decode (q_mB 151) 30 = .ok (.iastore, 1) := by decide +kernel
theorem k151_31 : decode (q_mB 151) 31 = .ok (.iinc 2 1, 3) := by decide +kernel
theorem k151_34 : decode (q_mB 151) 34 = .ok (.goto (-30), 3) := by decide +kernel
theorem k151_37 : decode (q_mB 151) 37 = .ok (.aload_n 0, 1) := by decide +kernel
theorem k151_38 : decode (q_mB 151) 38 = .ok (.getfield 13, 3) := by decide +kernel
theorem k151_41 : decode (q_mB 151) 41 = .ok (.bipush 7, 2) := by decide +kernel
theorem k151_43 : decode (q_mB 151) 43 = .ok (.iconst 0, 1) := by decide +kernel
theorem k151_44 : decode (q_mB 151) 44 = .ok (.iastore, 1) := by decide +kernel
theorem k151_45 : decode (q_mB 151) 45 = .ok (.iload_n 1, 1) := by decide +kernel
theorem k151_46 : decode (q_mB 151) 46 = .ok (.ireturn, 1) := by decide +kernel
theorem k152_0 : decode (q_mB 152) 0 = .ok (.aload_n 0, 1) := by decide +kernel
theorem k152_1 : decode (q_mB 152) 1 = .ok (.getfield 13, 3) := by decide +kernel
theorem k152_4 : decode (q_mB 152) 4 = .ok (.aload_n 0, 1) := by decide +kernel
theorem k152_5 : decode (q_mB 152) 5 = .ok (.getfield 16, 3) := by decide +kernel
theorem k152_8 : decode (q_mB 152) 8 = .ok (.invokestatic 202, 3) := by decide +kernel
theorem k152_11 : decode (q_mB 152) 11 = .ok (.aload_n 0, 1) := by decide +kernel
theorem k152_12 : decode (q_mB 152) 12 = .ok (.iconst 1, 1) := by decide +kernel
theorem k152_13 : decode (q_mB 152) 13 = .ok (.putfield 215, 3) := by decide +kernel
theorem k152_16 : decode (q_mB 152) 16 = .ok (.aload_n 0, 1) := by decide +kernel
theorem k152_17 : decode (q_mB 152) 17 = .ok (.invokevirtual 64, 3) := by decide +kernel
theorem k152_20 : decode (q_mB 152) 20 = .ok (.ireturn, 1) := by decide +kernel
theorem k153_0 : decode (q_mB 153) 0 = .ok (.aload_n 0, 1) := by decide +kernel
theorem k153_1 : decode (q_mB 153) 1 = .ok (.getfield 215, 3) := by decide +kernel
theorem k153_4 : decode (q_mB 153) 4 = .ok (.ifCond .ne 10, 3) := by decide +kernel
theorem k153_7 : decode (q_mB 153) 7 = .ok (.aload_n 0, 1) := by decide +kernel
theorem k153_8 : decode (q_mB 153) 8 = .ok (.bipush (-3), 2) := by decide +kernel
theorem k153_10 : decode (q_mB 153) 10 = .ok (.invokevirtual 80, 3) := by decide +kernel
theorem k153_13 : decode (q_mB 153) 13 = .ok (.ireturn, 1) := by decide +kernel
theorem k153_14 : decode (q_mB 153) 14 = .ok (.aload_n 0, 1) := by decide +kernel
theorem k153_15 : decode (q_mB 153) 15 = .ok (.getfield 16, 3) := by decide +kernel
theorem k153_18 : decode (q_mB 153) 18 = .ok (.aload_n 0, 1) := by decide +kernel
theorem k153_19 : decode (q_mB 153) 19 = .ok (.getfield 13, 3) := by decide +kernel
theorem k153_22 : decode (q_mB 153) 22 = .ok (.invokestatic 202, 3) := by decide +kernel
theorem k153_25 : decode (q_mB 153) 25 = .ok (.aload_n 0, 1) := by decide +kernel
theorem k153_26 : decode (q_mB 153) 26 = .ok (.invokevirtual 64, 3) := by decide +kernel
theorem k153_29 : decode (q_mB 153) 29 = .ok (.ireturn, 1) := by decide +kernel
theorem k154_0 : decode (q_mB 154) 0 = .ok (.iload_n 1, 1) := by decide +kernel
theorem k154_1 : decode (q_mB 154) 1 = .ok (.bipush 10, 2) := by decide +kernel
theorem k154_3 : decode (q_mB 154) 3 = .ok (.if_icmp .le 19, 3) := by decide +kernel
theorem k154_6 : decode (q_mB 154) 6 = .ok (.iload_n 1, 1) := by decide +kernel
theorem k154_7 : decode (q_mB 154) 7 = .ok (.bipush 17, 2) := by decide +kernel
theorem k154_9 : decode (q_mB 154) 9 = .ok (.if_icmp .ge 13, 3) := by decide +kernel
theorem k154_12 : decode (q_mB 154) 12 = .ok (.aload_n 0, 1) := by decide +kernel
theorem k154_13 : decode (q_mB 154) 13 = .ok (.getfield 7, 3) := by decide +kernel
theorem k154_16 : decode (q_mB 154) 16 = .ok (.iload_n 1, 1) := by decide +kernel
theorem k154_17 : decode (q_mB 154) 17 = .ok (.bipush 10, 2) := by decide +kernel
theorem k154_19 : decode (q_mB 154) 19 = .ok (.isub, 1) := by decide +kernel
theorem k154_20 : decode (q_mB 154) 20 = .ok (.iaload, 1) := by decide +kernel
theorem k154_21 : decode (q_mB 154) 21 = .ok (.ireturn, 1) := by decide +kernel
theorem k154_22 : decode (q_mB 154) 22 = .ok (.iconst 0, 1) := by decide +kernel
theorem k154_23 : decode (q_mB 154) 23 = .ok (.istore_n 2, 1) := by decide +kernel
theorem k154_24 : decode (q_mB 154) 24 = .ok (.iload_n 1, 1) := by decide +kernel
theorem k154_25 : decode (q_mB 154) 25 = .ok (.tableswitch 114 0 7 #[47, 47, 47, 54, 89, 97, 102, 109], 47) := by decide +kernel
theorem k154_72 : decode (q_mB 154) 72 = .ok (.aload_n 0, 1) := by decide +kernel
theorem k154_73 : decode (q_mB 154) 73 = .ok (.getfield 13, 3) := by decide +kernel
theorem k154_76 : decode (q_mB 154) 76 = .ok (.iload_n 1, 1) := by decide +kernel
theorem k154_77 : decode (q_mB 154) 77 = .ok (.iaload, 1) := by decide +kernel
theorem k154_78 : decode (q_mB 154) 78 = .ok (.ireturn, 1) := by decide +kernel
theorem k154_79 : decode (q_mB 154) 79 = .ok (.iconst 0, 1) := by decide +kernel
theorem k154_80 : decode (q_mB 154) 80 = .ok (.istore_n 3, 1) := by decide +kernel
theorem k154_81 : decode (q_mB 154) 81 = .ok (.iload_n 3, 1) := by decide +kernel
theorem k154_82 : decode (q_mB 154) 82 = .ok (.aload_n 0, 1) := by decide +kernel
theorem k154_83 : decode (q_mB 154) 83 = .ok (.invokevirtual 64, 3) := by decide +kernel
theorem k154_86 : decode (q_mB 154) 86 = .ok (.if_icmp .ge 26, 3) := by decide +kernel
theorem k154_89 : decode (q_mB 154) 89 = .ok (.iload_n 2, 1) := by decide +kernel
theorem k154_90 : decode (q_mB 154) 90 = .ok (.aload_n 0, 1) := by decide +kernel
theorem k154_91 : decode (q_mB 154) 91 = .ok (.iload_n 3, 1) := by decide +kernel
theorem k154_92 : decode (q_mB 154) 92 = .ok (.invokevirtual 106, 3) := by decide +kernel
theorem k154_95 : decode (q_mB 154) 95 = .ok (.iconst 1, 1) := by decide +kernel
theorem k154_96 : decode (q_mB 154) 96 = .ok (.if_icmp .ne 7, 3) := by decide +kernel
theorem k154_99 : decode (q_mB 154) 99 = .ok (.iconst 1, 1) := by decide +kernel
theorem k154_100 : decode (q_mB 154) 100 = .ok (.goto 4, 3) := by decide +kernel
theorem k154_103 : decode (q_mB 154) 103 = .ok (.iconst 0, 1) := by decide +kernel
theorem k154_104 : decode (q_mB 154) 104 = .ok (.iadd, 1) := by decide +kernel
theorem k154_105 : decode (q_mB 154) 105 = .ok (.istore_n 2, 1) := by decide +kernel
theorem k154_106 : decode (q_mB 154) 106 = .ok (.iinc 3 1, 3) := by decide +kernel
theorem k154_109 : decode (q_mB 154) 109 = .ok (.goto (-28), 3) := by decide +kernel
theorem k154_112 : decode (q_mB 154) 112 = .ok (.iload_n 2, 1) := by decide +kernel
theorem k154_113 : decode (q_mB 154) 113 = .ok (.ireturn, 1) := by decide +kernel
theorem k154_114 : decode (q_mB 154) 114 = .ok (.aload_n 0, 1) := by decide +kernel
theorem k154_115 : decode (q_mB 154) 115 = .ok (.getfield 13, 3) := by decide +kernel
theorem k154_118 : decode (q_mB 154) 118 = .ok (.bipush 7, 2) := by decide +kernel
theorem k154_120 : decode (q_mB 154) 120 = .ok (.iaload, 1) := by decide +kernel
theorem k154_121 : decode (q_mB 154) 121 = .ok (.ireturn, 1) := by decide +kernel
theorem k154_122 : decode (q_mB 154) 122 = .ok (.aload_n 0, 1) := by decide +kernel
theorem k154_123 : decode (q_mB 154) 123 = .ok (.getfield 76, 3) := by decide +kernel
theorem k154_126 : decode (q_mB 154) 126 = .ok (.ireturn, 1) := by decide +kernel
theorem k154_127 : decode (q_mB 154) 127 = .ok (.aload_n 0, 1) := by decide +kernel
theorem k154_128 : decode (q_mB 154) 128 = .ok (.getfield 13, 3) := by decide +kernel
theorem k154_131 : decode (q_mB 154) 131 = .ok (.iconst 3, 1) := by decide +kernel
theorem k154_132 : decode (q_mB 154) 132 = .ok (.iaload, 1) := by decide +kernel
theorem k154_133 : decode (q_mB 154) 133 = .ok (.ireturn, 1) := by decide +kernel
theorem k154_134 : decode (q_mB 154) 134 = .ok (.aload_n 0, 1) := by decide +kernel
theorem k154_135 : decode (q_mB 154) 135 = .ok (.invokevirtual 103, 3) := by decide +kernel
theorem k154_138 : decode (q_mB 154) 138 = .ok (.ireturn, 1) := by decide +kernel
theorem k154_139 : decode (q_mB 154) 139 = .ok (.bipush (-9), 2) := by decide +kernel
theorem k154_141 : decode (q_mB 154) 141 = .ok (.ireturn, 1) := by decide +kernel
theorem k155_0 : decode (q_mB 155) 0 = .ok (.iload_n 0, 1) := by decide +kernel
theorem k155_1 : decode (q_mB 155) 1 = .ok (.iload_n 0, 1) := by decide +kernel
theorem k155_2 : decode (q_mB 155) 2 = .ok (.iconst 1, 1) := by decide +kernel
theorem k155_3 : decode (q_mB 155) 3 = .ok (.iushr, 1) := by decide +kernel
theorem k155_4 : decode (q_mB 155) 4 = .ok (.ldc_w 265, 3) := by decide +kernel
theorem k155_7 : decode (q_mB 155) 7 = .ok (.iand, 1) := by decide +kernel
theorem k155_8 : decode (q_mB 155) 8 = .ok (.isub, 1) := by decide +kernel
theorem k155_9 : decode (q_mB 155) 9 = .ok (.istore_n 0, 1) := by decide +kernel
theorem k155_10 : decode (q_mB 155) 10 = .ok (.iload_n 0, 1) := by decide +kernel
theorem k155_11 : decode (q_mB 155) 11 = .ok (.ldc_w 266, 3) := by decide +kernel
theorem k155_14 : decode (q_mB 155) 14 = .ok (.iand, 1) := by decide +kernel
theorem k155_15 : decode (q_mB 155) 15 = .ok (.iload_n 0, 1) := by decide +kernel
theorem k155_16 : decode (q_mB 155) 16 = .ok (.iconst 2, 1) := by decide +kernel
theorem k155_17 : decode (q_mB 155) 17 = .ok (.iushr, 1) := by decide +kernel
theorem k155_18 : decode (q_mB 155) 18 = .ok (.ldc_w 266, 3) := by decide +kernel
theorem k155_21 : decode (q_mB 155) 21 = .ok (.iand, 1) := by decide +kernel
theorem k155_22 : decode (q_mB 155) 22 = .ok (.iadd, 1) := by decide +kernel
theorem k155_23 : decode (q_mB 155) 23 = .ok (.istore_n 0, 1) := by decide +kernel
theorem k155_24 : decode (q_mB 155) 24 = .ok (.iload_n 0, 1) := by decide +kernel
theorem k155_25 : decode (q_mB 155) 25 = .ok (.iload_n 0, 1) := by decide +kernel
theorem k155_26 : decode (q_mB 155) 26 = .ok (.iconst 4, 1) := by decide +kernel
theorem k155_27 : decode (q_mB 155) 27 = .ok (.iushr, 1) := by decide +kernel
theorem k155_28 : decode (q_mB 155) 28 = .ok (.iadd, 1) := by decide +kernel
theorem k155_29 : decode (q_mB 155) 29 = .ok (.ldc_w 267, 3) := by decide +kernel
theorem k155_32 : decode (q_mB 155) 32 = .ok (.iand, 1) := by decide +kernel
theorem k155_33 : decode (q_mB 155) 33 = .ok (.istore_n 0, 1) := by decide +kernel
theorem k155_34 : decode (q_mB 155) 34 = .ok (.iload_n 0, 1) := by decide +kernel
theorem k155_35 : decode (q_mB 155) 35 = .ok (.iload_n 0, 1) := by decide +kernel
theorem k155_36 : decode (q_mB 155) 36 = .ok (.bipush 8, 2) := by decide +kernel
theorem k155_38 : decode (q_mB 155) 38 = .ok (.iushr, 1) := by decide +kernel
theorem k155_39 : decode (q_mB 155) 39 = .ok (.iadd, 1) := by decide +kernel
theorem k155_40 : decode (q_mB 155) 40 = .ok (.istore_n 0, 1) := by decide +kernel
theorem k155_41 : decode (q_mB 155) 41 = .ok (.iload_n 0, 1) := by decide +kernel
theorem k155_42 : decode (q_mB 155) 42 = .ok (.iload_n 0, 1) := by decide +kernel
theorem k155_43 : decode (q_mB 155) 43 = .ok (.bipush 16, 2) := by decide +kernel
theorem k155_45 : decode (q_mB 155) 45 = .ok (.iushr, 1) := by decide +kernel
theorem k155_46 : decode (q_mB 155) 46 = .ok (.iadd, 1) := by decide +kernel
theorem k155_47 : decode (q_mB 155) 47 = .ok (.istore_n 0, 1) := by decide +kernel
theorem k155_48 : decode (q_mB 155) 48 = .ok (.iload_n 0, 1) := by decide +kernel
theorem k155_49 : decode (q_mB 155) 49 = .ok (.bipush 63, 2) := by decide +kernel
theorem k155_51 : decode (q_mB 155) 51 = .ok (.iand, 1) := by decide +kernel
theorem k155_52 : decode (q_mB 155) 52 = .ok (.ireturn, 1) := by decide +kernel
theorem k156_0 : decode (q_mB 156) 0 = .ok (.iload_n 0, 1) := by decide +kernel
theorem k156_1 : decode (q_mB 156) 1 = .ok (.iload_n 1, 1) := by decide +kernel
theorem k156_2 : decode (q_mB 156) 2 = .ok (.if_icmp .lt 7, 3) := by decide +kernel
theorem k156_5 : decode (q_mB 156) 5 = .ok (.iload_n 0, 1) := by decide +kernel
theorem k156_6 : decode (q_mB 156) 6 = .ok (.goto 4, 3) := by decide +kernel
theorem k156_9 : decode (q_mB 156) 9 = .ok (.iload_n 1, 1) := by decide +kernel
theorem k156_10 : decode (q_mB 156) 10 = .ok (.ireturn, 1) := by decide +kernel
theorem k157_0 : decode (q_mB 157) 0 = .ok (.iload_n 0, 1) := by decide +kernel
theorem k157_1 : decode (q_mB 157) 1 = .ok (.iload_n 1, 1) := by decide +kernel
theorem k157_2 : decode (q_mB 157) 2 = .ok (.if_icmp .gt 7, 3) := by decide +kernel
theorem k157_5 : decode (q_mB 157) 5 = .ok (.iload_n 0, 1) := by decide +kernel
theorem k157_6 : decode (q_mB 157) 6 = .ok (.goto 4, 3) := by decide +kernel
theorem k157_9 : decode (q_mB 157) 9 = .ok (.iload_n 1, 1) := by decide +kernel
theorem k157_10 : decode (q_mB 157) 10 = .ok (.ireturn, 1) := by decide +kernel
theorem k158_0 : decode (q_mB 158) 0 = .ok (.iconst 0, 1) := by decide +kernel
theorem k158_1 : decode (q_mB 158) 1 = .ok (.istore_n 2, 1) := by decide +kernel
theorem k158_2 : decode (q_mB 158) 2 = .ok (.aload_n 0, 1) := by decide +kernel
theorem k158_3 : decode (q_mB 158) 3 = .ok (.arraylength, 1) := by decide +kernel
theorem k158_4 : decode (q_mB 158) 4 = .ok (.istore_n 3, 1) := by decide +kernel
theorem k158_5 : decode (q_mB 158) 5 = .ok (.iload_n 2, 1) := by decide +kernel
theorem k158_6 : decode (q_mB 158) 6 = .ok (.iload_n 3, 1) := by decide +kernel
theorem k158_7 : decode (q_mB 158) 7 = .ok (.if_icmp .ge 13, 3) := by decide +kernel
theorem k158_10 : decode (q_mB 158) 10 = .ok (.aload_n 0, 1) := by decide +kernel
theorem k158_11 : decode (q_mB 158) 11 = .ok (.iload_n 2, 1) := by decide +kernel
theorem k158_12 : decode (q_mB 158) 12 = .ok (.iload_n 1, 1) := by decide +kernel
theorem k158_13 : decode (q_mB 158) 13 = .ok (.iastore, 1) := by decide +kernel
theorem k158_14 : decode (q_mB 158) 14 = .ok (.iinc 2 1, 3) := by decide +kernel
theorem k158_17 : decode (q_mB 158) 17 = .ok (.goto (-12), 3) := by decide +kernel
theorem k158_20 : decode (q_mB 158) 20 = .ok (.return_, 1) := by decide +kernel
theorem k159_0 : decode (q_mB 159) 0 = .ok (.new 7, 3) := by decide +kernel
theorem k159_3 : decode (q_mB 159) 3 = .ok (.dup, 1) := by decide +kernel
theorem k159_4 : decode (q_mB 159) 4 = .ok (.invokespecial 9, 3) := by decide +kernel
theorem k159_7 : decode (q_mB 159) 7 = .ok (.astore_n 1, 1) := by decide +kernel
theorem k159_8 : decode (q_mB 159) 8 = .ok (.new 10, 3) := by decide +kernel
theorem k159_11 : decode (q_mB 159) 11 = .ok (.dup, 1) := by decide +kernel
theorem k159_12 : decode (q_mB 159) 12 = .ok (.invokespecial 12, 3) := by decide +kernel
theorem k159_15 : decode (q_mB 159) 15 = .ok (.astore_n 2, 1) := by decide +kernel
theorem k159_16 : decode (q_mB 159) 16 = .ok (.iconst 0, 1) := by decide +kernel
theorem k159_17 : decode (q_mB 159) 17 = .ok (.istore_n 3, 1) := by decide +kernel
theorem k159_18 : decode (q_mB 159) 18 = .ok (.iload_n 3, 1) := by decide +kernel
theorem k159_19 : decode (q_mB 159) 19 = .ok (.aload_n 0, 1) := by decide +kernel
theorem k159_20 : decode (q_mB 159) 20 = .ok (.arraylength, 1) := by decide +kernel
theorem k159_21 : decode (q_mB 159) 21 = .ok (.iconst 4, 1) := by decide +kernel
theorem k159_22 : decode (q_mB 159) 22 = .ok (.isub, 1) := by decide +kernel
theorem k159_23 : decode (q_mB 159) 23 = .ok (.if_icmp .gt 757, 3) := by decide +kernel
theorem k159_26 : decode (q_mB 159) 26 = .ok (.aload_n 0, 1) := by decide +kernel
theorem k159_27 : decode (q_mB 159) 27 = .ok (.iload_n 3, 1) := by decide +kernel
theorem k159_28 : decode (q_mB 159) 28 = .ok (.iaload, 1) := by decide +kernel
theorem k159_29 : decode (q_mB 159) 29 = .ok (.bipush 31, 2) := by decide +kernel
theorem k159_31 : decode (q_mB 159) 31 = .ok (.iand, 1) := by decide +kernel
theorem k159_32 : decode (q_mB 159) 32 = .ok (.tableswitch 742 0 27 #[128, 151, 164, 197, 220, 243, 276, 289, 302, 315, 338, 351, 384, 427, 470, 483, 496, 519, 532, 555, 578, 591, 634, 667, 680, 693, 706, 719], 128) := by decide +kernel
theorem k159_160 : decode (q_mB 159) 160 = .ok (.aload_n 1, 1) := by decide +kernel
theorem k159_161 : decode (q_mB 159) 161 = .ok (.aload_n 0, 1) := by decide +kernel
theorem k159_162 : decode (q_mB 159) 162 = .ok (.iload_n 3, 1) := by decide +kernel
theorem k159_163 : decode (q_mB 159) 163 = .ok (.iconst 1, 1) := by decide +kernel
theorem k159_164 : decode (q_mB 159) 164 = .ok (.iadd, 1) := by decide +kernel
theorem k159_165 : decode (q_mB 159) 165 = .ok (.iaload, 1) := by decide +kernel
theorem k159_166 : decode (q_mB 159) 166 = .ok (.invokevirtual 13, 3) := by decide +kernel
theorem k159_169 : decode (q_mB 159) 169 = .ok (.aload_n 2, 1) := by decide +kernel
theorem k159_170 : decode (q_mB 159) 170 = .ok (.aload_n 0, 1) := by decide +kernel
theorem k159_171 : decode (q_mB 159) 171 = .ok (.iload_n 3, 1) := by decide +kernel
theorem k159_172 : decode (q_mB 159) 172 = .ok (.iconst 1, 1) := by decide +kernel
theorem k159_173 : decode (q_mB 159) 173 = .ok (.iadd, 1) := by decide +kernel
theorem k159_174 : decode (q_mB 159) 174 = .ok (.iaload, 1) := by decide +kernel
theorem k159_175 : decode (q_mB 159) 175 = .ok (.invokevirtual 17, 3) := by decide +kernel
theorem k159_178 : decode (q_mB 159) 178 = .ok (.if_icmp .eq 596, 3) := by decide +kernel
theorem k159_181 : decode (q_mB 159) 181 = .ok (.iconst 0, 1) := by decide +kernel
theorem k159_182 : decode (q_mB 159) 182 = .ok (.ireturn, 1) := by decide +kernel
theorem k159_183 : decode (q_mB 159) 183 = .ok (.aload_n 1, 1) := by decide +kernel
theorem k159_184 : decode (q_mB 159) 184 = .ok (.invokevirtual 18, 3) := by decide +kernel
theorem k159_187 : decode (q_mB 159) 187 = .ok (.aload_n 2, 1) := by decide +kernel
theorem k159_188 : decode (q_mB 159) 188 = .ok (.invokevirtual 22, 3) := by decide +kernel
theorem k159_191 : decode (q_mB 159) 191 = .ok (.if_icmp .eq 583, 3) := by decide +kernel
theorem k159_194 : decode (q_mB 159) 194 = .ok (.iconst 0, 1) := by decide +kernel
theorem k159_195 : decode (q_mB 159) 195 = .ok (.ireturn, 1) := by decide +kernel
theorem k159_196 : decode (q_mB 159) 196 = .ok (.aload_n 1, 1) := by decide +kernel
theorem k159_197 : decode (q_mB 159) 197 = .ok (.aload_n 0, 1) := by decide +kernel
theorem k159_198 : decode (q_mB 159) 198 = .ok (.iload_n 3, 1) := by decide +kernel
theorem k159_199 : decode (q_mB 159) 199 = .ok (.iconst 1, 1) := by decide +kernel
theorem k159_200 : decode (q_mB 159) 200 = .ok (.iadd, 1) := by decide +kernel
theorem k159_201 : decode (q_mB 159) 201 = .ok (.iaload, 1) := by decide +kernel
theorem k159_202 : decode (q_mB 159) 202 = .ok (.aload_n 0, 1) := by decide +kernel
theorem k159_203 : decode (q_mB 159) 203 = .ok (.iload_n 3, 1) := by decide +kernel
theorem k159_204 : decode (q_mB 159) 204 = .ok (.iconst 2, 1) := by decide +kernel
theorem k159_205 : decode (q_mB 159) 205 = .ok (.iadd, 1) := by decide +kernel
theorem k159_206 : decode (q_mB 159) 206 = .ok (.iaload, 1) := by decide +kernel
theorem k159_207 : decode (q_mB 159) 207 = .ok (.invokevirtual 23, 3) := by decide +kernel
theorem k159_210 : decode (q_mB 159) 210 = .ok (.aload_n 2, 1) := by decide +kernel
theorem k159_211 : decode (q_mB 159) 211 = .ok (.aload_n 0, 1) := by decide +kernel
theorem k159_212 : decode (q_mB 159) 212 = .ok (.iload_n 3, 1) := by decide +kernel
theorem k159_213 : decode (q_mB 159) 213 = .ok (.iconst 1, 1) := by decide +kernel
theorem k159_214 : decode (q_mB 159) 214 = .ok (.iadd, 1) := by decide +kernel
theorem k159_215 : decode (q_mB 159) 215 = .ok (.iaload, 1) := by decide +kernel
theorem k159_216 : decode (q_mB 159) 216 = .ok (.aload_n 0, 1) := by decide +kernel
theorem k159_217 : decode (q_mB 159) 217 = .ok (.iload_n 3, 1) := by decide +kernel
theorem k159_218 : decode (q_mB 159) 218 = .ok (.iconst 2, 1) := by decide +kernel
theorem k159_219 : decode (q_mB 159) 219 = .ok (.iadd, 1) := by decide +kernel
theorem k159_220 : decode (q_mB 159) 220 = .ok (.iaload, 1) := by decide +kernel
theorem k159_221 : decode (q_mB 159) 221 = .ok (.invokevirtual 27, 3) := by decide +kernel
theorem k159_224 : decode (q_mB 159) 224 = .ok (.if_icmp .eq 550, 3) := by decide +kernel
theorem k159_227 : decode (q_mB 159) 227 = .ok (.iconst 0, 1) := by decide +kernel
theorem k159_228 : decode (q_mB 159) 228 = .ok (.ireturn, 1) := by decide +kernel
theorem k159_229 : decode (q_mB 159) 229 = .ok (.aload_n 1, 1) := by decide +kernel
theorem k159_230 : decode (q_mB 159) 230 = .ok (.aload_n 0, 1) := by decide +kernel
theorem k159_231 : decode (q_mB 159) 231 = .ok (.iload_n 3, 1) := by decide +kernel
theorem k159_232 : decode (q_mB 159) 232 = .ok (.iconst 1, 1) := by decide +kernel
theorem k159_233 : decode (q_mB 159) 233 = .ok (.iadd, 1) := by decide +kernel
theorem k159_234 : decode (q_mB 159) 234 = .ok (.iaload, 1) := by decide +kernel
theorem k159_235 : decode (q_mB 159) 235 = .ok (.invokevirtual 28, 3) := by decide +kernel
theorem k159_238 : decode (q_mB 159) 238 = .ok (.aload_n 2, 1) := by decide +kernel
theorem k159_239 : decode (q_mB 159) 239 = .ok (.aload_n 0, 1) := by decide +kernel
theorem k159_240 : decode (q_mB 159) 240 = .ok (.iload_n 3, 1) := by decide +kernel
theorem k159_241 : decode (q_mB 159) 241 = .ok (.iconst 1, 1) := by decide +kernel
theorem k159_242 : decode (q_mB 159) 242 = .ok (.iadd, 1) := by decide +kernel
theorem k159_243 : decode (q_mB 159) 243 = .ok (.iaload, 1) := by decide +kernel
theorem k159_244 : decode (q_mB 159) 244 = .ok (.invokevirtual 31, 3) := by decide +kernel
theorem k159_247 : decode (q_mB 159) 247 = .ok (.if_icmp .eq 527, 3) := by decide +kernel
theorem k159_250 : decode (q_mB 159) 250 = .ok (.iconst 0, 1) := by decide +kernel
theorem k159_251 : decode (q_mB 159) 251 = .ok (.ireturn, 1) := by decide +kernel
theorem k159_252 : decode (q_mB 159) 252 = .ok (.aload_n 1, 1) := by decide +kernel
theorem k159_253 : decode (q_mB 159) 253 = .ok (.aload_n 0, 1) := by decide +kernel
theorem k159_254 : decode (q_mB 159) 254 = .ok (.iload_n 3, 1) := by decide +kernel
theorem k159_255 : decode (q_mB 159) 255 = .ok (.iconst 1, 1) := by decide +kernel
theorem k159_256 : decode (q_mB 159) 256 = .ok (.iadd, 1) := by decide +kernel
theorem k159_257 : decode (q_mB 159) 257 = .ok (.iaload, 1) := by decide +kernel
theorem k159_258 : decode (q_mB 159) 258 = .ok (.invokevirtual 32, 3) := by decide +kernel
theorem k159_261 : decode (q_mB 159) 261 = .ok (.aload_n 2, 1) := by decide +kernel
theorem k159_262 : decode (q_mB 159) 262 = .ok (.aload_n 0, 1) := by decide +kernel
theorem k159_263 : decode (q_mB 159) 263 = .ok (.iload_n 3, 1) := by decide +kernel
theorem k159_264 : decode (q_mB 159) 264 = .ok (.iconst 1, 1) := by decide +kernel
theorem k159_265 : decode (q_mB 159) 265 = .ok (.iadd, 1) := by decide +kernel
theorem k159_266 : decode (q_mB 159) 266 = .ok (.iaload, 1) := by decide +kernel
theorem k159_267 : decode (q_mB 159) 267 = .ok (.invokevirtual 35, 3) := by decide +kernel
theorem k159_270 : decode (q_mB 159) 270 = .ok (.if_icmp .eq 504, 3) := by decide +kernel
theorem k159_273 : decode (q_mB 159) 273 = .ok (.iconst 0, 1) := by decide +kernel
theorem k159_274 : decode (q_mB 159) 274 = .ok (.ireturn, 1) := by decide +kernel
theorem k159_275 : decode (q_mB 159) 275 = .ok (.aload_n 1, 1) := by decide +kernel
theorem k159_276 : decode (q_mB 159) 276 = .ok (.aload_n 0, 1) := by decide +kernel
theorem k159_277 : decode (q_mB 159) 277 = .ok (.iload_n 3, 1) := by decide +kernel
theorem k159_278 : decode (q_mB 159) 278 = .ok (.iconst 1, 1) := by decide +kernel
theorem k159_279 : decode (q_mB 159) 279 = .ok (.iadd, 1) := by decide +kernel
theorem k159_280 : decode (q_mB 159) 280 = .ok (.iaload, 1) := by decide +kernel
theorem k159_281 : decode (q_mB 159) 281 = .ok (.aload_n 0, 1) := by decide +kernel
theorem k159_282 : decode (q_mB 159) 282 = .ok (.iload_n 3, 1) := by decide +kernel
theorem k159_283 : decode (q_mB 159) 283 = .ok (.iconst 2, 1) := by decide +kernel
theorem k159_284 : decode (q_mB 159) 284 = .ok (.iadd, 1) := by decide +kernel
theorem k159_285 : decode (q_mB 159) 285 = .ok (.iaload, 1) := by decide +kernel
theorem k159_286 : decode (q_mB 159) 286 = .ok (.invokevirtual 36, 3) := by decide +kernel
theorem k159_289 : decode (q_mB 159) 289 = .ok (.aload_n 2, 1) := by decide +kernel
theorem k159_290 : decode (q_mB 159) 290 = .ok (.aload_n 0, 1) := by decide +kernel
theorem k159_291 : decode (q_mB 159) 291 = .ok (.iload_n 3, 1) := by decide +kernel
theorem k159_292 : decode (q_mB 159) 292 = .ok (.iconst 1, 1) := by decide +kernel
theorem k159_293 : decode (q_mB 159) 293 = .ok (.iadd, 1) := by decide +kernel
theorem k159_294 : decode (q_mB 159) 294 = .ok (.iaload, 1) := by decide +kernel
theorem k159_295 : decode (q_mB 159) 295 = .ok (.aload_n 0, 1) := by decide +kernel
theorem k159_296 : decode (q_mB 159) 296 = .ok (.iload_n 3, 1) := by decide +kernel
theorem k159_297 : decode (q_mB 159) 297 = .ok (.iconst 2, 1) := by decide +kernel
theorem k159_298 : decode (q_mB 159) 298 = .ok (.iadd, 1) := by decide +kernel
theorem k159_299 : decode (q_mB 159) 299 = .ok (.iaload, 1) := by decide +kernel
theorem k159_300 : decode (q_mB 159) 300 = .ok (.invokevirtual 39, 3) := by decide +kernel
theorem k159_303 : decode (q_mB 159) 303 = .ok (.if_icmp .eq 471, 3) := by decide +kernel
theorem k159_306 : decode (q_mB 159) 306 = .ok (.iconst 0, 1) := by decide +kernel
theorem k159_307 : decode (q_mB 159) 307 = .ok (.ireturn, 1) := by decide +kernel
theorem k159_308 : decode (q_mB 159) 308 = .ok (.aload_n 1, 1) := by decide +kernel
theorem k159_309 : decode (q_mB 159) 309 = .ok (.invokevirtual 40, 3) := by decide +kernel
theorem k159_312 : decode (q_mB 159) 312 = .ok (.aload_n 2, 1) := by decide +kernel
theorem k159_313 : decode (q_mB 159) 313 = .ok (.invokevirtual 43, 3) := by decide +kernel
theorem k159_316 : decode (q_mB 159) 316 = .ok (.if_icmp .eq 458, 3) := by decide +kernel
theorem k159_319 : decode (q_mB 159) 319 = .ok (.iconst 0, 1) := by decide +kernel
theorem k159_320 : decode (q_mB 159) 320 = .ok (.ireturn, 1) := by decide +kernel
theorem k159_321 : decode (q_mB 159) 321 = .ok (.aload_n 1, 1) := by decide +kernel
theorem k159_322 : decode (q_mB 159) 322 = .ok (.invokevirtual 44, 3) := by decide +kernel
theorem k159_325 : decode (q_mB 159) 325 = .ok (.aload_n 2, 1) := by decide +kernel
theorem k159_326 : decode (q_mB 159) 326 = .ok (.invokevirtual 47, 3) := by decide +kernel
theorem k159_329 : decode (q_mB 159) 329 = .ok (.if_icmp .eq 445, 3) := by decide +kernel
theorem k159_332 : decode (q_mB 159) 332 = .ok (.iconst 0, 1) := by decide +kernel
theorem k159_333 : decode (q_mB 159) 333 = .ok (.ireturn, 1) := by decide +kernel
theorem k159_334 : decode (q_mB 159) 334 = .ok (.aload_n 1, 1) := by decide +kernel
theorem k159_335 : decode (q_mB 159) 335 = .ok (.invokevirtual 48, 3) := by decide +kernel
theorem k159_338 : decode (q_mB 159) 338 = .ok (.aload_n 2, 1) := by decide +kernel
theorem k159_339 : decode (q_mB 159) 339 = .ok (.invokevirtual 51, 3) := by decide +kernel
theorem k159_342 : decode (q_mB 159) 342 = .ok (.if_icmp .eq 432, 3) := by decide +kernel
theorem k159_345 : decode (q_mB 159) 345 = .ok (.iconst 0, 1) := by decide +kernel
theorem k159_346 : decode (q_mB 159) 346 = .ok (.ireturn, 1) := by decide +kernel
theorem k159_347 : decode (q_mB 159) 347 = .ok (.aload_n 1, 1) := by decide +kernel
theorem k159_348 : decode (q_mB 159) 348 = .ok (.aload_n 0, 1) := by decide +kernel
theorem k159_349 : decode (q_mB 159) 349 = .ok (.iload_n 3, 1) := by decide +kernel
theorem k159_350 : decode (q_mB 159) 350 = .ok (.iconst 1, 1) := by decide +kernel
theorem k159_351 : decode (q_mB 159) 351 = .ok (.iadd, 1) := by decide +kernel
theorem k159_352 : decode (q_mB 159) 352 = .ok (.iaload, 1) := by decide +kernel
theorem k159_353 : decode (q_mB 159) 353 = .ok (.invokevirtual 52, 3) := by decide +kernel
theorem k159_356 : decode (q_mB 159) 356 = .ok (.aload_n 2, 1) := by decide +kernel
theorem k159_357 : decode (q_mB 159) 357 = .ok (.aload_n 0, 1) := by decide +kernel
theorem k159_358 : decode (q_mB 159) 358 = .ok (.iload_n 3, 1) := by decide +kernel
theorem k159_359 : decode (q_mB 159) 359 = .ok (.iconst 1, 1) := by decide +kernel
theorem k159_360 : decode (q_mB 159) 360 = .ok (.iadd, 1) := by decide +kernel
theorem k159_361 : decode (q_mB 159) 361 = .ok (.iaload, 1) := by decide +kernel
theorem k159_362 : decode (q_mB 159) 362 = .ok (.invokevirtual 55, 3) := by decide +kernel
theorem k159_365 : decode (q_mB 159) 365 = .ok (.if_icmp .eq 409, 3) := by decide +kernel
theorem k159_368 : decode (q_mB 159) 368 = .ok (.iconst 0, 1) := by decide +kernel
theorem k159_369 : decode (q_mB 159) 369 = .ok (.ireturn, 1) := by decide +kernel
theorem k159_370 : decode (q_mB 159) 370 = .ok (.aload_n 1, 1) := by decide +kernel
theorem k159_371 : decode (q_mB 159) 371 = .ok (.invokevirtual 56, 3) := by decide +kernel
theorem k159_374 : decode (q_mB 159) 374 = .ok (.aload_n 2, 1) := by decide +kernel
theorem k159_375 : decode (q_mB 159) 375 = .ok (.invokevirtual 59, 3) := by decide +kernel
theorem k159_378 : decode (q_mB 159) 378 = .ok (.if_icmp .eq 396, 3) := by decide +kernel
theorem k159_381 : decode (q_mB 159) 381 = .ok (.iconst 0, 1) := by decide +kernel
theorem k159_382 : decode (q_mB 159) 382 = .ok (.ireturn, 1) := by decide +kernel
theorem k159_383 : decode (q_mB 159) 383 = .ok (.aload_n 1, 1) := by decide +kernel
theorem k159_384 : decode (q_mB 159) 384 = .ok (.aload_n 0, 1) := by decide +kernel
theorem k159_385 : decode (q_mB 159) 385 = .ok (.iload_n 3, 1) := by decide +kernel
theorem k159_386 : decode (q_mB 159) 386 = .ok (.iconst 1, 1) := by decide +kernel
theorem k159_387 : decode (q_mB 159) 387 = .ok (.iadd, 1) := by decide +kernel
theorem k159_388 : decode (q_mB 159) 388 = .ok (.iaload, 1) := by decide +kernel
theorem k159_389 : decode (q_mB 159) 389 = .ok (.aload_n 0, 1) := by decide +kernel
theorem k159_390 : decode (q_mB 159) 390 = .ok (.iload_n 3, 1) := by decide +kernel
theorem k159_391 : decode (q_mB 159) 391 = .ok (.iconst 2, 1) := by decide +kernel
theorem k159_392 : decode (q_mB 159) 392 = .ok (.iadd, 1) := by decide +kernel
theorem k159_393 : decode (q_mB 159) 393 = .ok (.iaload, 1) := by decide +kernel
theorem k159_394 : decode (q_mB 159) 394 = .ok (.invokevirtual 60, 3) := by decide +kernel
theorem k159_397 : decode (q_mB 159) 397 = .ok (.aload_n 2, 1) := by decide +kernel
theorem k159_398 : decode (q_mB 159) 398 = .ok (.aload_n 0, 1) := by decide +kernel
theorem k159_399 : decode (q_mB 159) 399 = .ok (.iload_n 3, 1) := by decide +kernel
theorem k159_400 : decode (q_mB 159) 400 = .ok (.iconst 1, 1) := by decide +kernel
theorem k159_401 : decode (q_mB 159) 401 = .ok (.iadd, 1) := by decide +kernel
theorem k159_402 : decode (q_mB 159) 402 = .ok (.iaload, 1) := by decide +kernel
theorem k159_403 : decode (q_mB 159) 403 = .ok (.aload_n 0, 1) := by decide +kernel
theorem k159_404 : decode (q_mB 159) 404 = .ok (.iload_n 3, 1) := by decide +kernel
theorem k159_405 : decode (q_mB 159) 405 = .ok (.iconst 2, 1) := by decide +kernel
theorem k159_406 : decode (q_mB 159) 406 = .ok (.iadd, 1) := by decide +kernel
theorem k159_407 : decode (q_mB 159) 407 = .ok (.iaload, 1) := by decide +kernel
theorem k159_408 : decode (q_mB 159) 408 = .ok (.invokevirtual 63, 3) := by decide +kernel
theorem k159_411 : decode (q_mB 159) 411 = .ok (.if_icmp .eq 363, 3) := by decide +kernel
theorem k159_414 : decode (q_mB 159) 414 = .ok (.iconst 0, 1) := by decide +kernel
theorem k159_415 : decode (q_mB 159) 415 = .ok (.ireturn, 1) := by decide +kernel
theorem k159_416 : decode (q_mB 159) 416 = .ok (.aload_n 1, 1) := by decide +kernel
theorem k159_417 : decode (q_mB 159) 417 = .ok (.aload_n 0, 1) := by decide +kernel
theorem k159_418 : decode (q_mB 159) 418 = .ok (.iload_n 3, 1) := by decide +kernel
theorem k159_419 : decode (q_mB 159) 419 = .ok (.iconst 1, 1) := by decide +kernel
theorem k159_420 : decode (q_mB 159) 420 = .ok (.iadd, 1) := by decide +kernel
theorem k159_421 : decode (q_mB 159) 421 = .ok (.iaload, 1) := by decide +kernel
theorem k159_422 : decode (q_mB 159) 422 = .ok (.aload_n 0, 1) := by decide +kernel
theorem k159_423 : decode (q_mB 159) 423 = .ok (.iload_n 3, 1) := by decide +kernel
theorem k159_424 : decode (q_mB 159) 424 = .ok (.iconst 2, 1) := by decide +kernel
theorem k159_425 : decode (q_mB 159) 425 = .ok (.iadd, 1) := by decide +kernel
theorem k159_426 : decode (q_mB 159) 426 = .ok (.iaload, 1) := by decide +kernel
theorem k159_427 : decode (q_mB 159) 427 = .ok (.aload_n 0, 1) := by decide +kernel
theorem k159_428 : decode (q_mB 159) 428 = .ok (.iload_n 3, 1) := by decide +kernel
theorem k159_429 : decode (q_mB 159) 429 = .ok (.iconst 3, 1) := by decide +kernel
theorem k159_430 : decode (q_mB 159) 430 = .ok (.iadd, 1) := by decide +kernel
theorem k159_431 : decode (q_mB 159) 431 = .ok (.iaload, 1) := by decide +kernel
theorem k159_432 : decode (q_mB 159) 432 = .ok (.invokevirtual 64, 3) := by decide +kernel
theorem k159_435 : decode (q_mB 159) 435 = .ok (.aload_n 2, 1) := by decide +kernel
theorem k159_436 : decode (q_mB 159) 436 = .ok (.aload_n 0, 1) := by decide +kernel
theorem k159_437 : decode (q_mB 159) 437 = .ok (.iload_n 3, 1) := by decide +kernel
theorem k159_438 : decode (q_mB 159) 438 = .ok (.iconst 1, 1) := by decide +kernel
theorem k159_439 : decode (q_mB 159) 439 = .ok (.iadd, 1) := by decide +kernel
theorem k159_440 : decode (q_mB 159) 440 = .ok (.iaload, 1) := by decide +kernel
theorem k159_441 : decode (q_mB 159) 441 = .ok (.aload_n 0, 1) := by decide +kernel
theorem k159_442 : decode (q_mB 159) 442 = .ok (.iload_n 3, 1) := by decide +kernel
theorem k159_443 : decode (q_mB 159) 443 = .ok (.iconst 2, 1) := by decide +kernel
theorem k159_444 : decode (q_mB 159) 444 = .ok (.iadd, 1) := by decide +kernel
theorem k159_445 : decode (q_mB 159) 445 = .ok (.iaload, 1) := by decide +kernel
theorem k159_446 : decode (q_mB 159) 446 = .ok (.aload_n 0, 1) := by decide +kernel
theorem k159_447 : decode (q_mB 159) 447 = .ok (.iload_n 3, 1) := by decide +kernel
theorem k159_448 : decode (q_mB 159) 448 = .ok (.iconst 3, 1) := by decide +kernel
theorem k159_449 : decode (q_mB 159) 449 = .ok (.iadd, 1) := by decide +kernel
theorem k159_450 : decode (q_mB 159) 450 = .ok (.iaload, 1) := by decide +kernel
theorem k159_451 : decode (q_mB 159) 451 = .ok (.invokevirtual 68, 3) := by decide +kernel
theorem k159_454 : decode (q_mB 159) 454 = .ok (.if_icmp .eq 320, 3) := by decide +kernel
theorem k159_457 : decode (q_mB 159) 457 = .ok (.iconst 0, 1) := by decide +kernel
theorem k159_458 : decode (q_mB 159) 458 = .ok (.ireturn, 1) := by decide +kernel
theorem k159_459 : decode (q_mB 159) 459 = .ok (.aload_n 1, 1) := by decide +kernel
theorem k159_460 : decode (q_mB 159) 460 = .ok (.aload_n 0, 1) := by decide +kernel
theorem k159_461 : decode (q_mB 159) 461 = .ok (.iload_n 3, 1) := by decide +kernel
theorem k159_462 : decode (q_mB 159) 462 = .ok (.iconst 1, 1) := by decide +kernel
theorem k159_463 : decode (q_mB 159) 463 = .ok (.iadd, 1) := by decide +kernel
theorem k159_464 : decode (q_mB 159) 464 = .ok (.iaload, 1) := by decide +kernel
theorem k159_465 : decode (q_mB 159) 465 = .ok (.aload_n 0, 1) := by decide +kernel
theorem k159_466 : decode (q_mB 159) 466 = .ok (.iload_n 3, 1) := by decide +kernel
theorem k159_467 : decode (q_mB 159) 467 = .ok (.iconst 2, 1) := by decide +kernel
theorem k159_468 : decode (q_mB 159) 468 = .ok (.iadd, 1) := by decide +kernel
theorem k159_469 : decode (q_mB 159) 469 = .ok (.iaload, 1) := by decide +kernel
theorem k159_470 : decode (q_mB 159) 470 = .ok (.aload_n 0, 1) := by decide +kernel
theorem k159_471 : decode (q_mB 159) 471 = .ok (.iload_n 3, 1) := by decide +kernel
theorem k159_472 : decode (q_mB 159) 472 = .ok (.iconst 3, 1) := by decide +kernel
theorem k159_473 : decode (q_mB 159) 473 = .ok (.iadd, 1) := by decide +kernel
theorem k159_474 : decode (q_mB 159) 474 = .ok (.iaload, 1) := by decide +kernel
theorem k159_475 : decode (q_mB 159) 475 = .ok (.invokevirtual 69, 3) := by decide +kernel
theorem k159_478 : decode (q_mB 159) 478 = .ok (.aload_n 2, 1) := by decide +kernel
theorem k159_479 : decode (q_mB 159) 479 = .ok (.aload_n 0, 1) := by decide +kernel
theorem k159_480 : decode (q_mB 159) 480 = .ok (.iload_n 3, 1) := by decide +kernel
theorem k159_481 : decode (q_mB 159) 481 = .ok (.iconst 1, 1) := by decide +kernel
theorem k159_482 : decode (q_mB 159) 482 = .ok (.iadd, 1) := by decide +kernel
theorem k159_483 : decode (q_mB 159) 483 = .ok (.iaload, 1) := by decide +kernel
theorem k159_484 : decode (q_mB 159) 484 = .ok (.aload_n 0, 1) := by decide +kernel
theorem k159_485 : decode (q_mB 159) 485 = .ok (.iload_n 3, 1) := by decide +kernel
theorem k159_486 : decode (q_mB 159) 486 = .ok (.iconst 2, 1) := by decide +kernel
theorem k159_487 : decode (q_mB 159) 487 = .ok (.iadd, 1) := by decide +kernel
theorem k159_488 : decode (q_mB 159) 488 = .ok (.iaload, 1) := by decide +kernel
theorem k159_489 : decode (q_mB 159) 489 = .ok (.aload_n 0, 1) := by decide +kernel
theorem k159_490 : decode (q_mB 159) 490 = .ok (.iload_n 3, 1) := by decide +kernel
theorem k159_491 : decode (q_mB 159) 491 = .ok (.iconst 3, 1) := by decide +kernel
theorem k159_492 : decode (q_mB 159) 492 = .ok (.iadd, 1) := by decide +kernel
theorem k159_493 : decode (q_mB 159) 493 = .ok (.iaload, 1) := by decide +kernel
theorem k159_494 : decode (q_mB 159) 494 = .ok (.invokevirtual 72, 3) := by decide +kernel
theorem k159_497 : decode (q_mB 159) 497 = .ok (.if_icmp .eq 277, 3) := by decide +kernel
theorem k159_500 : decode (q_mB 159) 500 = .ok (.iconst 0, 1) := by decide +kernel
theorem k159_501 : decode (q_mB 159) 501 = .ok (.ireturn, 1) := by decide +kernel
theorem k159_502 : decode (q_mB 159) 502 = .ok (.aload_n 1, 1) := by decide +kernel
theorem k159_503 : decode (q_mB 159) 503 = .ok (.invokevirtual 73, 3) := by decide +kernel
theorem k159_506 : decode (q_mB 159) 506 = .ok (.aload_n 2, 1) := by decide +kernel
theorem k159_507 : decode (q_mB 159) 507 = .ok (.invokevirtual 76, 3) := by decide +kernel
theorem k159_510 : decode (q_mB 159) 510 = .ok (.if_icmp .eq 264, 3) := by decide +kernel
theorem k159_513 : decode (q_mB 159) 513 = .ok (.iconst 0, 1) := by decide +kernel
theorem k159_514 : decode (q_mB 159) 514 = .ok (.ireturn, 1) := by decide +kernel
theorem k159_515 : decode (q_mB 159) 515 = .ok (.aload_n 1, 1) := by decide +kernel
theorem k159_516 : decode (q_mB 159) 516 = .ok (.invokevirtual 77, 3) := by decide +kernel
theorem k159_519 : decode (q_mB 159) 519 = .ok (.aload_n 2, 1) := by decide +kernel
theorem k159_520 : decode (q_mB 159) 520 = .ok (.invokevirtual 80, 3) := by decide +kernel
theorem k159_523 : decode (q_mB 159) 523 = .ok (.if_icmp .eq 251, 3) := by decide +kernel
theorem k159_526 : decode (q_mB 159) 526 = .ok (.iconst 0, 1) := by decide +kernel
theorem k159_527 : decode (q_mB 159) 527 = .ok (.ireturn, 1) := by decide +kernel
theorem k159_528 : decode (q_mB 159) 528 = .ok (.aload_n 1, 1) := by decide +kernel
theorem k159_529 : decode (q_mB 159) 529 = .ok (.aload_n 0, 1) := by decide +kernel
theorem k159_530 : decode (q_mB 159) 530 = .ok (.iload_n 3, 1) := by decide +kernel
theorem k159_531 : decode (q_mB 159) 531 = .ok (.iconst 1, 1) := by decide +kernel
theorem k159_532 : decode (q_mB 159) 532 = .ok (.iadd, 1) := by decide +kernel
theorem k159_533 : decode (q_mB 159) 533 = .ok (.iaload, 1) := by decide +kernel
theorem k159_534 : decode (q_mB 159) 534 = .ok (.invokevirtual 81, 3) := by decide +kernel
theorem k159_537 : decode (q_mB 159) 537 = .ok (.aload_n 2, 1) := by decide +kernel
theorem k159_538 : decode (q_mB 159) 538 = .ok (.aload_n 0, 1) := by decide +kernel
theorem k159_539 : decode (q_mB 159) 539 = .ok (.iload_n 3, 1) := by decide +kernel
theorem k159_540 : decode (q_mB 159) 540 = .ok (.iconst 1, 1) := by decide +kernel
theorem k159_541 : decode (q_mB 159) 541 = .ok (.iadd, 1) := by decide +kernel
theorem k159_542 : decode (q_mB 159) 542 = .ok (.iaload, 1) := by decide +kernel
theorem k159_543 : decode (q_mB 159) 543 = .ok (.invokevirtual 84, 3) := by decide +kernel
theorem k159_546 : decode (q_mB 159) 546 = .ok (.if_icmp .eq 228, 3) := by decide +kernel
theorem k159_549 : decode (q_mB 159) 549 = .ok (.iconst 0, 1) := by decide +kernel
theorem k159_550 : decode (q_mB 159) 550 = .ok (.ireturn, 1) := by decide +kernel
theorem k159_551 : decode (q_mB 159) 551 = .ok (.aload_n 1, 1) := by decide +kernel
theorem k159_552 : decode (q_mB 159) 552 = .ok (.invokevirtual 85, 3) := by decide +kernel
theorem k159_555 : decode (q_mB 159) 555 = .ok (.aload_n 2, 1) := by decide +kernel
theorem k159_556 : decode (q_mB 159) 556 = .ok (.invokevirtual 88, 3) := by decide +kernel
theorem k159_559 : decode (q_mB 159) 559 = .ok (.if_icmp .eq 215, 3) := by decide +kernel
theorem k159_562 : decode (q_mB 159) 562 = .ok (.iconst 0, 1) := by decide +kernel
theorem k159_563 : decode (q_mB 159) 563 = .ok (.ireturn, 1) := by decide +kernel
theorem k159_564 : decode (q_mB 159) 564 = .ok (.aload_n 1, 1) := by decide +kernel
theorem k159_565 : decode (q_mB 159) 565 = .ok (.aload_n 0, 1) := by decide +kernel
theorem k159_566 : decode (q_mB 159) 566 = .ok (.iload_n 3, 1) := by decide +kernel
theorem k159_567 : decode (q_mB 159) 567 = .ok (.iconst 1, 1) := by decide +kernel
theorem k159_568 : decode (q_mB 159) 568 = .ok (.iadd, 1) := by decide +kernel
theorem k159_569 : decode (q_mB 159) 569 = .ok (.iaload, 1) := by decide +kernel
theorem k159_570 : decode (q_mB 159) 570 = .ok (.invokevirtual 89, 3) := by decide +kernel
theorem k159_573 : decode (q_mB 159) 573 = .ok (.aload_n 2, 1) := by decide +kernel
theorem k159_574 : decode (q_mB 159) 574 = .ok (.aload_n 0, 1) := by decide +kernel
theorem k159_575 : decode (q_mB 159) 575 = .ok (.iload_n 3, 1) := by decide +kernel
theorem k159_576 : decode (q_mB 159) 576 = .ok (.iconst 1, 1) := by decide +kernel
theorem k159_577 : decode (q_mB 159) 577 = .ok (.iadd, 1) := by decide +kernel
theorem k159_578 : decode (q_mB 159) 578 = .ok (.iaload, 1) := by decide +kernel
theorem k159_579 : decode (q_mB 159) 579 = .ok (.invokevirtual 92, 3) := by decide +kernel
theorem k159_582 : decode (q_mB 159) 582 = .ok (.if_icmp .eq 192, 3) := by decide +kernel
theorem k159_585 : decode (q_mB 159) 585 = .ok (.iconst 0, 1) := by decide +kernel
theorem k159_586 : decode (q_mB 159) 586 = .ok (.ireturn, 1) := by decide +kernel
theorem k159_587 : decode (q_mB 159) 587 = .ok (.aload_n 1, 1) := by decide +kernel
theorem k159_588 : decode (q_mB 159) 588 = .ok (.aload_n 0, 1) := by decide +kernel
theorem k159_589 : decode (q_mB 159) 589 = .ok (.iload_n 3, 1) := by decide +kernel
theorem k159_590 : decode (q_mB 159) 590 = .ok (.iconst 1, 1) := by decide +kernel
theorem k159_591 : decode (q_mB 159) 591 = .ok (.iadd, 1) := by decide +kernel
theorem k159_592 : decode (q_mB 159) 592 = .ok (.iaload, 1) := by decide +kernel
theorem k159_593 : decode (q_mB 159) 593 = .ok (.invokevirtual 93, 3) := by decide +kernel
theorem k159_596 : decode (q_mB 159) 596 = .ok (.aload_n 2, 1) := by decide +kernel
theorem k159_597 : decode (q_mB 159) 597 = .ok (.aload_n 0, 1) := by decide +kernel
theorem k159_598 : decode (q_mB 159) 598 = .ok (.iload_n 3, 1) := by decide +kernel
theorem k159_599 : decode (q_mB 159) 599 = .ok (.iconst 1, 1) := by decide +kernel
theorem k159_600 : decode (q_mB 159) 600 = .ok (.iadd, 1) := by decide +kernel
theorem k159_601 : decode (q_mB 159) 601 = .ok (.iaload, 1) := by decide +kernel
theorem k159_602 : decode (q_mB 159) 602 = .ok (.invokevirtual 96, 3) := by decide +kernel
theorem k159_605 : decode (q_mB 159) 605 = .ok (.if_icmp .eq 169, 3) := by decide +kernel
theorem k159_608 : decode (q_mB 159) 608 = .ok (.iconst 0, 1) := by decide +kernel
theorem k159_609 : decode (q_mB 159) 609 = .ok (.ireturn, 1) := by decide +kernel
theorem k159_610 : decode (q_mB 159) 610 = .ok (.aload_n 1, 1) := by decide +kernel
theorem k159_611 : decode (q_mB 159) 611 = .ok (.invokevirtual 97, 3) := by decide +kernel
theorem k159_614 : decode (q_mB 159) 614 = .ok (.aload_n 2, 1) := by decide +kernel
theorem k159_615 : decode (q_mB 159) 615 = .ok (.invokevirtual 100, 3) := by decide +kernel
theorem k159_618 : decode (q_mB 159) 618 = .ok (.if_icmp .eq 156, 3) := by decide +kernel
theorem k159_621 : decode (q_mB 159) 621 = .ok (.iconst 0, 1) := by decide +kernel
theorem k159_622 : decode (q_mB 159) 622 = .ok (.ireturn, 1) := by decide +kernel
theorem k159_623 : decode (q_mB 159) 623 = .ok (.aload_n 1, 1) := by decide +kernel
theorem k159_624 : decode (q_mB 159) 624 = .ok (.aload_n 0, 1) := by decide +kernel
theorem k159_625 : decode (q_mB 159) 625 = .ok (.iload_n 3, 1) := by decide +kernel
theorem k159_626 : decode (q_mB 159) 626 = .ok (.iconst 1, 1) := by decide +kernel
theorem k159_627 : decode (q_mB 159) 627 = .ok (.iadd, 1) := by decide +kernel
theorem k159_628 : decode (q_mB 159) 628 = .ok (.iaload, 1) := by decide +kernel
theorem k159_629 : decode (q_mB 159) 629 = .ok (.aload_n 0, 1) := by decide +kernel
theorem k159_630 : decode (q_mB 159) 630 = .ok (.iload_n 3, 1) := by decide +kernel
theorem k159_631 : decode (q_mB 159) 631 = .ok (.iconst 2, 1) := by decide +kernel
theorem k159_632 : decode (q_mB 159) 632 = .ok (.iadd, 1) := by decide +kernel
theorem k159_633 : decode (q_mB 159) 633 = .ok (.iaload, 1) := by decide +kernel
theorem k159_634 : decode (q_mB 159) 634 = .ok (.aload_n 0, 1) := by decide +kernel
theorem k159_635 : decode (q_mB 159) 635 = .ok (.iload_n 3, 1) := by decide +kernel
theorem k159_636 : decode (q_mB 159) 636 = .ok (.iconst 3, 1) := by decide +kernel
theorem k159_637 : decode (q_mB 159) 637 = .ok (.iadd, 1) := by decide +kernel
theorem k159_638 : decode (q_mB 159) 638 = .ok (.iaload, 1) := by decide +kernel
theorem k159_639 : decode (q_mB 159) 639 = .ok (.invokevirtual 101, 3) := by decide +kernel
theorem k159_642 : decode (q_mB 159) 642 = .ok (.aload_n 2, 1) := by decide +kernel
theorem k159_643 : decode (q_mB 159) 643 = .ok (.aload_n 0, 1) := by decide +kernel
theorem k159_644 : decode (q_mB 159) 644 = .ok (.iload_n 3, 1) := by decide +kernel
theorem k159_645 : decode (q_mB 159) 645 = .ok (.iconst 1, 1) := by decide +kernel
theorem k159_646 : decode (q_mB 159) 646 = .ok (.iadd, 1) := by decide +kernel
theorem k159_647 : decode (q_mB 159) 647 = .ok (.iaload, 1) := by decide +kernel
theorem k159_648 : decode (q_mB 159) 648 = .ok (.aload_n 0, 1) := by decide +kernel
theorem k159_649 : decode (q_mB 159) 649 = .ok (.iload_n 3, 1) := by decide +kernel
theorem k159_650 : decode (q_mB 159) 650 = .ok (.iconst 2, 1) := by decide +kernel
theorem k159_651 : decode (q_mB 159) 651 = .ok (.iadd, 1) := by decide +kernel
theorem k159_652 : decode (q_mB 159) 652 = .ok (.iaload, 1) := by decide +kernel
theorem k159_653 : decode (q_mB 159) 653 = .ok (.aload_n 0, 1) := by decide +kernel
theorem k159_654 : decode (q_mB 159) 654 = .ok (.iload_n 3, 1) := by decide +kernel
theorem k159_655 : decode (q_mB 159) 655 = .ok (.iconst 3, 1) := by decide +kernel
theorem k159_656 : decode (q_mB 159) 656 = .ok (.iadd, 1) := by decide +kernel
theorem k159_657 : decode (q_mB 159) 657 = .ok (.iaload, 1) := by decide +kernel
theorem k159_658 : decode (q_mB 159) 658 = .ok (.invokevirtual 104, 3) := by decide +kernel
theorem k159_661 : decode (q_mB 159) 661 = .ok (.if_icmp .eq 113, 3) := by decide +kernel
theorem k159_664 : decode (q_mB 159) 664 = .ok (.iconst 0, 1) := by decide +kernel
theorem k159_665 : decode (q_mB 159) 665 = .ok (.ireturn, 1) := by decide +kernel
theorem k159_666 : decode (q_mB 159) 666 = .ok (.aload_n 1, 1) := by decide +kernel
theorem k159_667 : decode (q_mB 159) 667 = .ok (.aload_n 0, 1) := by decide +kernel
theorem k159_668 : decode (q_mB 159) 668 = .ok (.iload_n 3, 1) := by decide +kernel
theorem k159_669 : decode (q_mB 159) 669 = .ok (.iconst 1, 1) := by decide +kernel
theorem k159_670 : decode (q_mB 159) 670 = .ok (.iadd, 1) := by decide +kernel
theorem k159_671 : decode (q_mB 159) 671 = .ok (.iaload, 1) := by decide +kernel
theorem k159_672 : decode (q_mB 159) 672 = .ok (.aload_n 0, 1) := by decide +kernel
theorem k159_673 : decode (q_mB 159) 673 = .ok (.iload_n 3, 1) := by decide +kernel
theorem k159_674 : decode (q_mB 159) 674 = .ok (.iconst 2, 1) := by decide +kernel
theorem k159_675 : decode (q_mB 159) 675 = .ok (.iadd, 1) := by decide +kernel
theorem k159_676 : decode (q_mB 159) 676 = .ok (.iaload, 1) := by decide +kernel
theorem k159_677 : decode (q_mB 159) 677 = .ok (.invokevirtual 105, 3) := by decide +kernel
theorem k159_680 : decode (q_mB 159) 680 = .ok (.aload_n 2, 1) := by decide +kernel
theorem k159_681 : decode (q_mB 159) 681 = .ok (.aload_n 0, 1) := by decide +kernel
theorem k159_682 : decode (q_mB 159) 682 = .ok (.iload_n 3, 1) := by decide +kernel
theorem k159_683 : decode (q_mB 159) 683 = .ok (.iconst 1, 1) := by decide +kernel
theorem k159_684 : decode (q_mB 159) 684 = .ok (.iadd, 1) := by decide +kernel
theorem k159_685 : decode (q_mB 159) 685 = .ok (.iaload, 1) := by decide +kernel
theorem k159_686 : decode (q_mB 159) 686 = .ok (.aload_n 0, 1) := by decide +kernel
theorem k159_687 : decode (q_mB 159) 687 = .ok (.iload_n 3, 1) := by decide +kernel
theorem k159_688 : decode (q_mB 159) 688 = .ok (.iconst 2, 1) := by decide +kernel
theorem k159_689 : decode (q_mB 159) 689 = .ok (.iadd, 1) := by decide +kernel
theorem k159_690 : decode (q_mB 159) 690 = .ok (.iaload, 1) := by decide +kernel
theorem k159_691 : decode (q_mB 159) 691 = .ok (.invokevirtual 108, 3) := by decide +kernel
theorem k159_694 : decode (q_mB 159) 694 = .ok (.if_icmp .eq 80, 3) := by decide +kernel
theorem k159_697 : decode (q_mB 159) 697 = .ok (.iconst 0, 1) := by decide +kernel
theorem k159_698 : decode (q_mB 159) 698 = .ok (.ireturn, 1) := by decide +kernel
theorem k159_699 : decode (q_mB 159) 699 = .ok (.aload_n 1, 1) := by decide +kernel
theorem k159_700 : decode (q_mB 159) 700 = .ok (.invokevirtual 109, 3) := by decide +kernel
theorem k159_703 : decode (q_mB 159) 703 = .ok (.aload_n 2, 1) := by decide +kernel
theorem k159_704 : decode (q_mB 159) 704 = .ok (.invokevirtual 112, 3) := by decide +kernel
theorem k159_707 : decode (q_mB 159) 707 = .ok (.if_icmp .eq 67, 3) := by decide +kernel
theorem k159_710 : decode (q_mB 159) 710 = .ok (.iconst 0, 1) := by decide +kernel
theorem k159_711 : decode (q_mB 159) 711 = .ok (.ireturn, 1) := by decide +kernel
theorem k159_712 : decode (q_mB 159) 712 = .ok (.aload_n 1, 1) := by decide +kernel
theorem k159_713 : decode (q_mB 159) 713 = .ok (.invokevirtual 113, 3) := by decide +kernel
theorem k159_716 : decode (q_mB 159) 716 = .ok (.aload_n 2, 1) := by decide +kernel
theorem k159_717 : decode (q_mB 159) 717 = .ok (.invokevirtual 116, 3) := by decide +kernel
theorem k159_720 : decode (q_mB 159) 720 = .ok (.if_icmp .eq 54, 3) := by decide +kernel
theorem k159_723 : decode (q_mB 159) 723 = .ok (.iconst 0, 1) := by decide +kernel
theorem k159_724 : decode (q_mB 159) 724 = .ok (.ireturn, 1) := by decide +kernel
theorem k159_725 : decode (q_mB 159) 725 = .ok (.aload_n 1, 1) := by decide +kernel
theorem k159_726 : decode (q_mB 159) 726 = .ok (.invokevirtual 117, 3) := by decide +kernel
theorem k159_729 : decode (q_mB 159) 729 = .ok (.aload_n 2, 1) := by decide +kernel
theorem k159_730 : decode (q_mB 159) 730 = .ok (.invokevirtual 120, 3) := by decide +kernel
theorem k159_733 : decode (q_mB 159) 733 = .ok (.if_icmp .eq 41, 3) := by decide +kernel
theorem k159_736 : decode (q_mB 159) 736 = .ok (.iconst 0, 1) := by decide +kernel
theorem k159_737 : decode (q_mB 159) 737 = .ok (.ireturn, 1) := by decide +kernel
theorem k159_738 : decode (q_mB 159) 738 = .ok (.aload_n 1, 1) := by decide +kernel
theorem k159_739 : decode (q_mB 159) 739 = .ok (.invokevirtual 121, 3) := by decide +kernel
theorem k159_742 : decode (q_mB 159) 742 = .ok (.aload_n 2, 1) := by decide +kernel
theorem k159_743 : decode (q_mB 159) 743 = .ok (.invokevirtual 124, 3) := by decide +kernel
theorem k159_746 : decode (q_mB 159) 746 = .ok (.if_icmp .eq 28, 3) := by decide +kernel
theorem k159_749 : decode (q_mB 159) 749 = .ok (.iconst 0, 1) := by decide +kernel
theorem k159_750 : decode (q_mB 159) 750 = .ok (.ireturn, 1) := by decide +kernel
theorem k159_751 : decode (q_mB 159) 751 = .ok (.aload_n 1, 1) := by decide +kernel
theorem k159_752 : decode (q_mB 159) 752 = .ok (.aload_n 0, 1) := by decide +kernel
theorem k159_753 : decode (q_mB 159) 753 = .ok (.iload_n 3, 1) := by decide +kernel
theorem k159_754 : decode (q_mB 159) 754 = .ok (.iconst 1, 1) := by decide +kernel
theorem k159_755 : decode (q_mB 159) 755 = .ok (.iadd, 1) := by decide +kernel
theorem k159_756 : decode (q_mB 159) 756 = .ok (.iaload, 1) := by decide +kernel
theorem k159_757 : decode (q_mB 159) 757 = .ok (.invokevirtual 125, 3) := by decide +kernel
theorem k159_760 : decode (q_mB 159) 760 = .ok (.aload_n 2, 1) := by decide +kernel
theorem k159_761 : decode (q_mB 159) 761 = .ok (.aload_n 0, 1) := by decide +kernel
theorem k159_762 : decode (q_mB 159) 762 = .ok (.iload_n 3, 1) := by decide +kernel
theorem k159_763 : decode (q_mB 159) 763 = .ok (.iconst 1, 1) := by decide +kernel
theorem k159_764 : decode (q_mB 159) 764 = .ok (.iadd, 1) := by decide +kernel
theorem k159_765 : decode (q_mB 159) 765 = .ok (.iaload, 1) := by decide +kernel
theorem k159_766 : decode (q_mB 159) 766 = .ok (.invokevirtual 128, 3) := by decide +kernel
theorem k159_769 : decode (q_mB 159) 769 = .ok (.if_icmp .eq 5, 3) := by decide +kernel
theorem k159_772 : decode (q_mB 159) 772 = .ok (.iconst 0, 1) := by decide +kernel
theorem k159_773 : decode (q_mB 159) 773 = .ok (.ireturn, 1) := by decide +kernel
theorem k159_774 : decode (q_mB 159) 774 = .ok (.iinc 3 4, 3) := by decide +kernel
theorem k159_777 : decode (q_mB 159) 777 = .ok (.goto (-759), 3) := by decide +kernel
theorem k159_780 : decode (q_mB 159) 780 = .ok (.iconst 1, 1) := by decide +kernel
theorem k159_781 : decode (q_mB 159) 781 = .ok (.ireturn, 1) := by decide +kernel
