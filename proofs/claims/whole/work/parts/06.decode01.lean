theorem k28_0 : decode (q_mB 28) 0 = .ok (.aload_n 0, 1) := by decide +kernel
theorem k28_1 : decode (q_mB 28) 1 = .ok (.iload_n 1, 1) := by decide +kernel
theorem k28_2 : decode (q_mB 28) 2 = .ok (.invokevirtual 95, 3) := by decide +kernel
theorem k28_5 : decode (q_mB 28) 5 = .ok (.istore_n 3, 1) := by decide +kernel
theorem k28_6 : decode (q_mB 28) 6 = .ok (.aload_n 0, 1) := by decide +kernel
theorem k28_7 : decode (q_mB 28) 7 = .ok (.iload_n 2, 1) := by decide +kernel
theorem k28_8 : decode (q_mB 28) 8 = .ok (.invokevirtual 99, 3) := by decide +kernel
theorem k28_11 : decode (q_mB 28) 11 = .ok (.istore 4, 2) := by decide +kernel
theorem k28_13 : decode (q_mB 28) 13 = .ok (.aload_n 0, 1) := by decide +kernel
theorem k28_14 : decode (q_mB 28) 14 = .ok (.iload_n 3, 1) := by decide +kernel
theorem k28_15 : decode (q_mB 28) 15 = .ok (.invokevirtual 92, 3) := by decide +kernel
theorem k28_18 : decode (q_mB 28) 18 = .ok (.ifCond .eq 12, 3) := by decide +kernel
theorem k28_21 : decode (q_mB 28) 21 = .ok (.aload_n 0, 1) := by decide +kernel
theorem k28_22 : decode (q_mB 28) 22 = .ok (.iload 4, 2) := by decide +kernel
theorem k28_24 : decode (q_mB 28) 24 = .ok (.invokevirtual 92, 3) := by decide +kernel
theorem k28_27 : decode (q_mB 28) 27 = .ok (.ifCond .ne 5, 3) := by decide +kernel
theorem k28_30 : decode (q_mB 28) 30 = .ok (.iconst 0, 1) := by decide +kernel
theorem k28_31 : decode (q_mB 28) 31 = .ok (.ireturn, 1) := by decide +kernel
theorem k28_32 : decode (q_mB 28) 32 = .ok (.aload_n 0, 1) := by decide +kernel
theorem k28_33 : decode (q_mB 28) 33 = .ok (.getfield 27, 3) := by decide +kernel
theorem k28_36 : decode (q_mB 28) 36 = .ok (.iconst 0, 1) := by decide +kernel
theorem k28_37 : decode (q_mB 28) 37 = .ok (.invokestatic 75, 3) := by decide +kernel
theorem k28_40 : decode (q_mB 28) 40 = .ok (.aload_n 0, 1) := by decide +kernel
theorem k28_41 : decode (q_mB 28) 41 = .ok (.getfield 27, 3) := by decide +kernel
theorem k28_44 : decode (q_mB 28) 44 = .ok (.iload_n 3, 1) := by decide +kernel
theorem k28_45 : decode (q_mB 28) 45 = .ok (.iconst 1, 1) := by decide +kernel
theorem k28_46 : decode (q_mB 28) 46 = .ok (.iastore, 1) := by decide +kernel
theorem k28_47 : decode (q_mB 28) 47 = .ok (.iload_n 3, 1) := by decide +kernel
theorem k28_48 : decode (q_mB 28) 48 = .ok (.istore 5, 2) := by decide +kernel
theorem k28_50 : decode (q_mB 28) 50 = .ok (.iload 5, 2) := by decide +kernel
theorem k28_52 : decode (q_mB 28) 52 = .ok (.iload 4, 2) := by decide +kernel
theorem k28_54 : decode (q_mB 28) 54 = .ok (.if_icmp .ge 56, 3) := by decide +kernel
theorem k28_57 : decode (q_mB 28) 57 = .ok (.iconst 0, 1) := by decide +kernel
theorem k28_58 : decode (q_mB 28) 58 = .ok (.istore 6, 2) := by decide +kernel
theorem k28_60 : decode (q_mB 28) 60 = .ok (.iload 6, 2) := by decide +kernel
theorem k28_62 : decode (q_mB 28) 62 = .ok (.iconst 1, 1) := by decide +kernel
theorem k28_63 : decode (q_mB 28) 63 = .ok (.if_icmp .gt 41, 3) := by decide +kernel
theorem k28_66 : decode (q_mB 28) 66 = .ok (.aload_n 0, 1) := by decide +kernel
theorem k28_67 : decode (q_mB 28) 67 = .ok (.iload 5, 2) := by decide +kernel
theorem k28_69 : decode (q_mB 28) 69 = .ok (.iload 6, 2) := by decide +kernel
theorem k28_71 : decode (q_mB 28) 71 = .ok (.invokevirtual 102, 3) := by decide +kernel
theorem k28_74 : decode (q_mB 28) 74 = .ok (.istore 7, 2) := by decide +kernel
theorem k28_76 : decode (q_mB 28) 76 = .ok (.iload 7, 2) := by decide +kernel
theorem k28_78 : decode (q_mB 28) 78 = .ok (.ifCond .lt 20, 3) := by decide +kernel
theorem k28_81 : decode (q_mB 28) 81 = .ok (.aload_n 0, 1) := by decide +kernel
theorem k28_82 : decode (q_mB 28) 82 = .ok (.getfield 27, 3) := by decide +kernel
theorem k28_85 : decode (q_mB 28) 85 = .ok (.iload 7, 2) := by decide +kernel
theorem k28_87 : decode (q_mB 28) 87 = .ok (.dup2, 1) := by decide +kernel
theorem k28_88 : decode (q_mB 28) 88 = .ok (.iaload, 1) := by decide +kernel
theorem k28_89 : decode (q_mB 28) 89 = .ok (.aload_n 0, 1) := by decide +kernel
theorem k28_90 : decode (q_mB 28) 90 = .ok (.getfield 27, 3) := by decide +kernel
theorem k28_93 : decode (q_mB 28) 93 = .ok (.iload 5, 2) := by decide +kernel
theorem k28_95 : decode (q_mB 28) 95 = .ok (.iaload, 1) := by decide +kernel
theorem k28_96 : decode (q_mB 28) 96 = .ok (.iadd, 1) := by decide +kernel
theorem k28_97 : decode (q_mB 28) 97 = .ok (.iastore, 1) := by decide +kernel
theorem k28_98 : decode (q_mB 28) 98 = .ok (.iinc 6 1, 3) := by decide +kernel
theorem k28_101 : decode (q_mB 28) 101 = .ok (.goto (-41), 3) := by decide +kernel
theorem k28_104 : decode (q_mB 28) 104 = .ok (.iinc 5 1, 3) := by decide +kernel
theorem k28_107 : decode (q_mB 28) 107 = .ok (.goto (-57), 3) := by decide +kernel
theorem k28_110 : decode (q_mB 28) 110 = .ok (.aload_n 0, 1) := by decide +kernel
theorem k28_111 : decode (q_mB 28) 111 = .ok (.getfield 27, 3) := by decide +kernel
theorem k28_114 : decode (q_mB 28) 114 = .ok (.iload 4, 2) := by decide +kernel
theorem k28_116 : decode (q_mB 28) 116 = .ok (.iaload, 1) := by decide +kernel
theorem k28_117 : decode (q_mB 28) 117 = .ok (.ireturn, 1) := by decide +kernel
theorem k29_0 : decode (q_mB 29) 0 = .ok (.iload_n 3, 1) := by decide +kernel
theorem k29_1 : decode (q_mB 29) 1 = .ok (.iload_n 1, 1) := by decide +kernel
theorem k29_2 : decode (q_mB 29) 2 = .ok (.invokestatic 105, 3) := by decide +kernel
theorem k29_5 : decode (q_mB 29) 5 = .ok (.iconst 1, 1) := by decide +kernel
theorem k29_6 : decode (q_mB 29) 6 = .ok (.isub, 1) := by decide +kernel
theorem k29_7 : decode (q_mB 29) 7 = .ok (.if_icmp .lt 6, 3) := by decide +kernel
theorem k29_10 : decode (q_mB 29) 10 = .ok (.bipush (-9), 2) := by decide +kernel
theorem k29_12 : decode (q_mB 29) 12 = .ok (.ireturn, 1) := by decide +kernel
theorem k29_13 : decode (q_mB 29) 13 = .ok (.aload_n 0, 1) := by decide +kernel
theorem k29_14 : decode (q_mB 29) 14 = .ok (.iload_n 2, 1) := by decide +kernel
theorem k29_15 : decode (q_mB 29) 15 = .ok (.invokevirtual 95, 3) := by decide +kernel
theorem k29_18 : decode (q_mB 29) 18 = .ok (.istore 4, 2) := by decide +kernel
theorem k29_20 : decode (q_mB 29) 20 = .ok (.iconst 0, 1) := by decide +kernel
theorem k29_21 : decode (q_mB 29) 21 = .ok (.istore 5, 2) := by decide +kernel
theorem k29_23 : decode (q_mB 29) 23 = .ok (.iload 5, 2) := by decide +kernel
theorem k29_25 : decode (q_mB 29) 25 = .ok (.iload_n 3, 1) := by decide +kernel
theorem k29_26 : decode (q_mB 29) 26 = .ok (.if_icmp .ge 39, 3) := by decide +kernel
theorem k29_29 : decode (q_mB 29) 29 = .ok (.iload_n 1, 1) := by decide +kernel
theorem k29_30 : decode (q_mB 29) 30 = .ok (.iload 4, 2) := by decide +kernel
theorem k29_32 : decode (q_mB 29) 32 = .ok (.aload_n 0, 1) := by decide +kernel
theorem k29_33 : decode (q_mB 29) 33 = .ok (.getfield 34, 3) := by decide +kernel
theorem k29_36 : decode (q_mB 29) 36 = .ok (.iadd, 1) := by decide +kernel
theorem k29_37 : decode (q_mB 29) 37 = .ok (.invokestatic 110, 3) := by decide +kernel
theorem k29_40 : decode (q_mB 29) 40 = .ok (.ifCond .eq 13, 3) := by decide +kernel
theorem k29_43 : decode (q_mB 29) 43 = .ok (.iload 4, 2) := by decide +kernel
theorem k29_45 : decode (q_mB 29) 45 = .ok (.aload_n 0, 1) := by decide +kernel
theorem k29_46 : decode (q_mB 29) 46 = .ok (.getfield 34, 3) := by decide +kernel
theorem k29_49 : decode (q_mB 29) 49 = .ok (.iadd, 1) := by decide +kernel
theorem k29_50 : decode (q_mB 29) 50 = .ok (.goto 7, 3) := by decide +kernel
theorem k29_53 : decode (q_mB 29) 53 = .ok (.iload 4, 2) := by decide +kernel
theorem k29_55 : decode (q_mB 29) 55 = .ok (.iconst 1, 1) := by decide +kernel
theorem k29_56 : decode (q_mB 29) 56 = .ok (.iadd, 1) := by decide +kernel
theorem k29_57 : decode (q_mB 29) 57 = .ok (.istore 4, 2) := by decide +kernel
theorem k29_59 : decode (q_mB 29) 59 = .ok (.iinc 5 1, 3) := by decide +kernel
theorem k29_62 : decode (q_mB 29) 62 = .ok (.goto (-39), 3) := by decide +kernel
theorem k29_65 : decode (q_mB 29) 65 = .ok (.iload_n 1, 1) := by decide +kernel
theorem k29_66 : decode (q_mB 29) 66 = .ok (.iload 4, 2) := by decide +kernel
theorem k29_68 : decode (q_mB 29) 68 = .ok (.aload_n 0, 1) := by decide +kernel
theorem k29_69 : decode (q_mB 29) 69 = .ok (.getfield 34, 3) := by decide +kernel
theorem k29_72 : decode (q_mB 29) 72 = .ok (.iadd, 1) := by decide +kernel
theorem k29_73 : decode (q_mB 29) 73 = .ok (.invokestatic 110, 3) := by decide +kernel
theorem k29_76 : decode (q_mB 29) 76 = .ok (.ifCond .eq 7, 3) := by decide +kernel
theorem k29_79 : decode (q_mB 29) 79 = .ok (.iconst 0, 1) := by decide +kernel
theorem k29_80 : decode (q_mB 29) 80 = .ok (.goto 4, 3) := by decide +kernel
theorem k29_83 : decode (q_mB 29) 83 = .ok (.iconst 1, 1) := by decide +kernel
theorem k29_84 : decode (q_mB 29) 84 = .ok (.ireturn, 1) := by decide +kernel
theorem k30_0 : decode (q_mB 30) 0 = .ok (.aload_n 0, 1) := by decide +kernel
theorem k30_1 : decode (q_mB 30) 1 = .ok (.iconst 0, 1) := by decide +kernel
theorem k30_2 : decode (q_mB 30) 2 = .ok (.putfield 40, 3) := by decide +kernel
theorem k30_5 : decode (q_mB 30) 5 = .ok (.aload_n 0, 1) := by decide +kernel
theorem k30_6 : decode (q_mB 30) 6 = .ok (.iconst 0, 1) := by decide +kernel
theorem k30_7 : decode (q_mB 30) 7 = .ok (.putfield 44, 3) := by decide +kernel
theorem k30_10 : decode (q_mB 30) 10 = .ok (.iconst 0, 1) := by decide +kernel
theorem k30_11 : decode (q_mB 30) 11 = .ok (.istore_n 1, 1) := by decide +kernel
theorem k30_12 : decode (q_mB 30) 12 = .ok (.iload_n 1, 1) := by decide +kernel
theorem k30_13 : decode (q_mB 30) 13 = .ok (.getstatic 15, 3) := by decide +kernel
theorem k30_16 : decode (q_mB 30) 16 = .ok (.arraylength, 1) := by decide +kernel
theorem k30_17 : decode (q_mB 30) 17 = .ok (.if_icmp .ge 43, 3) := by decide +kernel
theorem k30_20 : decode (q_mB 30) 20 = .ok (.aload_n 0, 1) := by decide +kernel
theorem k30_21 : decode (q_mB 30) 21 = .ok (.getfield 18, 3) := by decide +kernel
theorem k30_24 : decode (q_mB 30) 24 = .ok (.iload_n 1, 1) := by decide +kernel
theorem k30_25 : decode (q_mB 30) 25 = .ok (.iconst 0, 1) := by decide +kernel
theorem k30_26 : decode (q_mB 30) 26 = .ok (.iastore, 1) := by decide +kernel
theorem k30_27 : decode (q_mB 30) 27 = .ok (.aload_n 0, 1) := by decide +kernel
theorem k30_28 : decode (q_mB 30) 28 = .ok (.getfield 21, 3) := by decide +kernel
theorem k30_31 : decode (q_mB 30) 31 = .ok (.iload_n 1, 1) := by decide +kernel
theorem k30_32 : decode (q_mB 30) 32 = .ok (.iconst 0, 1) := by decide +kernel
theorem k30_33 : decode (q_mB 30) 33 = .ok (.iastore, 1) := by decide +kernel
theorem k30_34 : decode (q_mB 30) 34 = .ok (.aload_n 0, 1) := by decide +kernel
theorem k30_35 : decode (q_mB 30) 35 = .ok (.getfield 26, 3) := by decide +kernel
theorem k30_38 : decode (q_mB 30) 38 = .ok (.iload_n 1, 1) := by decide +kernel
theorem k30_39 : decode (q_mB 30) 39 = .ok (.aaload, 1) := by decide +kernel
theorem k30_40 : decode (q_mB 30) 40 = .ok (.iconst 0, 1) := by decide +kernel
theorem k30_41 : decode (q_mB 30) 41 = .ok (.invokestatic 47, 3) := by decide +kernel
theorem k30_44 : decode (q_mB 30) 44 = .ok (.aload_n 0, 1) := by decide +kernel
theorem k30_45 : decode (q_mB 30) 45 = .ok (.getfield 29, 3) := by decide +kernel
theorem k30_48 : decode (q_mB 30) 48 = .ok (.iload_n 1, 1) := by decide +kernel
theorem k30_49 : decode (q_mB 30) 49 = .ok (.aaload, 1) := by decide +kernel
theorem k30_50 : decode (q_mB 30) 50 = .ok (.iconst 0, 1) := by decide +kernel
theorem k30_51 : decode (q_mB 30) 51 = .ok (.invokestatic 47, 3) := by decide +kernel
theorem k30_54 : decode (q_mB 30) 54 = .ok (.iinc 1 1, 3) := by decide +kernel
theorem k30_57 : decode (q_mB 30) 57 = .ok (.goto (-45), 3) := by decide +kernel
theorem k30_60 : decode (q_mB 30) 60 = .ok (.aload_n 0, 1) := by decide +kernel
theorem k30_61 : decode (q_mB 30) 61 = .ok (.iconst 0, 1) := by decide +kernel
theorem k30_62 : decode (q_mB 30) 62 = .ok (.iconst 0, 1) := by decide +kernel
theorem k30_63 : decode (q_mB 30) 63 = .ok (.iconst 0, 1) := by decide +kernel
theorem k30_64 : decode (q_mB 30) 64 = .ok (.iconst 0, 1) := by decide +kernel
theorem k30_65 : decode (q_mB 30) 65 = .ok (.invokevirtual 53, 3) := by decide +kernel
theorem k30_68 : decode (q_mB 30) 68 = .ok (.iconst 0, 1) := by decide +kernel
theorem k30_69 : decode (q_mB 30) 69 = .ok (.istore_n 1, 1) := by decide +kernel
theorem k30_70 : decode (q_mB 30) 70 = .ok (.iload_n 1, 1) := by decide +kernel
theorem k30_71 : decode (q_mB 30) 71 = .ok (.aload_n 0, 1) := by decide +kernel
theorem k30_72 : decode (q_mB 30) 72 = .ok (.getfield 32, 3) := by decide +kernel
theorem k30_75 : decode (q_mB 30) 75 = .ok (.getfield 57, 3) := by decide +kernel
theorem k30_78 : decode (q_mB 30) 78 = .ok (.if_icmp .ge 43, 3) := by decide +kernel
theorem k30_81 : decode (q_mB 30) 81 = .ok (.aload_n 0, 1) := by decide +kernel
theorem k30_82 : decode (q_mB 30) 82 = .ok (.dup, 1) := by decide +kernel
theorem k30_83 : decode (q_mB 30) 83 = .ok (.getfield 44, 3) := by decide +kernel
theorem k30_86 : decode (q_mB 30) 86 = .ok (.iconst 1, 1) := by decide +kernel
theorem k30_87 : decode (q_mB 30) 87 = .ok (.aload_n 0, 1) := by decide +kernel
theorem k30_88 : decode (q_mB 30) 88 = .ok (.getfield 32, 3) := by decide +kernel
theorem k30_91 : decode (q_mB 30) 91 = .ok (.iload_n 1, 1) := by decide +kernel
theorem k30_92 : decode (q_mB 30) 92 = .ok (.invokevirtual 62, 3) := by decide +kernel
theorem k30_95 : decode (q_mB 30) 95 = .ok (.ishl, 1) := by decide +kernel
theorem k30_96 : decode (q_mB 30) 96 = .ok (.iconst (-1), 1) := by decide +kernel
theorem k30_97 : decode (q_mB 30) 97 = .ok (.ixor, 1) := by decide +kernel
theorem k30_98 : decode (q_mB 30) 98 = .ok (.iconst 1, 1) := by decide +kernel
theorem k30_99 : decode (q_mB 30) 99 = .ok (.aload_n 0, 1) := by decide +kernel
theorem k30_100 : decode (q_mB 30) 100 = .ok (.getfield 32, 3) := by decide +kernel
theorem k30_103 : decode (q_mB 30) 103 = .ok (.iload_n 1, 1) := by decide +kernel
theorem k30_104 : decode (q_mB 30) 104 = .ok (.invokevirtual 66, 3) := by decide +kernel
theorem k30_107 : decode (q_mB 30) 107 = .ok (.ishl, 1) := by decide +kernel
theorem k30_108 : decode (q_mB 30) 108 = .ok (.iconst (-1), 1) := by decide +kernel
theorem k30_109 : decode (q_mB 30) 109 = .ok (.ixor, 1) := by decide +kernel
theorem k30_110 : decode (q_mB 30) 110 = .ok (.iand, 1) := by decide +kernel
theorem k30_111 : decode (q_mB 30) 111 = .ok (.iand, 1) := by decide +kernel
theorem k30_112 : decode (q_mB 30) 112 = .ok (.putfield 44, 3) := by decide +kernel
theorem k30_115 : decode (q_mB 30) 115 = .ok (.iinc 1 1, 3) := by decide +kernel
theorem k30_118 : decode (q_mB 30) 118 = .ok (.goto (-48), 3) := by decide +kernel
theorem k30_121 : decode (q_mB 30) 121 = .ok (.return_, 1) := by decide +kernel
theorem k31_0 : decode (q_mB 31) 0 = .ok (.iload_n 1, 1) := by decide +kernel
theorem k31_1 : decode (q_mB 31) 1 = .ok (.aload_n 0, 1) := by decide +kernel
theorem k31_2 : decode (q_mB 31) 2 = .ok (.getfield 36, 3) := by decide +kernel
theorem k31_5 : decode (q_mB 31) 5 = .ok (.getfield 69, 3) := by decide +kernel
theorem k31_8 : decode (q_mB 31) 8 = .ok (.if_icmp .lt 12, 3) := by decide +kernel
theorem k31_11 : decode (q_mB 31) 11 = .ok (.aload_n 0, 1) := by decide +kernel
theorem k31_12 : decode (q_mB 31) 12 = .ok (.iload_n 2, 1) := by decide +kernel
theorem k31_13 : decode (q_mB 31) 13 = .ok (.iload_n 3, 1) := by decide +kernel
theorem k31_14 : decode (q_mB 31) 14 = .ok (.iload 4, 2) := by decide +kernel
theorem k31_16 : decode (q_mB 31) 16 = .ok (.invokevirtual 72, 3) := by decide +kernel
theorem k31_19 : decode (q_mB 31) 19 = .ok (.return_, 1) := by decide +kernel
theorem k31_20 : decode (q_mB 31) 20 = .ok (.aload_n 0, 1) := by decide +kernel
theorem k31_21 : decode (q_mB 31) 21 = .ok (.iload_n 1, 1) := by decide +kernel
theorem k31_22 : decode (q_mB 31) 22 = .ok (.iconst 1, 1) := by decide +kernel
theorem k31_23 : decode (q_mB 31) 23 = .ok (.iadd, 1) := by decide +kernel
theorem k31_24 : decode (q_mB 31) 24 = .ok (.iload_n 2, 1) := by decide +kernel
theorem k31_25 : decode (q_mB 31) 25 = .ok (.iload_n 3, 1) := by decide +kernel
theorem k31_26 : decode (q_mB 31) 26 = .ok (.iload 4, 2) := by decide +kernel
theorem k31_28 : decode (q_mB 31) 28 = .ok (.invokevirtual 53, 3) := by decide +kernel
theorem k31_31 : decode (q_mB 31) 31 = .ok (.iconst 0, 1) := by decide +kernel
theorem k31_32 : decode (q_mB 31) 32 = .ok (.istore 5, 2) := by decide +kernel
theorem k31_34 : decode (q_mB 31) 34 = .ok (.iload 5, 2) := by decide +kernel
theorem k31_36 : decode (q_mB 31) 36 = .ok (.aload_n 0, 1) := by decide +kernel
theorem k31_37 : decode (q_mB 31) 37 = .ok (.getfield 36, 3) := by decide +kernel
theorem k31_40 : decode (q_mB 31) 40 = .ok (.getfield 76, 3) := by decide +kernel
theorem k31_43 : decode (q_mB 31) 43 = .ok (.iload_n 1, 1) := by decide +kernel
theorem k31_44 : decode (q_mB 31) 44 = .ok (.iaload, 1) := by decide +kernel
theorem k31_45 : decode (q_mB 31) 45 = .ok (.if_icmp .ge 73, 3) := by decide +kernel
theorem k31_48 : decode (q_mB 31) 48 = .ok (.aload_n 0, 1) := by decide +kernel
theorem k31_49 : decode (q_mB 31) 49 = .ok (.getfield 36, 3) := by decide +kernel
theorem k31_52 : decode (q_mB 31) 52 = .ok (.getfield 79, 3) := by decide +kernel
theorem k31_55 : decode (q_mB 31) 55 = .ok (.iload_n 1, 1) := by decide +kernel
theorem k31_56 : decode (q_mB 31) 56 = .ok (.aaload, 1) := by decide +kernel
theorem k31_57 : decode (q_mB 31) 57 = .ok (.iload 5, 2) := by decide +kernel
theorem k31_59 : decode (q_mB 31) 59 = .ok (.iaload, 1) := by decide +kernel
theorem k31_60 : decode (q_mB 31) 60 = .ok (.istore 6, 2) := by decide +kernel
theorem k31_62 : decode (q_mB 31) 62 = .ok (.iload 6, 2) := by decide +kernel
theorem k31_64 : decode (q_mB 31) 64 = .ok (.iload_n 2, 1) := by decide +kernel
theorem k31_65 : decode (q_mB 31) 65 = .ok (.iand, 1) := by decide +kernel
theorem k31_66 : decode (q_mB 31) 66 = .ok (.ifCond .ne 46, 3) := by decide +kernel
theorem k31_69 : decode (q_mB 31) 69 = .ok (.aload_n 0, 1) := by decide +kernel
theorem k31_70 : decode (q_mB 31) 70 = .ok (.getfield 9, 3) := by decide +kernel
theorem k31_73 : decode (q_mB 31) 73 = .ok (.iload_n 1, 1) := by decide +kernel
theorem k31_74 : decode (q_mB 31) 74 = .ok (.iload 6, 2) := by decide +kernel
theorem k31_76 : decode (q_mB 31) 76 = .ok (.iastore, 1) := by decide +kernel
theorem k31_77 : decode (q_mB 31) 77 = .ok (.aload_n 0, 1) := by decide +kernel
theorem k31_78 : decode (q_mB 31) 78 = .ok (.iload_n 1, 1) := by decide +kernel
theorem k31_79 : decode (q_mB 31) 79 = .ok (.iconst 1, 1) := by decide +kernel
theorem k31_80 : decode (q_mB 31) 80 = .ok (.iadd, 1) := by decide +kernel
theorem k31_81 : decode (q_mB 31) 81 = .ok (.iload_n 2, 1) := by decide +kernel
theorem k31_82 : decode (q_mB 31) 82 = .ok (.iload 6, 2) := by decide +kernel
theorem k31_84 : decode (q_mB 31) 84 = .ok (.ior, 1) := by decide +kernel
theorem k31_85 : decode (q_mB 31) 85 = .ok (.iload_n 3, 1) := by decide +kernel
theorem k31_86 : decode (q_mB 31) 86 = .ok (.iconst 1, 1) := by decide +kernel
theorem k31_87 : decode (q_mB 31) 87 = .ok (.iadd, 1) := by decide +kernel
theorem k31_88 : decode (q_mB 31) 88 = .ok (.iload 4, 2) := by decide +kernel
theorem k31_90 : decode (q_mB 31) 90 = .ok (.getstatic 82, 3) := by decide +kernel
theorem k31_93 : decode (q_mB 31) 93 = .ok (.iload_n 1, 1) := by decide +kernel
theorem k31_94 : decode (q_mB 31) 94 = .ok (.iaload, 1) := by decide +kernel
theorem k31_95 : decode (q_mB 31) 95 = .ok (.aload_n 0, 1) := by decide +kernel
theorem k31_96 : decode (q_mB 31) 96 = .ok (.getfield 36, 3) := by decide +kernel
theorem k31_99 : decode (q_mB 31) 99 = .ok (.getfield 85, 3) := by decide +kernel
theorem k31_102 : decode (q_mB 31) 102 = .ok (.iload_n 1, 1) := by decide +kernel
theorem k31_103 : decode (q_mB 31) 103 = .ok (.aaload, 1) := by decide +kernel
theorem k31_104 : decode (q_mB 31) 104 = .ok (.iload 5, 2) := by decide +kernel
theorem k31_106 : decode (q_mB 31) 106 = .ok (.iaload, 1) := by decide +kernel
theorem k31_107 : decode (q_mB 31) 107 = .ok (.imul, 1) := by decide +kernel
theorem k31_108 : decode (q_mB 31) 108 = .ok (.iadd, 1) := by decide +kernel
theorem k31_109 : decode (q_mB 31) 109 = .ok (.invokevirtual 53, 3) := by decide +kernel
theorem k31_112 : decode (q_mB 31) 112 = .ok (.iinc 5 1, 3) := by decide +kernel
theorem k31_115 : decode (q_mB 31) 115 = .ok (.goto (-81), 3) := by decide +kernel
theorem k31_118 : decode (q_mB 31) 118 = .ok (.return_, 1) := by decide +kernel
theorem k32_0 : decode (q_mB 32) 0 = .ok (.iload_n 2, 1) := by decide +kernel
theorem k32_1 : decode (q_mB 32) 1 = .ok (.aload_n 0, 1) := by decide +kernel
theorem k32_2 : decode (q_mB 32) 2 = .ok (.getfield 40, 3) := by decide +kernel
theorem k32_5 : decode (q_mB 32) 5 = .ok (.if_icmp .le 16, 3) := by decide +kernel
theorem k32_8 : decode (q_mB 32) 8 = .ok (.aload_n 0, 1) := by decide +kernel
theorem k32_9 : decode (q_mB 32) 9 = .ok (.iload_n 2, 1) := by decide +kernel
theorem k32_10 : decode (q_mB 32) 10 = .ok (.putfield 40, 3) := by decide +kernel
theorem k32_13 : decode (q_mB 32) 13 = .ok (.aload_n 0, 1) := by decide +kernel
theorem k32_14 : decode (q_mB 32) 14 = .ok (.iload_n 1, 1) := by decide +kernel
theorem k32_15 : decode (q_mB 32) 15 = .ok (.putfield 44, 3) := by decide +kernel
theorem k32_18 : decode (q_mB 32) 18 = .ok (.goto 21, 3) := by decide +kernel
theorem k32_21 : decode (q_mB 32) 21 = .ok (.iload_n 2, 1) := by decide +kernel
theorem k32_22 : decode (q_mB 32) 22 = .ok (.aload_n 0, 1) := by decide +kernel
theorem k32_23 : decode (q_mB 32) 23 = .ok (.getfield 40, 3) := by decide +kernel
theorem k32_26 : decode (q_mB 32) 26 = .ok (.if_icmp .ne 13, 3) := by decide +kernel
theorem k32_29 : decode (q_mB 32) 29 = .ok (.aload_n 0, 1) := by decide +kernel
theorem k32_30 : decode (q_mB 32) 30 = .ok (.dup, 1) := by decide +kernel
theorem k32_31 : decode (q_mB 32) 31 = .ok (.getfield 44, 3) := by decide +kernel
theorem k32_34 : decode (q_mB 32) 34 = .ok (.iload_n 1, 1) := by decide +kernel
theorem k32_35 : decode (q_mB 32) 35 = .ok (.iand, 1) := by decide +kernel
theorem k32_36 : decode (q_mB 32) 36 = .ok (.putfield 44, 3) := by decide +kernel
theorem k32_39 : decode (q_mB 32) 39 = .ok (.iload_n 2, 1) := by decide +kernel
theorem k32_40 : decode (q_mB 32) 40 = .ok (.ifCond .le 24, 3) := by decide +kernel
theorem k32_43 : decode (q_mB 32) 43 = .ok (.iload_n 2, 1) := by decide +kernel
theorem k32_44 : decode (q_mB 32) 44 = .ok (.aload_n 0, 1) := by decide +kernel
theorem k32_45 : decode (q_mB 32) 45 = .ok (.getfield 36, 3) := by decide +kernel
theorem k32_48 : decode (q_mB 32) 48 = .ok (.getfield 69, 3) := by decide +kernel
theorem k32_51 : decode (q_mB 32) 51 = .ok (.if_icmp .ne 13, 3) := by decide +kernel
theorem k32_54 : decode (q_mB 32) 54 = .ok (.aload_n 0, 1) := by decide +kernel
theorem k32_55 : decode (q_mB 32) 55 = .ok (.iload_n 1, 1) := by decide +kernel
theorem k32_56 : decode (q_mB 32) 56 = .ok (.iload_n 3, 1) := by decide +kernel
theorem k32_57 : decode (q_mB 32) 57 = .ok (.iload_n 2, 1) := by decide +kernel
theorem k32_58 : decode (q_mB 32) 58 = .ok (.invokestatic 88, 3) := by decide +kernel
theorem k32_61 : decode (q_mB 32) 61 = .ok (.invokevirtual 92, 3) := by decide +kernel
theorem k32_64 : decode (q_mB 32) 64 = .ok (.return_, 1) := by decide +kernel
theorem k33_0 : decode (q_mB 33) 0 = .ok (.iload_n 2, 1) := by decide +kernel
theorem k33_1 : decode (q_mB 33) 1 = .ok (.ifCond .ge 4, 3) := by decide +kernel
theorem k33_4 : decode (q_mB 33) 4 = .ok (.return_, 1) := by decide +kernel
theorem k33_5 : decode (q_mB 33) 5 = .ok (.iconst 0, 1) := by decide +kernel
theorem k33_6 : decode (q_mB 33) 6 = .ok (.istore_n 3, 1) := by decide +kernel
theorem k33_7 : decode (q_mB 33) 7 = .ok (.iconst 0, 1) := by decide +kernel
theorem k33_8 : decode (q_mB 33) 8 = .ok (.istore 4, 2) := by decide +kernel
theorem k33_10 : decode (q_mB 33) 10 = .ok (.iload 4, 2) := by decide +kernel
theorem k33_12 : decode (q_mB 33) 12 = .ok (.aload_n 0, 1) := by decide +kernel
theorem k33_13 : decode (q_mB 33) 13 = .ok (.getfield 32, 3) := by decide +kernel
theorem k33_16 : decode (q_mB 33) 16 = .ok (.getfield 96, 3) := by decide +kernel
theorem k33_19 : decode (q_mB 33) 19 = .ok (.if_icmp .ge 62, 3) := by decide +kernel
theorem k33_22 : decode (q_mB 33) 22 = .ok (.iload_n 1, 1) := by decide +kernel
theorem k33_23 : decode (q_mB 33) 23 = .ok (.iload 4, 2) := by decide +kernel
theorem k33_25 : decode (q_mB 33) 25 = .ok (.invokestatic 98, 3) := by decide +kernel
theorem k33_28 : decode (q_mB 33) 28 = .ok (.ifCond .eq 47, 3) := by decide +kernel
theorem k33_31 : decode (q_mB 33) 31 = .ok (.iload_n 3, 1) := by decide +kernel
theorem k33_32 : decode (q_mB 33) 32 = .ok (.aload_n 0, 1) := by decide +kernel
theorem k33_33 : decode (q_mB 33) 33 = .ok (.getfield 32, 3) := by decide +kernel
theorem k33_36 : decode (q_mB 33) 36 = .ok (.getfield 102, 3) := by decide +kernel
theorem k33_39 : decode (q_mB 33) 39 = .ok (.iload 4, 2) := by decide +kernel
theorem k33_41 : decode (q_mB 33) 41 = .ok (.iaload, 1) := by decide +kernel
theorem k33_42 : decode (q_mB 33) 42 = .ok (.iadd, 1) := by decide +kernel
theorem k33_43 : decode (q_mB 33) 43 = .ok (.istore_n 3, 1) := by decide +kernel
theorem k33_44 : decode (q_mB 33) 44 = .ok (.aload_n 0, 1) := by decide +kernel
theorem k33_45 : decode (q_mB 33) 45 = .ok (.getfield 26, 3) := by decide +kernel
theorem k33_48 : decode (q_mB 33) 48 = .ok (.iload_n 2, 1) := by decide +kernel
theorem k33_49 : decode (q_mB 33) 49 = .ok (.aaload, 1) := by decide +kernel
theorem k33_50 : decode (q_mB 33) 50 = .ok (.iload 4, 2) := by decide +kernel
theorem k33_52 : decode (q_mB 33) 52 = .ok (.dup2, 1) := by decide +kernel
theorem k33_53 : decode (q_mB 33) 53 = .ok (.iaload, 1) := by decide +kernel
theorem k33_54 : decode (q_mB 33) 54 = .ok (.iconst 1, 1) := by decide +kernel
theorem k33_55 : decode (q_mB 33) 55 = .ok (.iadd, 1) := by decide +kernel
theorem k33_56 : decode (q_mB 33) 56 = .ok (.iastore, 1) := by decide +kernel
theorem k33_57 : decode (q_mB 33) 57 = .ok (.aload_n 0, 1) := by decide +kernel
theorem k33_58 : decode (q_mB 33) 58 = .ok (.getfield 29, 3) := by decide +kernel
theorem k33_61 : decode (q_mB 33) 61 = .ok (.iload_n 2, 1) := by decide +kernel
theorem k33_62 : decode (q_mB 33) 62 = .ok (.aaload, 1) := by decide +kernel
theorem k33_63 : decode (q_mB 33) 63 = .ok (.iload 4, 2) := by decide +kernel
theorem k33_65 : decode (q_mB 33) 65 = .ok (.dup2, 1) := by decide +kernel
theorem k33_66 : decode (q_mB 33) 66 = .ok (.iaload, 1) := by decide +kernel
theorem k33_67 : decode (q_mB 33) 67 = .ok (.aload_n 0, 1) := by decide +kernel
theorem k33_68 : decode (q_mB 33) 68 = .ok (.iload 4, 2) := by decide +kernel
theorem k33_70 : decode (q_mB 33) 70 = .ok (.invokevirtual 105, 3) := by decide +kernel
theorem k33_73 : decode (q_mB 33) 73 = .ok (.ior, 1) := by decide +kernel
theorem k33_74 : decode (q_mB 33) 74 = .ok (.iastore, 1) := by decide +kernel
theorem k33_75 : decode (q_mB 33) 75 = .ok (.iinc 4 1, 3) := by decide +kernel
theorem k33_78 : decode (q_mB 33) 78 = .ok (.goto (-68), 3) := by decide +kernel
theorem k33_81 : decode (q_mB 33) 81 = .ok (.aload_n 0, 1) := by decide +kernel
theorem k33_82 : decode (q_mB 33) 82 = .ok (.getfield 18, 3) := by decide +kernel
theorem k33_85 : decode (q_mB 33) 85 = .ok (.iload_n 2, 1) := by decide +kernel
theorem k33_86 : decode (q_mB 33) 86 = .ok (.iaload, 1) := by decide +kernel
theorem k33_87 : decode (q_mB 33) 87 = .ok (.ifCond .eq 13, 3) := by decide +kernel
theorem k33_90 : decode (q_mB 33) 90 = .ok (.iload_n 3, 1) := by decide +kernel
theorem k33_91 : decode (q_mB 33) 91 = .ok (.aload_n 0, 1) := by decide +kernel
theorem k33_92 : decode (q_mB 33) 92 = .ok (.getfield 21, 3) := by decide +kernel
theorem k33_95 : decode (q_mB 33) 95 = .ok (.iload_n 2, 1) := by decide +kernel
theorem k33_96 : decode (q_mB 33) 96 = .ok (.iaload, 1) := by decide +kernel
theorem k33_97 : decode (q_mB 33) 97 = .ok (.if_icmp .ge 10, 3) := by decide +kernel
theorem k33_100 : decode (q_mB 33) 100 = .ok (.aload_n 0, 1) := by decide +kernel
theorem k33_101 : decode (q_mB 33) 101 = .ok (.getfield 21, 3) := by decide +kernel
theorem k33_104 : decode (q_mB 33) 104 = .ok (.iload_n 2, 1) := by decide +kernel
theorem k33_105 : decode (q_mB 33) 105 = .ok (.iload_n 3, 1) := by decide +kernel
theorem k33_106 : decode (q_mB 33) 106 = .ok (.iastore, 1) := by decide +kernel
theorem k33_107 : decode (q_mB 33) 107 = .ok (.aload_n 0, 1) := by decide +kernel
theorem k33_108 : decode (q_mB 33) 108 = .ok (.getfield 18, 3) := by decide +kernel
theorem k33_111 : decode (q_mB 33) 111 = .ok (.iload_n 2, 1) := by decide +kernel
theorem k33_112 : decode (q_mB 33) 112 = .ok (.dup2, 1) := by decide +kernel
theorem k33_113 : decode (q_mB 33) 113 = .ok (.iaload, 1) := by decide +kernel
theorem k33_114 : decode (q_mB 33) 114 = .ok (.iconst 1, 1) := by decide +kernel
theorem k33_115 : decode (q_mB 33) 115 = .ok (.iadd, 1) := by decide +kernel
theorem k33_116 : decode (q_mB 33) 116 = .ok (.iastore, 1) := by decide +kernel
theorem k33_117 : decode (q_mB 33) 117 = .ok (.return_, 1) := by decide +kernel
theorem k34_0 : decode (q_mB 34) 0 = .ok (.iconst 0, 1) := by decide +kernel
theorem k34_1 : decode (q_mB 34) 1 = .ok (.istore_n 2, 1) := by decide +kernel
theorem k34_2 : decode (q_mB 34) 2 = .ok (.iconst 0, 1) := by decide +kernel
theorem k34_3 : decode (q_mB 34) 3 = .ok (.istore_n 3, 1) := by decide +kernel
theorem k34_4 : decode (q_mB 34) 4 = .ok (.iload_n 3, 1) := by decide +kernel
theorem k34_5 : decode (q_mB 34) 5 = .ok (.aload_n 0, 1) := by decide +kernel
theorem k34_6 : decode (q_mB 34) 6 = .ok (.getfield 36, 3) := by decide +kernel
theorem k34_9 : decode (q_mB 34) 9 = .ok (.getfield 69, 3) := by decide +kernel
theorem k34_12 : decode (q_mB 34) 12 = .ok (.if_icmp .ge 24, 3) := by decide +kernel
theorem k34_15 : decode (q_mB 34) 15 = .ok (.iload_n 2, 1) := by decide +kernel
theorem k34_16 : decode (q_mB 34) 16 = .ok (.aload_n 0, 1) := by decide +kernel
theorem k34_17 : decode (q_mB 34) 17 = .ok (.getfield 9, 3) := by decide +kernel
theorem k34_20 : decode (q_mB 34) 20 = .ok (.iload_n 3, 1) := by decide +kernel
theorem k34_21 : decode (q_mB 34) 21 = .ok (.iaload, 1) := by decide +kernel
theorem k34_22 : decode (q_mB 34) 22 = .ok (.iload_n 1, 1) := by decide +kernel
theorem k34_23 : decode (q_mB 34) 23 = .ok (.ishr, 1) := by decide +kernel
theorem k34_24 : decode (q_mB 34) 24 = .ok (.iconst 1, 1) := by decide +kernel
theorem k34_25 : decode (q_mB 34) 25 = .ok (.iand, 1) := by decide +kernel
theorem k34_26 : decode (q_mB 34) 26 = .ok (.iload_n 3, 1) := by decide +kernel
theorem k34_27 : decode (q_mB 34) 27 = .ok (.ishl, 1) := by decide +kernel
theorem k34_28 : decode (q_mB 34) 28 = .ok (.ior, 1) := by decide +kernel
theorem k34_29 : decode (q_mB 34) 29 = .ok (.istore_n 2, 1) := by decide +kernel
theorem k34_30 : decode (q_mB 34) 30 = .ok (.iinc 3 1, 3) := by decide +kernel
theorem k34_33 : decode (q_mB 34) 33 = .ok (.goto (-29), 3) := by decide +kernel
theorem k34_36 : decode (q_mB 34) 36 = .ok (.iload_n 2, 1) := by decide +kernel
theorem k34_37 : decode (q_mB 34) 37 = .ok (.ireturn, 1) := by decide +kernel
theorem k35_0 : decode (q_mB 35) 0 = .ok (.iconst 0, 1) := by decide +kernel
theorem k35_1 : decode (q_mB 35) 1 = .ok (.istore_n 2, 1) := by decide +kernel
theorem k35_2 : decode (q_mB 35) 2 = .ok (.iconst 0, 1) := by decide +kernel
theorem k35_3 : decode (q_mB 35) 3 = .ok (.istore_n 3, 1) := by decide +kernel
theorem k35_4 : decode (q_mB 35) 4 = .ok (.iload_n 3, 1) := by decide +kernel
theorem k35_5 : decode (q_mB 35) 5 = .ok (.getstatic 15, 3) := by decide +kernel
theorem k35_8 : decode (q_mB 35) 8 = .ok (.arraylength, 1) := by decide +kernel
theorem k35_9 : decode (q_mB 35) 9 = .ok (.if_icmp .ge 26, 3) := by decide +kernel
theorem k35_12 : decode (q_mB 35) 12 = .ok (.iload_n 1, 1) := by decide +kernel
theorem k35_13 : decode (q_mB 35) 13 = .ok (.iload_n 3, 1) := by decide +kernel
theorem k35_14 : decode (q_mB 35) 14 = .ok (.ishr, 1) := by decide +kernel
theorem k35_15 : decode (q_mB 35) 15 = .ok (.iconst 1, 1) := by decide +kernel
theorem k35_16 : decode (q_mB 35) 16 = .ok (.iand, 1) := by decide +kernel
theorem k35_17 : decode (q_mB 35) 17 = .ok (.ifCond .eq 12, 3) := by decide +kernel
theorem k35_20 : decode (q_mB 35) 20 = .ok (.iload_n 2, 1) := by decide +kernel
theorem k35_21 : decode (q_mB 35) 21 = .ok (.aload_n 0, 1) := by decide +kernel
theorem k35_22 : decode (q_mB 35) 22 = .ok (.getfield 18, 3) := by decide +kernel
theorem k35_25 : decode (q_mB 35) 25 = .ok (.iload_n 3, 1) := by decide +kernel
theorem k35_26 : decode (q_mB 35) 26 = .ok (.iaload, 1) := by decide +kernel
theorem k35_27 : decode (q_mB 35) 27 = .ok (.iadd, 1) := by decide +kernel
theorem k35_28 : decode (q_mB 35) 28 = .ok (.istore_n 2, 1) := by decide +kernel
theorem k35_29 : decode (q_mB 35) 29 = .ok (.iinc 3 1, 3) := by decide +kernel
theorem k35_32 : decode (q_mB 35) 32 = .ok (.goto (-28), 3) := by decide +kernel
theorem k35_35 : decode (q_mB 35) 35 = .ok (.iload_n 2, 1) := by decide +kernel
theorem k35_36 : decode (q_mB 35) 36 = .ok (.ireturn, 1) := by decide +kernel
theorem k36_0 : decode (q_mB 36) 0 = .ok (.bipush (-9), 2) := by decide +kernel
theorem k36_2 : decode (q_mB 36) 2 = .ok (.istore_n 2, 1) := by decide +kernel
theorem k36_3 : decode (q_mB 36) 3 = .ok (.iconst 0, 1) := by decide +kernel
theorem k36_4 : decode (q_mB 36) 4 = .ok (.istore_n 3, 1) := by decide +kernel
theorem k36_5 : decode (q_mB 36) 5 = .ok (.iload_n 3, 1) := by decide +kernel
theorem k36_6 : decode (q_mB 36) 6 = .ok (.getstatic 15, 3) := by decide +kernel
theorem k36_9 : decode (q_mB 36) 9 = .ok (.arraylength, 1) := by decide +kernel
theorem k36_10 : decode (q_mB 36) 10 = .ok (.if_icmp .ge 61, 3) := by decide +kernel
theorem k36_13 : decode (q_mB 36) 13 = .ok (.iload_n 1, 1) := by decide +kernel
theorem k36_14 : decode (q_mB 36) 14 = .ok (.iload_n 3, 1) := by decide +kernel
theorem k36_15 : decode (q_mB 36) 15 = .ok (.ishr, 1) := by decide +kernel
theorem k36_16 : decode (q_mB 36) 16 = .ok (.iconst 1, 1) := by decide +kernel
theorem k36_17 : decode (q_mB 36) 17 = .ok (.iand, 1) := by decide +kernel
theorem k36_18 : decode (q_mB 36) 18 = .ok (.ifCond .eq 16, 3) := by decide +kernel
theorem k36_21 : decode (q_mB 36) 21 = .ok (.aload_n 0, 1) := by decide +kernel
theorem k36_22 : decode (q_mB 36) 22 = .ok (.getfield 18, 3) := by decide +kernel
theorem k36_25 : decode (q_mB 36) 25 = .ok (.iload_n 3, 1) := by decide +kernel
theorem k36_26 : decode (q_mB 36) 26 = .ok (.iaload, 1) := by decide +kernel
theorem k36_27 : decode (q_mB 36) 27 = .ok (.ifCond .le 7, 3) := by decide +kernel
theorem k36_30 : decode (q_mB 36) 30 = .ok (.iconst 1, 1) := by decide +kernel
theorem k36_31 : decode (q_mB 36) 31 = .ok (.goto 4, 3) := by decide +kernel
theorem k36_34 : decode (q_mB 36) 34 = .ok (.iconst 0, 1) := by decide +kernel
theorem k36_35 : decode (q_mB 36) 35 = .ok (.istore 4, 2) := by decide +kernel
theorem k36_37 : decode (q_mB 36) 37 = .ok (.iload 4, 2) := by decide +kernel
theorem k36_39 : decode (q_mB 36) 39 = .ok (.ifCond .eq 26, 3) := by decide +kernel
theorem k36_42 : decode (q_mB 36) 42 = .ok (.iload_n 2, 1) := by decide +kernel
theorem k36_43 : decode (q_mB 36) 43 = .ok (.bipush (-9), 2) := by decide +kernel
theorem k36_45 : decode (q_mB 36) 45 = .ok (.if_icmp .eq 13, 3) := by decide +kernel
theorem k36_48 : decode (q_mB 36) 48 = .ok (.aload_n 0, 1) := by decide +kernel
theorem k36_49 : decode (q_mB 36) 49 = .ok (.getfield 21, 3) := by decide +kernel
theorem k36_52 : decode (q_mB 36) 52 = .ok (.iload_n 3, 1) := by decide +kernel
theorem k36_53 : decode (q_mB 36) 53 = .ok (.iaload, 1) := by decide +kernel
theorem k36_54 : decode (q_mB 36) 54 = .ok (.iload_n 2, 1) := by decide +kernel
theorem k36_55 : decode (q_mB 36) 55 = .ok (.if_icmp .ge 10, 3) := by decide +kernel
theorem k36_58 : decode (q_mB 36) 58 = .ok (.aload_n 0, 1) := by decide +kernel
theorem k36_59 : decode (q_mB 36) 59 = .ok (.getfield 21, 3) := by decide +kernel
theorem k36_62 : decode (q_mB 36) 62 = .ok (.iload_n 3, 1) := by decide +kernel
theorem k36_63 : decode (q_mB 36) 63 = .ok (.iaload, 1) := by decide +kernel
theorem k36_64 : decode (q_mB 36) 64 = .ok (.istore_n 2, 1) := by decide +kernel
theorem k36_65 : decode (q_mB 36) 65 = .ok (.iinc 3 1, 3) := by decide +kernel
theorem k36_68 : decode (q_mB 36) 68 = .ok (.goto (-63), 3) := by decide +kernel
theorem k36_71 : decode (q_mB 36) 71 = .ok (.iload_n 2, 1) := by decide +kernel
theorem k36_72 : decode (q_mB 36) 72 = .ok (.ireturn, 1) := by decide +kernel
theorem k37_0 : decode (q_mB 37) 0 = .ok (.iconst 0, 1) := by decide +kernel
theorem k37_1 : decode (q_mB 37) 1 = .ok (.istore_n 3, 1) := by decide +kernel
theorem k37_2 : decode (q_mB 37) 2 = .ok (.iconst 0, 1) := by decide +kernel
theorem k37_3 : decode (q_mB 37) 3 = .ok (.istore 4, 2) := by decide +kernel
theorem k37_5 : decode (q_mB 37) 5 = .ok (.iload 4, 2) := by decide +kernel
theorem k37_7 : decode (q_mB 37) 7 = .ok (.getstatic 15, 3) := by decide +kernel
theorem k37_10 : decode (q_mB 37) 10 = .ok (.arraylength, 1) := by decide +kernel
theorem k37_11 : decode (q_mB 37) 11 = .ok (.if_icmp .ge 41, 3) := by decide +kernel
theorem k37_14 : decode (q_mB 37) 14 = .ok (.aload_n 0, 1) := by decide +kernel
theorem k37_15 : decode (q_mB 37) 15 = .ok (.getfield 32, 3) := by decide +kernel
theorem k37_18 : decode (q_mB 37) 18 = .ok (.iload_n 1, 1) := by decide +kernel
theorem k37_19 : decode (q_mB 37) 19 = .ok (.invokevirtual 108, 3) := by decide +kernel
theorem k37_22 : decode (q_mB 37) 22 = .ok (.ifCond .eq 30, 3) := by decide +kernel
theorem k37_25 : decode (q_mB 37) 25 = .ok (.iload_n 2, 1) := by decide +kernel
theorem k37_26 : decode (q_mB 37) 26 = .ok (.iload 4, 2) := by decide +kernel
theorem k37_28 : decode (q_mB 37) 28 = .ok (.ishr, 1) := by decide +kernel
theorem k37_29 : decode (q_mB 37) 29 = .ok (.iconst 1, 1) := by decide +kernel
theorem k37_30 : decode (q_mB 37) 30 = .ok (.iand, 1) := by decide +kernel
theorem k37_31 : decode (q_mB 37) 31 = .ok (.ifCond .eq 15, 3) := by decide +kernel
theorem k37_34 : decode (q_mB 37) 34 = .ok (.iload_n 3, 1) := by decide +kernel
theorem k37_35 : decode (q_mB 37) 35 = .ok (.aload_n 0, 1) := by decide +kernel
theorem k37_36 : decode (q_mB 37) 36 = .ok (.getfield 26, 3) := by decide +kernel
theorem k37_39 : decode (q_mB 37) 39 = .ok (.iload 4, 2) := by decide +kernel
theorem k37_41 : decode (q_mB 37) 41 = .ok (.aaload, 1) := by decide +kernel
theorem k37_42 : decode (q_mB 37) 42 = .ok (.iload_n 1, 1) := by decide +kernel
theorem k37_43 : decode (q_mB 37) 43 = .ok (.iaload, 1) := by decide +kernel
theorem k37_44 : decode (q_mB 37) 44 = .ok (.iadd, 1) := by decide +kernel
theorem k37_45 : decode (q_mB 37) 45 = .ok (.istore_n 3, 1) := by decide +kernel
theorem k37_46 : decode (q_mB 37) 46 = .ok (.iinc 4 1, 3) := by decide +kernel
theorem k37_49 : decode (q_mB 37) 49 = .ok (.goto (-44), 3) := by decide +kernel
theorem k37_52 : decode (q_mB 37) 52 = .ok (.iload_n 3, 1) := by decide +kernel
theorem k37_53 : decode (q_mB 37) 53 = .ok (.ireturn, 1) := by decide +kernel
theorem k38_0 : decode (q_mB 38) 0 = .ok (.iconst 0, 1) := by decide +kernel
theorem k38_1 : decode (q_mB 38) 1 = .ok (.istore_n 3, 1) := by decide +kernel
theorem k38_2 : decode (q_mB 38) 2 = .ok (.iconst 0, 1) := by decide +kernel
theorem k38_3 : decode (q_mB 38) 3 = .ok (.istore 4, 2) := by decide +kernel
theorem k38_5 : decode (q_mB 38) 5 = .ok (.iload 4, 2) := by decide +kernel
theorem k38_7 : decode (q_mB 38) 7 = .ok (.getstatic 15, 3) := by decide +kernel
theorem k38_10 : decode (q_mB 38) 10 = .ok (.arraylength, 1) := by decide +kernel
theorem k38_11 : decode (q_mB 38) 11 = .ok (.if_icmp .ge 41, 3) := by decide +kernel
theorem k38_14 : decode (q_mB 38) 14 = .ok (.aload_n 0, 1) := by decide +kernel
theorem k38_15 : decode (q_mB 38) 15 = .ok (.getfield 32, 3) := by decide +kernel
theorem k38_18 : decode (q_mB 38) 18 = .ok (.iload_n 1, 1) := by decide +kernel
theorem k38_19 : decode (q_mB 38) 19 = .ok (.invokevirtual 108, 3) := by decide +kernel
theorem k38_22 : decode (q_mB 38) 22 = .ok (.ifCond .eq 30, 3) := by decide +kernel
theorem k38_25 : decode (q_mB 38) 25 = .ok (.iload_n 2, 1) := by decide +kernel
theorem k38_26 : decode (q_mB 38) 26 = .ok (.iload 4, 2) := by decide +kernel
theorem k38_28 : decode (q_mB 38) 28 = .ok (.ishr, 1) := by decide +kernel
theorem k38_29 : decode (q_mB 38) 29 = .ok (.iconst 1, 1) := by decide +kernel
theorem k38_30 : decode (q_mB 38) 30 = .ok (.iand, 1) := by decide +kernel
theorem k38_31 : decode (q_mB 38) 31 = .ok (.ifCond .eq 15, 3) := by decide +kernel
theorem k38_34 : decode (q_mB 38) 34 = .ok (.iload_n 3, 1) := by decide +kernel
theorem k38_35 : decode (q_mB 38) 35 = .ok (.aload_n 0, 1) := by decide +kernel
theorem k38_36 : decode (q_mB 38) 36 = .ok (.getfield 29, 3) := by decide +kernel
theorem k38_39 : decode (q_mB 38) 39 = .ok (.iload 4, 2) := by decide +kernel
theorem k38_41 : decode (q_mB 38) 41 = .ok (.aaload, 1) := by decide +kernel
theorem k38_42 : decode (q_mB 38) 42 = .ok (.iload_n 1, 1) := by decide +kernel
theorem k38_43 : decode (q_mB 38) 43 = .ok (.iaload, 1) := by decide +kernel
theorem k38_44 : decode (q_mB 38) 44 = .ok (.ior, 1) := by decide +kernel
theorem k38_45 : decode (q_mB 38) 45 = .ok (.istore_n 3, 1) := by decide +kernel
theorem k38_46 : decode (q_mB 38) 46 = .ok (.iinc 4 1, 3) := by decide +kernel
theorem k38_49 : decode (q_mB 38) 49 = .ok (.goto (-44), 3) := by decide +kernel
theorem k38_52 : decode (q_mB 38) 52 = .ok (.iload_n 3, 1) := by decide +kernel
theorem k38_53 : decode (q_mB 38) 53 = .ok (.ireturn, 1) := by decide +kernel
theorem k39_0 : decode (q_mB 39) 0 = .ok (.iload_n 3, 1) := by decide +kernel
theorem k39_1 : decode (q_mB 39) 1 = .ok (.iload_n 1, 1) := by decide +kernel
theorem k39_2 : decode (q_mB 39) 2 = .ok (.invokestatic 7, 3) := by decide +kernel
theorem k39_5 : decode (q_mB 39) 5 = .ok (.ireturn, 1) := by decide +kernel
theorem k40_0 : decode (q_mB 40) 0 = .ok (.iload_n 2, 1) := by decide +kernel
theorem k40_1 : decode (q_mB 40) 1 = .ok (.iconst 1, 1) := by decide +kernel
theorem k40_2 : decode (q_mB 40) 2 = .ok (.isub, 1) := by decide +kernel
theorem k40_3 : decode (q_mB 40) 3 = .ok (.iload_n 1, 1) := by decide +kernel
theorem k40_4 : decode (q_mB 40) 4 = .ok (.isub, 1) := by decide +kernel
theorem k40_5 : decode (q_mB 40) 5 = .ok (.ireturn, 1) := by decide +kernel
theorem k41_0 : decode (q_mB 41) 0 = .ok (.aload_n 0, 1) := by decide +kernel
theorem k41_1 : decode (q_mB 41) 1 = .ok (.iload_n 1, 1) := by decide +kernel
theorem k41_2 : decode (q_mB 41) 2 = .ok (.aload_n 0, 1) := by decide +kernel
theorem k41_3 : decode (q_mB 41) 3 = .ok (.getfield 23, 3) := by decide +kernel
theorem k41_6 : decode (q_mB 41) 6 = .ok (.getfield 27, 3) := by decide +kernel
theorem k41_9 : decode (q_mB 41) 9 = .ok (.invokestatic 33, 3) := by decide +kernel
theorem k41_12 : decode (q_mB 41) 12 = .ok (.putfield 39, 3) := by decide +kernel
theorem k41_15 : decode (q_mB 41) 15 = .ok (.iconst 0, 1) := by decide +kernel
theorem k41_16 : decode (q_mB 41) 16 = .ok (.istore_n 2, 1) := by decide +kernel
theorem k41_17 : decode (q_mB 41) 17 = .ok (.iload_n 2, 1) := by decide +kernel
theorem k41_18 : decode (q_mB 41) 18 = .ok (.aload_n 0, 1) := by decide +kernel
theorem k41_19 : decode (q_mB 41) 19 = .ok (.getfield 39, 3) := by decide +kernel
theorem k41_22 : decode (q_mB 41) 22 = .ok (.if_icmp .ge 31, 3) := by decide +kernel
theorem k41_25 : decode (q_mB 41) 25 = .ok (.aload_n 0, 1) := by decide +kernel
theorem k41_26 : decode (q_mB 41) 26 = .ok (.getfield 9, 3) := by decide +kernel
theorem k41_29 : decode (q_mB 41) 29 = .ok (.iload_n 2, 1) := by decide +kernel
theorem k41_30 : decode (q_mB 41) 30 = .ok (.iconst 0, 1) := by decide +kernel
theorem k41_31 : decode (q_mB 41) 31 = .ok (.iastore, 1) := by decide +kernel
theorem k41_32 : decode (q_mB 41) 32 = .ok (.aload_n 0, 1) := by decide +kernel
theorem k41_33 : decode (q_mB 41) 33 = .ok (.iload_n 2, 1) := by decide +kernel
theorem k41_34 : decode (q_mB 41) 34 = .ok (.aload_n 0, 1) := by decide +kernel
theorem k41_35 : decode (q_mB 41) 35 = .ok (.getfield 23, 3) := by decide +kernel
theorem k41_38 : decode (q_mB 41) 38 = .ok (.iload_n 2, 1) := by decide +kernel
theorem k41_39 : decode (q_mB 41) 39 = .ok (.invokevirtual 40, 3) := by decide +kernel
theorem k41_42 : decode (q_mB 41) 42 = .ok (.iconst 0, 1) := by decide +kernel
theorem k41_43 : decode (q_mB 41) 43 = .ok (.iconst 0, 1) := by decide +kernel
theorem k41_44 : decode (q_mB 41) 44 = .ok (.invokevirtual 44, 3) := by decide +kernel
theorem k41_47 : decode (q_mB 41) 47 = .ok (.iinc 2 1, 3) := by decide +kernel
theorem k41_50 : decode (q_mB 41) 50 = .ok (.goto (-33), 3) := by decide +kernel
theorem k41_53 : decode (q_mB 41) 53 = .ok (.return_, 1) := by decide +kernel
theorem k42_0 : decode (q_mB 42) 0 = .ok (.iload_n 2, 1) := by decide +kernel
theorem k42_1 : decode (q_mB 42) 1 = .ok (.ifCond .lt 10, 3) := by decide +kernel
theorem k42_4 : decode (q_mB 42) 4 = .ok (.iload 4, 2) := by decide +kernel
theorem k42_6 : decode (q_mB 42) 6 = .ok (.bipush 10, 2) := by decide +kernel
theorem k42_8 : decode (q_mB 42) 8 = .ok (.if_icmp .le 4, 3) := by decide +kernel
theorem k42_11 : decode (q_mB 42) 11 = .ok (.return_, 1) := by decide +kernel
theorem k42_12 : decode (q_mB 42) 12 = .ok (.iload_n 3, 1) := by decide +kernel
theorem k42_13 : decode (q_mB 42) 13 = .ok (.iconst 1, 1) := by decide +kernel
theorem k42_14 : decode (q_mB 42) 14 = .ok (.iload_n 2, 1) := by decide +kernel
theorem k42_15 : decode (q_mB 42) 15 = .ok (.ishl, 1) := by decide +kernel
theorem k42_16 : decode (q_mB 42) 16 = .ok (.ior, 1) := by decide +kernel
theorem k42_17 : decode (q_mB 42) 17 = .ok (.istore 5, 2) := by decide +kernel
theorem k42_19 : decode (q_mB 42) 19 = .ok (.iconst 0, 1) := by decide +kernel
theorem k42_20 : decode (q_mB 42) 20 = .ok (.istore 6, 2) := by decide +kernel
theorem k42_22 : decode (q_mB 42) 22 = .ok (.iload 6, 2) := by decide +kernel
theorem k42_24 : decode (q_mB 42) 24 = .ok (.iconst 1, 1) := by decide +kernel
theorem k42_25 : decode (q_mB 42) 25 = .ok (.if_icmp .gt 120, 3) := by decide +kernel
theorem k42_28 : decode (q_mB 42) 28 = .ok (.aload_n 0, 1) := by decide +kernel
theorem k42_29 : decode (q_mB 42) 29 = .ok (.getfield 23, 3) := by decide +kernel
theorem k42_32 : decode (q_mB 42) 32 = .ok (.iload_n 2, 1) := by decide +kernel
theorem k42_33 : decode (q_mB 42) 33 = .ok (.iload 6, 2) := by decide +kernel
theorem k42_35 : decode (q_mB 42) 35 = .ok (.invokevirtual 48, 3) := by decide +kernel
theorem k42_38 : decode (q_mB 42) 38 = .ok (.istore 7, 2) := by decide +kernel
theorem k42_40 : decode (q_mB 42) 40 = .ok (.iload 7, 2) := by decide +kernel
theorem k42_42 : decode (q_mB 42) 42 = .ok (.ifCond .lt 97, 3) := by decide +kernel
theorem k42_45 : decode (q_mB 42) 45 = .ok (.aload_n 0, 1) := by decide +kernel
theorem k42_46 : decode (q_mB 42) 46 = .ok (.getfield 23, 3) := by decide +kernel
theorem k42_49 : decode (q_mB 42) 49 = .ok (.getfield 51, 3) := by decide +kernel
theorem k42_52 : decode (q_mB 42) 52 = .ok (.iload 7, 2) := by decide +kernel
theorem k42_54 : decode (q_mB 42) 54 = .ok (.iaload, 1) := by decide +kernel
theorem k42_55 : decode (q_mB 42) 55 = .ok (.ifCond .lt 20, 3) := by decide +kernel
theorem k42_58 : decode (q_mB 42) 58 = .ok (.aload_n 0, 1) := by decide +kernel
theorem k42_59 : decode (q_mB 42) 59 = .ok (.getfield 23, 3) := by decide +kernel
theorem k42_62 : decode (q_mB 42) 62 = .ok (.getfield 51, 3) := by decide +kernel
theorem k42_65 : decode (q_mB 42) 65 = .ok (.iload 7, 2) := by decide +kernel
theorem k42_67 : decode (q_mB 42) 67 = .ok (.iaload, 1) := by decide +kernel
theorem k42_68 : decode (q_mB 42) 68 = .ok (.aload_n 0, 1) := by decide +kernel
theorem k42_69 : decode (q_mB 42) 69 = .ok (.getfield 39, 3) := by decide +kernel
theorem k42_72 : decode (q_mB 42) 72 = .ok (.if_icmp .lt 7, 3) := by decide +kernel
theorem k42_75 : decode (q_mB 42) 75 = .ok (.iconst 1, 1) := by decide +kernel
theorem k42_76 : decode (q_mB 42) 76 = .ok (.goto 4, 3) := by decide +kernel
theorem k42_79 : decode (q_mB 42) 79 = .ok (.iconst 0, 1) := by decide +kernel
theorem k42_80 : decode (q_mB 42) 80 = .ok (.istore 8, 2) := by decide +kernel
theorem k42_82 : decode (q_mB 42) 82 = .ok (.iload 8, 2) := by decide +kernel
theorem k42_84 : decode (q_mB 42) 84 = .ok (.ifCond .eq 19, 3) := by decide +kernel
theorem k42_87 : decode (q_mB 42) 87 = .ok (.aload_n 0, 1) := by decide +kernel
theorem k42_88 : decode (q_mB 42) 88 = .ok (.iload_n 1, 1) := by decide +kernel
theorem k42_89 : decode (q_mB 42) 89 = .ok (.iload 7, 2) := by decide +kernel
theorem k42_91 : decode (q_mB 42) 91 = .ok (.iload 5, 2) := by decide +kernel
theorem k42_93 : decode (q_mB 42) 93 = .ok (.iload 4, 2) := by decide +kernel
theorem k42_95 : decode (q_mB 42) 95 = .ok (.iconst 1, 1) := by decide +kernel
theorem k42_96 : decode (q_mB 42) 96 = .ok (.iadd, 1) := by decide +kernel
theorem k42_97 : decode (q_mB 42) 97 = .ok (.invokevirtual 44, 3) := by decide +kernel
theorem k42_100 : decode (q_mB 42) 100 = .ok (.goto 39, 3) := by decide +kernel
theorem k42_103 : decode (q_mB 42) 103 = .ok (.aload_n 0, 1) := by decide +kernel
theorem k42_104 : decode (q_mB 42) 104 = .ok (.getfield 23, 3) := by decide +kernel
theorem k42_107 : decode (q_mB 42) 107 = .ok (.getfield 54, 3) := by decide +kernel
theorem k42_110 : decode (q_mB 42) 110 = .ok (.iload 7, 2) := by decide +kernel
theorem k42_112 : decode (q_mB 42) 112 = .ok (.iaload, 1) := by decide +kernel
theorem k42_113 : decode (q_mB 42) 113 = .ok (.iconst 3, 1) := by decide +kernel
theorem k42_114 : decode (q_mB 42) 114 = .ok (.if_icmp .ne 25, 3) := by decide +kernel
theorem k42_117 : decode (q_mB 42) 117 = .ok (.aload_n 0, 1) := by decide +kernel
theorem k42_118 : decode (q_mB 42) 118 = .ok (.iload_n 1, 1) := by decide +kernel
theorem k42_119 : decode (q_mB 42) 119 = .ok (.iload 5, 2) := by decide +kernel
theorem k42_121 : decode (q_mB 42) 121 = .ok (.iconst 1, 1) := by decide +kernel
theorem k42_122 : decode (q_mB 42) 122 = .ok (.iload 7, 2) := by decide +kernel
theorem k42_124 : decode (q_mB 42) 124 = .ok (.ishl, 1) := by decide +kernel
theorem k42_125 : decode (q_mB 42) 125 = .ok (.ior, 1) := by decide +kernel
theorem k42_126 : decode (q_mB 42) 126 = .ok (.aload_n 0, 1) := by decide +kernel
theorem k42_127 : decode (q_mB 42) 127 = .ok (.getfield 23, 3) := by decide +kernel
theorem k42_130 : decode (q_mB 42) 130 = .ok (.getfield 51, 3) := by decide +kernel
theorem k42_133 : decode (q_mB 42) 133 = .ok (.iload 7, 2) := by decide +kernel
theorem k42_135 : decode (q_mB 42) 135 = .ok (.iaload, 1) := by decide +kernel
theorem k42_136 : decode (q_mB 42) 136 = .ok (.invokevirtual 57, 3) := by decide +kernel
theorem k42_139 : decode (q_mB 42) 139 = .ok (.iinc 6 1, 3) := by decide +kernel
theorem k42_142 : decode (q_mB 42) 142 = .ok (.goto (-120), 3) := by decide +kernel
theorem k42_145 : decode (q_mB 42) 145 = .ok (.return_, 1) := by decide +kernel
theorem k43_0 : decode (q_mB 43) 0 = .ok (.aload_n 0, 1) := by decide +kernel
theorem k43_1 : decode (q_mB 43) 1 = .ok (.getfield 9, 3) := by decide +kernel
theorem k43_4 : decode (q_mB 43) 4 = .ok (.iload_n 1, 1) := by decide +kernel
theorem k43_5 : decode (q_mB 43) 5 = .ok (.iaload, 1) := by decide +kernel
theorem k43_6 : decode (q_mB 43) 6 = .ok (.istore 4, 2) := by decide +kernel
theorem k43_8 : decode (q_mB 43) 8 = .ok (.iload 4, 2) := by decide +kernel
theorem k43_10 : decode (q_mB 43) 10 = .ok (.bipush 126, 2) := by decide +kernel
theorem k43_12 : decode (q_mB 43) 12 = .ok (.if_icmp .ge 33, 3) := by decide +kernel
theorem k43_15 : decode (q_mB 43) 15 = .ok (.aload_n 0, 1) := by decide +kernel
theorem k43_16 : decode (q_mB 43) 16 = .ok (.getfield 17, 3) := by decide +kernel
theorem k43_19 : decode (q_mB 43) 19 = .ok (.iload_n 1, 1) := by decide +kernel
theorem k43_20 : decode (q_mB 43) 20 = .ok (.aaload, 1) := by decide +kernel
theorem k43_21 : decode (q_mB 43) 21 = .ok (.iload 4, 2) := by decide +kernel
theorem k43_23 : decode (q_mB 43) 23 = .ok (.iload_n 2, 1) := by decide +kernel
theorem k43_24 : decode (q_mB 43) 24 = .ok (.iastore, 1) := by decide +kernel
theorem k43_25 : decode (q_mB 43) 25 = .ok (.aload_n 0, 1) := by decide +kernel
theorem k43_26 : decode (q_mB 43) 26 = .ok (.getfield 20, 3) := by decide +kernel
theorem k43_29 : decode (q_mB 43) 29 = .ok (.iload_n 1, 1) := by decide +kernel
theorem k43_30 : decode (q_mB 43) 30 = .ok (.aaload, 1) := by decide +kernel
theorem k43_31 : decode (q_mB 43) 31 = .ok (.iload 4, 2) := by decide +kernel
theorem k43_33 : decode (q_mB 43) 33 = .ok (.iload_n 3, 1) := by decide +kernel
theorem k43_34 : decode (q_mB 43) 34 = .ok (.iastore, 1) := by decide +kernel
theorem k43_35 : decode (q_mB 43) 35 = .ok (.aload_n 0, 1) := by decide +kernel
theorem k43_36 : decode (q_mB 43) 36 = .ok (.getfield 9, 3) := by decide +kernel
theorem k43_39 : decode (q_mB 43) 39 = .ok (.iload_n 1, 1) := by decide +kernel
theorem k43_40 : decode (q_mB 43) 40 = .ok (.iload 4, 2) := by decide +kernel
theorem k43_42 : decode (q_mB 43) 42 = .ok (.iconst 1, 1) := by decide +kernel
theorem k43_43 : decode (q_mB 43) 43 = .ok (.iadd, 1) := by decide +kernel
theorem k43_44 : decode (q_mB 43) 44 = .ok (.iastore, 1) := by decide +kernel
theorem k43_45 : decode (q_mB 43) 45 = .ok (.return_, 1) := by decide +kernel
theorem k44_0 : decode (q_mB 44) 0 = .ok (.iload_n 1, 1) := by decide +kernel
theorem k44_1 : decode (q_mB 44) 1 = .ok (.ifCond .ge 10, 3) := by decide +kernel
theorem k44_4 : decode (q_mB 44) 4 = .ok (.aload_n 0, 1) := by decide +kernel
theorem k44_5 : decode (q_mB 44) 5 = .ok (.bipush (-4), 2) := by decide +kernel
theorem k44_7 : decode (q_mB 44) 7 = .ok (.invokevirtual 100, 3) := by decide +kernel
theorem k44_10 : decode (q_mB 44) 10 = .ok (.ireturn, 1) := by decide +kernel
theorem k44_11 : decode (q_mB 44) 11 = .ok (.iload_n 1, 1) := by decide +kernel
theorem k44_12 : decode (q_mB 44) 12 = .ok (.sipush 255, 3) := by decide +kernel
theorem k44_15 : decode (q_mB 44) 15 = .ok (.if_icmp .gt 12, 3) := by decide +kernel
theorem k44_18 : decode (q_mB 44) 18 = .ok (.aload_n 0, 1) := by decide +kernel
theorem k44_19 : decode (q_mB 44) 19 = .ok (.getfield 104, 3) := by decide +kernel
theorem k44_22 : decode (q_mB 44) 22 = .ok (.bipush 48, 2) := by decide +kernel
theorem k44_24 : decode (q_mB 44) 24 = .ok (.if_icmp .lt 10, 3) := by decide +kernel
theorem k44_27 : decode (q_mB 44) 27 = .ok (.aload_n 0, 1) := by decide +kernel
theorem k44_28 : decode (q_mB 44) 28 = .ok (.bipush (-6), 2) := by decide +kernel
theorem k44_30 : decode (q_mB 44) 30 = .ok (.invokevirtual 100, 3) := by decide +kernel
theorem k44_33 : decode (q_mB 44) 33 = .ok (.ireturn, 1) := by decide +kernel
theorem k44_34 : decode (q_mB 44) 34 = .ok (.aload_n 0, 1) := by decide +kernel
theorem k44_35 : decode (q_mB 44) 35 = .ok (.getfield 9, 3) := by decide +kernel
theorem k44_38 : decode (q_mB 44) 38 = .ok (.aload_n 0, 1) := by decide +kernel
theorem k44_39 : decode (q_mB 44) 39 = .ok (.getfield 104, 3) := by decide +kernel
theorem k44_42 : decode (q_mB 44) 42 = .ok (.iload_n 1, 1) := by decide +kernel
theorem k44_43 : decode (q_mB 44) 43 = .ok (.iastore, 1) := by decide +kernel
theorem k44_44 : decode (q_mB 44) 44 = .ok (.aload_n 0, 1) := by decide +kernel
theorem k44_45 : decode (q_mB 44) 45 = .ok (.dup, 1) := by decide +kernel
theorem k44_46 : decode (q_mB 44) 46 = .ok (.getfield 104, 3) := by decide +kernel
theorem k44_49 : decode (q_mB 44) 49 = .ok (.iconst 1, 1) := by decide +kernel
theorem k44_50 : decode (q_mB 44) 50 = .ok (.iadd, 1) := by decide +kernel
theorem k44_51 : decode (q_mB 44) 51 = .ok (.putfield 104, 3) := by decide +kernel
theorem k44_54 : decode (q_mB 44) 54 = .ok (.aload_n 0, 1) := by decide +kernel
theorem k44_55 : decode (q_mB 44) 55 = .ok (.getfield 104, 3) := by decide +kernel
theorem k44_58 : decode (q_mB 44) 58 = .ok (.ireturn, 1) := by decide +kernel
theorem k45_0 : decode (q_mB 45) 0 = .ok (.aload_n 0, 1) := by decide +kernel
theorem k45_1 : decode (q_mB 45) 1 = .ok (.getfield 19, 3) := by decide +kernel
theorem k45_4 : decode (q_mB 45) 4 = .ok (.aload_n 0, 1) := by decide +kernel
theorem k45_5 : decode (q_mB 45) 5 = .ok (.getfield 9, 3) := by decide +kernel
theorem k45_8 : decode (q_mB 45) 8 = .ok (.aload_n 0, 1) := by decide +kernel
theorem k45_9 : decode (q_mB 45) 9 = .ok (.getfield 104, 3) := by decide +kernel
theorem k45_12 : decode (q_mB 45) 12 = .ok (.invokevirtual 107, 3) := by decide +kernel
theorem k45_15 : decode (q_mB 45) 15 = .ok (.istore_n 1, 1) := by decide +kernel
theorem k45_16 : decode (q_mB 45) 16 = .ok (.aload_n 0, 1) := by decide +kernel
theorem k45_17 : decode (q_mB 45) 17 = .ok (.iconst 0, 1) := by decide +kernel
theorem k45_18 : decode (q_mB 45) 18 = .ok (.putfield 104, 3) := by decide +kernel
theorem k45_21 : decode (q_mB 45) 21 = .ok (.iload_n 1, 1) := by decide +kernel
theorem k45_22 : decode (q_mB 45) 22 = .ok (.ifCond .eq 5, 3) := by decide +kernel
theorem k45_25 : decode (q_mB 45) 25 = .ok (.iload_n 1, 1) := by decide +kernel
theorem k45_26 : decode (q_mB 45) 26 = .ok (.ireturn, 1) := by decide +kernel
theorem k45_27 : decode (q_mB 45) 27 = .ok (.aload_n 0, 1) := by decide +kernel
theorem k45_28 : decode (q_mB 45) 28 = .ok (.dup, 1) := by decide +kernel
theorem k45_29 : decode (q_mB 45) 29 = .ok (.getfield 111, 3) := by decide +kernel
theorem k45_32 : decode (q_mB 45) 32 = .ok (.iconst 1, 1) := by decide +kernel
theorem k45_33 : decode (q_mB 45) 33 = .ok (.iadd, 1) := by decide +kernel
theorem k45_34 : decode (q_mB 45) 34 = .ok (.putfield 111, 3) := by decide +kernel
theorem k45_37 : decode (q_mB 45) 37 = .ok (.aload_n 0, 1) := by decide +kernel
theorem k45_38 : decode (q_mB 45) 38 = .ok (.getfield 26, 3) := by decide +kernel
theorem k45_41 : decode (q_mB 45) 41 = .ok (.aload_n 0, 1) := by decide +kernel
theorem k45_42 : decode (q_mB 45) 42 = .ok (.getfield 19, 3) := by decide +kernel
theorem k45_45 : decode (q_mB 45) 45 = .ok (.aload_n 0, 1) := by decide +kernel
theorem k45_46 : decode (q_mB 45) 46 = .ok (.getfield 111, 3) := by decide +kernel
theorem k45_49 : decode (q_mB 45) 49 = .ok (.invokevirtual 114, 3) := by decide +kernel
theorem k45_52 : decode (q_mB 45) 52 = .ok (.aload_n 0, 1) := by decide +kernel
theorem k45_53 : decode (q_mB 45) 53 = .ok (.iconst (-1), 1) := by decide +kernel
theorem k45_54 : decode (q_mB 45) 54 = .ok (.putfield 58, 3) := by decide +kernel
theorem k45_57 : decode (q_mB 45) 57 = .ok (.aload_n 0, 1) := by decide +kernel
theorem k45_58 : decode (q_mB 45) 58 = .ok (.getfield 26, 3) := by decide +kernel
theorem k45_61 : decode (q_mB 45) 61 = .ok (.getfield 63, 3) := by decide +kernel
theorem k45_64 : decode (q_mB 45) 64 = .ok (.getfield 118, 3) := by decide +kernel
theorem k45_67 : decode (q_mB 45) 67 = .ok (.ireturn, 1) := by decide +kernel
theorem k46_0 : decode (q_mB 46) 0 = .ok (.aload_n 0, 1) := by decide +kernel
theorem k46_1 : decode (q_mB 46) 1 = .ok (.getfield 26, 3) := by decide +kernel
theorem k46_4 : decode (q_mB 46) 4 = .ok (.getfield 63, 3) := by decide +kernel
theorem k46_7 : decode (q_mB 46) 7 = .ok (.iload_n 1, 1) := by decide +kernel
theorem k46_8 : decode (q_mB 46) 8 = .ok (.invokevirtual 121, 3) := by decide +kernel
theorem k46_11 : decode (q_mB 46) 11 = .ok (.ifCond .ne 9, 3) := by decide +kernel
theorem k46_14 : decode (q_mB 46) 14 = .ok (.aload_n 0, 1) := by decide +kernel
theorem k46_15 : decode (q_mB 46) 15 = .ok (.iconst (-1), 1) := by decide +kernel
theorem k46_16 : decode (q_mB 46) 16 = .ok (.invokevirtual 100, 3) := by decide +kernel
theorem k46_19 : decode (q_mB 46) 19 = .ok (.ireturn, 1) := by decide +kernel
theorem k46_20 : decode (q_mB 46) 20 = .ok (.iload_n 2, 1) := by decide +kernel
theorem k46_21 : decode (q_mB 46) 21 = .ok (.tableswitch 66 0 2 #[27, 40, 53], 27) := by decide +kernel
theorem k46_48 : decode (q_mB 46) 48 = .ok (.aload_n 0, 1) := by decide +kernel
theorem k46_49 : decode (q_mB 46) 49 = .ok (.getfield 26, 3) := by decide +kernel
theorem k46_52 : decode (q_mB 46) 52 = .ok (.getfield 63, 3) := by decide +kernel
theorem k46_55 : decode (q_mB 46) 55 = .ok (.getfield 125, 3) := by decide +kernel
theorem k46_58 : decode (q_mB 46) 58 = .ok (.iload_n 1, 1) := by decide +kernel
theorem k46_59 : decode (q_mB 46) 59 = .ok (.iaload, 1) := by decide +kernel
theorem k46_60 : decode (q_mB 46) 60 = .ok (.ireturn, 1) := by decide +kernel
theorem k46_61 : decode (q_mB 46) 61 = .ok (.aload_n 0, 1) := by decide +kernel
theorem k46_62 : decode (q_mB 46) 62 = .ok (.getfield 26, 3) := by decide +kernel
theorem k46_65 : decode (q_mB 46) 65 = .ok (.getfield 63, 3) := by decide +kernel
theorem k46_68 : decode (q_mB 46) 68 = .ok (.getfield 128, 3) := by decide +kernel
theorem k46_71 : decode (q_mB 46) 71 = .ok (.iload_n 1, 1) := by decide +kernel
theorem k46_72 : decode (q_mB 46) 72 = .ok (.iaload, 1) := by decide +kernel
theorem k46_73 : decode (q_mB 46) 73 = .ok (.ireturn, 1) := by decide +kernel
theorem k46_74 : decode (q_mB 46) 74 = .ok (.aload_n 0, 1) := by decide +kernel
theorem k46_75 : decode (q_mB 46) 75 = .ok (.getfield 26, 3) := by decide +kernel
theorem k46_78 : decode (q_mB 46) 78 = .ok (.getfield 63, 3) := by decide +kernel
theorem k46_81 : decode (q_mB 46) 81 = .ok (.getfield 131, 3) := by decide +kernel
theorem k46_84 : decode (q_mB 46) 84 = .ok (.iload_n 1, 1) := by decide +kernel
theorem k46_85 : decode (q_mB 46) 85 = .ok (.iaload, 1) := by decide +kernel
theorem k46_86 : decode (q_mB 46) 86 = .ok (.ireturn, 1) := by decide +kernel
theorem k46_87 : decode (q_mB 46) 87 = .ok (.aload_n 0, 1) := by decide +kernel
theorem k46_88 : decode (q_mB 46) 88 = .ok (.bipush (-2), 2) := by decide +kernel
theorem k46_90 : decode (q_mB 46) 90 = .ok (.invokevirtual 100, 3) := by decide +kernel
theorem k46_93 : decode (q_mB 46) 93 = .ok (.ireturn, 1) := by decide +kernel
theorem k47_0 : decode (q_mB 47) 0 = .ok (.iload_n 1, 1) := by decide +kernel
theorem k47_1 : decode (q_mB 47) 1 = .ok (.ifCond .lt 8, 3) := by decide +kernel
theorem k47_4 : decode (q_mB 47) 4 = .ok (.iload_n 1, 1) := by decide +kernel
theorem k47_5 : decode (q_mB 47) 5 = .ok (.iconst 5, 1) := by decide +kernel
theorem k47_6 : decode (q_mB 47) 6 = .ok (.if_icmp .lt 10, 3) := by decide +kernel
theorem k47_9 : decode (q_mB 47) 9 = .ok (.aload_n 0, 1) := by decide +kernel
theorem k47_10 : decode (q_mB 47) 10 = .ok (.bipush (-2), 2) := by decide +kernel
theorem k47_12 : decode (q_mB 47) 12 = .ok (.invokevirtual 100, 3) := by decide +kernel
theorem k47_15 : decode (q_mB 47) 15 = .ok (.ireturn, 1) := by decide +kernel
theorem k47_16 : decode (q_mB 47) 16 = .ok (.aload_n 0, 1) := by decide +kernel
theorem k47_17 : decode (q_mB 47) 17 = .ok (.getfield 26, 3) := by decide +kernel
theorem k47_20 : decode (q_mB 47) 20 = .ok (.getfield 134, 3) := by decide +kernel
theorem k47_23 : decode (q_mB 47) 23 = .ok (.istore_n 2, 1) := by decide +kernel
theorem k47_24 : decode (q_mB 47) 24 = .ok (.aload_n 0, 1) := by decide +kernel
theorem k47_25 : decode (q_mB 47) 25 = .ok (.getfield 26, 3) := by decide +kernel
theorem k47_28 : decode (q_mB 47) 28 = .ok (.iload_n 1, 1) := by decide +kernel
theorem k47_29 : decode (q_mB 47) 29 = .ok (.putfield 134, 3) := by decide +kernel
theorem k47_32 : decode (q_mB 47) 32 = .ok (.aload_n 0, 1) := by decide +kernel
theorem k47_33 : decode (q_mB 47) 33 = .ok (.iconst (-1), 1) := by decide +kernel
theorem k47_34 : decode (q_mB 47) 34 = .ok (.putfield 58, 3) := by decide +kernel
theorem k47_37 : decode (q_mB 47) 37 = .ok (.iload_n 2, 1) := by decide +kernel
theorem k47_38 : decode (q_mB 47) 38 = .ok (.ireturn, 1) := by decide +kernel
theorem k48_0 : decode (q_mB 48) 0 = .ok (.aload_n 0, 1) := by decide +kernel
theorem k48_1 : decode (q_mB 48) 1 = .ok (.invokevirtual 137, 3) := by decide +kernel
theorem k48_4 : decode (q_mB 48) 4 = .ok (.ifCond .ne 10, 3) := by decide +kernel
theorem k48_7 : decode (q_mB 48) 7 = .ok (.aload_n 0, 1) := by decide +kernel
theorem k48_8 : decode (q_mB 48) 8 = .ok (.bipush (-3), 2) := by decide +kernel
theorem k48_10 : decode (q_mB 48) 10 = .ok (.invokevirtual 100, 3) := by decide +kernel
theorem k48_13 : decode (q_mB 48) 13 = .ok (.ireturn, 1) := by decide +kernel
theorem k48_14 : decode (q_mB 48) 14 = .ok (.iload_n 1, 1) := by decide +kernel
theorem k48_15 : decode (q_mB 48) 15 = .ok (.aload_n 0, 1) := by decide +kernel
theorem k48_16 : decode (q_mB 48) 16 = .ok (.getfield 26, 3) := by decide +kernel
theorem k48_19 : decode (q_mB 48) 19 = .ok (.getfield 63, 3) := by decide +kernel
theorem k48_22 : decode (q_mB 48) 22 = .ok (.getfield 141, 3) := by decide +kernel
theorem k48_25 : decode (q_mB 48) 25 = .ok (.invokestatic 144, 3) := by decide +kernel
theorem k48_28 : decode (q_mB 48) 28 = .ok (.ifCond .ge 9, 3) := by decide +kernel
theorem k48_31 : decode (q_mB 48) 31 = .ok (.aload_n 0, 1) := by decide +kernel
theorem k48_32 : decode (q_mB 48) 32 = .ok (.iconst (-1), 1) := by decide +kernel
theorem k48_33 : decode (q_mB 48) 33 = .ok (.invokevirtual 100, 3) := by decide +kernel
theorem k48_36 : decode (q_mB 48) 36 = .ok (.ireturn, 1) := by decide +kernel
theorem k48_37 : decode (q_mB 48) 37 = .ok (.aload_n 0, 1) := by decide +kernel
theorem k48_38 : decode (q_mB 48) 38 = .ok (.getfield 26, 3) := by decide +kernel
theorem k48_41 : decode (q_mB 48) 41 = .ok (.getfield 148, 3) := by decide +kernel
theorem k48_44 : decode (q_mB 48) 44 = .ok (.istore_n 2, 1) := by decide +kernel
theorem k48_45 : decode (q_mB 48) 45 = .ok (.aload_n 0, 1) := by decide +kernel
theorem k48_46 : decode (q_mB 48) 46 = .ok (.getfield 26, 3) := by decide +kernel
theorem k48_49 : decode (q_mB 48) 49 = .ok (.iload_n 1, 1) := by decide +kernel
theorem k48_50 : decode (q_mB 48) 50 = .ok (.putfield 148, 3) := by decide +kernel
theorem k48_53 : decode (q_mB 48) 53 = .ok (.aload_n 0, 1) := by decide +kernel
theorem k48_54 : decode (q_mB 48) 54 = .ok (.iconst (-1), 1) := by decide +kernel
theorem k48_55 : decode (q_mB 48) 55 = .ok (.putfield 58, 3) := by decide +kernel
theorem k48_58 : decode (q_mB 48) 58 = .ok (.iload_n 2, 1) := by decide +kernel
theorem k48_59 : decode (q_mB 48) 59 = .ok (.ireturn, 1) := by decide +kernel
theorem k49_0 : decode (q_mB 49) 0 = .ok (.aload_n 0, 1) := by decide +kernel
theorem k49_1 : decode (q_mB 49) 1 = .ok (.getfield 26, 3) := by decide +kernel
theorem k49_4 : decode (q_mB 49) 4 = .ok (.getfield 63, 3) := by decide +kernel
theorem k49_7 : decode (q_mB 49) 7 = .ok (.iload_n 1, 1) := by decide +kernel
theorem k49_8 : decode (q_mB 49) 8 = .ok (.invokevirtual 151, 3) := by decide +kernel
theorem k49_11 : decode (q_mB 49) 11 = .ok (.ifCond .eq 17, 3) := by decide +kernel
theorem k49_14 : decode (q_mB 49) 14 = .ok (.aload_n 0, 1) := by decide +kernel
theorem k49_15 : decode (q_mB 49) 15 = .ok (.getfield 26, 3) := by decide +kernel
theorem k49_18 : decode (q_mB 49) 18 = .ok (.getfield 63, 3) := by decide +kernel
theorem k49_21 : decode (q_mB 49) 21 = .ok (.iload_n 2, 1) := by decide +kernel
theorem k49_22 : decode (q_mB 49) 22 = .ok (.invokevirtual 151, 3) := by decide +kernel
theorem k49_25 : decode (q_mB 49) 25 = .ok (.ifCond .ne 9, 3) := by decide +kernel
theorem k49_28 : decode (q_mB 49) 28 = .ok (.aload_n 0, 1) := by decide +kernel
theorem k49_29 : decode (q_mB 49) 29 = .ok (.iconst (-1), 1) := by decide +kernel
theorem k49_30 : decode (q_mB 49) 30 = .ok (.invokevirtual 100, 3) := by decide +kernel
theorem k49_33 : decode (q_mB 49) 33 = .ok (.ireturn, 1) := by decide +kernel
theorem k49_34 : decode (q_mB 49) 34 = .ok (.aload_n 0, 1) := by decide +kernel
theorem k49_35 : decode (q_mB 49) 35 = .ok (.getfield 26, 3) := by decide +kernel
theorem k49_38 : decode (q_mB 49) 38 = .ok (.getfield 63, 3) := by decide +kernel
theorem k49_41 : decode (q_mB 49) 41 = .ok (.iload_n 1, 1) := by decide +kernel
theorem k49_42 : decode (q_mB 49) 42 = .ok (.iload_n 2, 1) := by decide +kernel
theorem k49_43 : decode (q_mB 49) 43 = .ok (.invokevirtual 154, 3) := by decide +kernel
theorem k49_46 : decode (q_mB 49) 46 = .ok (.ireturn, 1) := by decide +kernel
theorem k50_0 : decode (q_mB 50) 0 = .ok (.aload_n 0, 1) := by decide +kernel
theorem k50_1 : decode (q_mB 50) 1 = .ok (.invokevirtual 137, 3) := by decide +kernel
theorem k50_4 : decode (q_mB 50) 4 = .ok (.ifCond .ne 10, 3) := by decide +kernel
theorem k50_7 : decode (q_mB 50) 7 = .ok (.aload_n 0, 1) := by decide +kernel
theorem k50_8 : decode (q_mB 50) 8 = .ok (.bipush (-3), 2) := by decide +kernel
theorem k50_10 : decode (q_mB 50) 10 = .ok (.invokevirtual 100, 3) := by decide +kernel
theorem k50_13 : decode (q_mB 50) 13 = .ok (.ireturn, 1) := by decide +kernel
theorem k50_14 : decode (q_mB 50) 14 = .ok (.aload_n 0, 1) := by decide +kernel
theorem k50_15 : decode (q_mB 50) 15 = .ok (.invokevirtual 157, 3) := by decide +kernel
theorem k50_18 : decode (q_mB 50) 18 = .ok (.ireturn, 1) := by decide +kernel
theorem k51_0 : decode (q_mB 51) 0 = .ok (.aload_n 0, 1) := by decide +kernel
theorem k51_1 : decode (q_mB 51) 1 = .ok (.invokevirtual 137, 3) := by decide +kernel
theorem k51_4 : decode (q_mB 51) 4 = .ok (.ifCond .ne 13, 3) := by decide +kernel
theorem k51_7 : decode (q_mB 51) 7 = .ok (.ldc 161, 2) := by decide +kernel
theorem k51_9 : decode (q_mB 51) 9 = .ok (.aload_n 0, 1) := by decide +kernel
theorem k51_10 : decode (q_mB 51) 10 = .ok (.bipush (-3), 2) := by decide +kernel
theorem k51_12 : decode (q_mB 51) 12 = .ok (.invokevirtual 100, 3) := by decide +kernel
theorem k51_15 : decode (q_mB 51) 15 = .ok (.isub, 1) := by decide +kernel
theorem k51_16 : decode (q_mB 51) 16 = .ok (.ireturn, 1) := by decide +kernel
theorem k51_17 : decode (q_mB 51) 17 = .ok (.aload_n 0, 1) := by decide +kernel
theorem k51_18 : decode (q_mB 51) 18 = .ok (.iconst 0, 1) := by decide +kernel
theorem k51_19 : decode (q_mB 51) 19 = .ok (.iconst 0, 1) := by decide +kernel
theorem k51_20 : decode (q_mB 51) 20 = .ok (.invokevirtual 162, 3) := by decide +kernel
theorem k51_23 : decode (q_mB 51) 23 = .ok (.ireturn, 1) := by decide +kernel
theorem k52_0 : decode (q_mB 52) 0 = .ok (.aload_n 0, 1) := by decide +kernel
theorem k52_1 : decode (q_mB 52) 1 = .ok (.invokevirtual 137, 3) := by decide +kernel
theorem k52_4 : decode (q_mB 52) 4 = .ok (.ifCond .ne 10, 3) := by decide +kernel
theorem k52_7 : decode (q_mB 52) 7 = .ok (.aload_n 0, 1) := by decide +kernel
theorem k52_8 : decode (q_mB 52) 8 = .ok (.bipush (-3), 2) := by decide +kernel
theorem k52_10 : decode (q_mB 52) 10 = .ok (.invokevirtual 100, 3) := by decide +kernel
theorem k52_13 : decode (q_mB 52) 13 = .ok (.ireturn, 1) := by decide +kernel
theorem k52_14 : decode (q_mB 52) 14 = .ok (.aload_n 0, 1) := by decide +kernel
theorem k52_15 : decode (q_mB 52) 15 = .ok (.getfield 26, 3) := by decide +kernel
theorem k52_18 : decode (q_mB 52) 18 = .ok (.getfield 63, 3) := by decide +kernel
theorem k52_21 : decode (q_mB 52) 21 = .ok (.getfield 141, 3) := by decide +kernel
theorem k52_24 : decode (q_mB 52) 24 = .ok (.istore_n 1, 1) := by decide +kernel
theorem k52_25 : decode (q_mB 52) 25 = .ok (.iconst 0, 1) := by decide +kernel
theorem k52_26 : decode (q_mB 52) 26 = .ok (.istore_n 2, 1) := by decide +kernel
theorem k52_27 : decode (q_mB 52) 27 = .ok (.iload_n 1, 1) := by decide +kernel
theorem k52_28 : decode (q_mB 52) 28 = .ok (.invokestatic 165, 3) := by decide +kernel
theorem k52_31 : decode (q_mB 52) 31 = .ok (.iconst 1, 1) := by decide +kernel
theorem k52_32 : decode (q_mB 52) 32 = .ok (.iadd, 1) := by decide +kernel
theorem k52_33 : decode (q_mB 52) 33 = .ok (.istore_n 3, 1) := by decide +kernel
theorem k52_34 : decode (q_mB 52) 34 = .ok (.iload_n 3, 1) := by decide +kernel
theorem k52_35 : decode (q_mB 52) 35 = .ok (.iload_n 1, 1) := by decide +kernel
theorem k52_36 : decode (q_mB 52) 36 = .ok (.invokestatic 168, 3) := by decide +kernel
theorem k52_39 : decode (q_mB 52) 39 = .ok (.if_icmp .ge 15, 3) := by decide +kernel
theorem k52_42 : decode (q_mB 52) 42 = .ok (.iload_n 2, 1) := by decide +kernel
theorem k52_43 : decode (q_mB 52) 43 = .ok (.iconst 1, 1) := by decide +kernel
theorem k52_44 : decode (q_mB 52) 44 = .ok (.iload_n 3, 1) := by decide +kernel
theorem k52_45 : decode (q_mB 52) 45 = .ok (.ishl, 1) := by decide +kernel
theorem k52_46 : decode (q_mB 52) 46 = .ok (.ior, 1) := by decide +kernel
theorem k52_47 : decode (q_mB 52) 47 = .ok (.istore_n 2, 1) := by decide +kernel
theorem k52_48 : decode (q_mB 52) 48 = .ok (.iinc 3 1, 3) := by decide +kernel
theorem k52_51 : decode (q_mB 52) 51 = .ok (.goto (-17), 3) := by decide +kernel
theorem k52_54 : decode (q_mB 52) 54 = .ok (.aload_n 0, 1) := by decide +kernel
theorem k52_55 : decode (q_mB 52) 55 = .ok (.invokevirtual 171, 3) := by decide +kernel
theorem k52_58 : decode (q_mB 52) 58 = .ok (.iload_n 2, 1) := by decide +kernel
theorem k52_59 : decode (q_mB 52) 59 = .ok (.invokevirtual 175, 3) := by decide +kernel
theorem k52_62 : decode (q_mB 52) 62 = .ok (.ifCond .ne 7, 3) := by decide +kernel
theorem k52_65 : decode (q_mB 52) 65 = .ok (.iconst 1, 1) := by decide +kernel
theorem k52_66 : decode (q_mB 52) 66 = .ok (.goto 4, 3) := by decide +kernel
theorem k52_69 : decode (q_mB 52) 69 = .ok (.iconst 0, 1) := by decide +kernel
theorem k52_70 : decode (q_mB 52) 70 = .ok (.ireturn, 1) := by decide +kernel
