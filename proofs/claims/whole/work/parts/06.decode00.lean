theorem k0_0 : decode (q_mB 0) 0 = .ok (.iconst 1, 1) := by decide +kernel
theorem k0_1 : decode (q_mB 0) 1 = .ok (.iload_n 2, 1) := by decide +kernel
theorem k0_2 : decode (q_mB 0) 2 = .ok (.ishl, 1) := by decide +kernel
theorem k0_3 : decode (q_mB 0) 3 = .ok (.iconst 1, 1) := by decide +kernel
theorem k0_4 : decode (q_mB 0) 4 = .ok (.isub, 1) := by decide +kernel
theorem k0_5 : decode (q_mB 0) 5 = .ok (.ireturn, 1) := by decide +kernel
theorem k1_0 : decode (q_mB 1) 0 = .ok (.iconst 0, 1) := by decide +kernel
theorem k1_1 : decode (q_mB 1) 1 = .ok (.istore 5, 2) := by decide +kernel
theorem k1_3 : decode (q_mB 1) 3 = .ok (.iload 5, 2) := by decide +kernel
theorem k1_5 : decode (q_mB 1) 5 = .ok (.aload_n 0, 1) := by decide +kernel
theorem k1_6 : decode (q_mB 1) 6 = .ok (.getfield 18, 3) := by decide +kernel
theorem k1_9 : decode (q_mB 1) 9 = .ok (.getfield 22, 3) := by decide +kernel
theorem k1_12 : decode (q_mB 1) 12 = .ok (.if_icmp .ge 30, 3) := by decide +kernel
theorem k1_15 : decode (q_mB 1) 15 = .ok (.aload_n 0, 1) := by decide +kernel
theorem k1_16 : decode (q_mB 1) 16 = .ok (.getfield 15, 3) := by decide +kernel
theorem k1_19 : decode (q_mB 1) 19 = .ok (.iload 5, 2) := by decide +kernel
theorem k1_21 : decode (q_mB 1) 21 = .ok (.aload_n 1, 1) := by decide +kernel
theorem k1_22 : decode (q_mB 1) 22 = .ok (.iload 5, 2) := by decide +kernel
theorem k1_24 : decode (q_mB 1) 24 = .ok (.aload_n 0, 1) := by decide +kernel
theorem k1_25 : decode (q_mB 1) 25 = .ok (.getfield 18, 3) := by decide +kernel
theorem k1_28 : decode (q_mB 1) 28 = .ok (.getfield 22, 3) := by decide +kernel
theorem k1_31 : decode (q_mB 1) 31 = .ok (.iload_n 2, 1) := by decide +kernel
theorem k1_32 : decode (q_mB 1) 32 = .ok (.invokevirtual 28, 3) := by decide +kernel
theorem k1_35 : decode (q_mB 1) 35 = .ok (.iastore, 1) := by decide +kernel
theorem k1_36 : decode (q_mB 1) 36 = .ok (.iinc 5 1, 3) := by decide +kernel
theorem k1_39 : decode (q_mB 1) 39 = .ok (.goto (-36), 3) := by decide +kernel
theorem k1_42 : decode (q_mB 1) 42 = .ok (.aload_n 0, 1) := by decide +kernel
theorem k1_43 : decode (q_mB 1) 43 = .ok (.iload_n 3, 1) := by decide +kernel
theorem k1_44 : decode (q_mB 1) 44 = .ok (.putfield 34, 3) := by decide +kernel
theorem k1_47 : decode (q_mB 1) 47 = .ok (.aload_n 0, 1) := by decide +kernel
theorem k1_48 : decode (q_mB 1) 48 = .ok (.iload 4, 2) := by decide +kernel
theorem k1_50 : decode (q_mB 1) 50 = .ok (.putfield 37, 3) := by decide +kernel
theorem k1_53 : decode (q_mB 1) 53 = .ok (.aload_n 0, 1) := by decide +kernel
theorem k1_54 : decode (q_mB 1) 54 = .ok (.iconst 0, 1) := by decide +kernel
theorem k1_55 : decode (q_mB 1) 55 = .ok (.putfield 40, 3) := by decide +kernel
theorem k1_58 : decode (q_mB 1) 58 = .ok (.aload_n 0, 1) := by decide +kernel
theorem k1_59 : decode (q_mB 1) 59 = .ok (.iconst 0, 1) := by decide +kernel
theorem k1_60 : decode (q_mB 1) 60 = .ok (.iconst 0, 1) := by decide +kernel
theorem k1_61 : decode (q_mB 1) 61 = .ok (.invokevirtual 43, 3) := by decide +kernel
theorem k1_64 : decode (q_mB 1) 64 = .ok (.aload_n 0, 1) := by decide +kernel
theorem k1_65 : decode (q_mB 1) 65 = .ok (.getfield 40, 3) := by decide +kernel
theorem k1_68 : decode (q_mB 1) 68 = .ok (.ireturn, 1) := by decide +kernel
theorem k2_0 : decode (q_mB 2) 0 = .ok (.iload_n 1, 1) := by decide +kernel
theorem k2_1 : decode (q_mB 2) 1 = .ok (.aload_n 0, 1) := by decide +kernel
theorem k2_2 : decode (q_mB 2) 2 = .ok (.getfield 18, 3) := by decide +kernel
theorem k2_5 : decode (q_mB 2) 5 = .ok (.getfield 22, 3) := by decide +kernel
theorem k2_8 : decode (q_mB 2) 8 = .ok (.if_icmp .lt 27, 3) := by decide +kernel
theorem k2_11 : decode (q_mB 2) 11 = .ok (.iload_n 2, 1) := by decide +kernel
theorem k2_12 : decode (q_mB 2) 12 = .ok (.aload_n 0, 1) := by decide +kernel
theorem k2_13 : decode (q_mB 2) 13 = .ok (.getfield 34, 3) := by decide +kernel
theorem k2_16 : decode (q_mB 2) 16 = .ok (.iand, 1) := by decide +kernel
theorem k2_17 : decode (q_mB 2) 17 = .ok (.aload_n 0, 1) := by decide +kernel
theorem k2_18 : decode (q_mB 2) 18 = .ok (.getfield 34, 3) := by decide +kernel
theorem k2_21 : decode (q_mB 2) 21 = .ok (.if_icmp .ne 13, 3) := by decide +kernel
theorem k2_24 : decode (q_mB 2) 24 = .ok (.aload_n 0, 1) := by decide +kernel
theorem k2_25 : decode (q_mB 2) 25 = .ok (.dup, 1) := by decide +kernel
theorem k2_26 : decode (q_mB 2) 26 = .ok (.getfield 40, 3) := by decide +kernel
theorem k2_29 : decode (q_mB 2) 29 = .ok (.iconst 1, 1) := by decide +kernel
theorem k2_30 : decode (q_mB 2) 30 = .ok (.iadd, 1) := by decide +kernel
theorem k2_31 : decode (q_mB 2) 31 = .ok (.putfield 40, 3) := by decide +kernel
theorem k2_34 : decode (q_mB 2) 34 = .ok (.return_, 1) := by decide +kernel
theorem k2_35 : decode (q_mB 2) 35 = .ok (.iconst 0, 1) := by decide +kernel
theorem k2_36 : decode (q_mB 2) 36 = .ok (.istore_n 3, 1) := by decide +kernel
theorem k2_37 : decode (q_mB 2) 37 = .ok (.iload_n 3, 1) := by decide +kernel
theorem k2_38 : decode (q_mB 2) 38 = .ok (.aload_n 0, 1) := by decide +kernel
theorem k2_39 : decode (q_mB 2) 39 = .ok (.getfield 18, 3) := by decide +kernel
theorem k2_42 : decode (q_mB 2) 42 = .ok (.getfield 47, 3) := by decide +kernel
theorem k2_45 : decode (q_mB 2) 45 = .ok (.iload_n 1, 1) := by decide +kernel
theorem k2_46 : decode (q_mB 2) 46 = .ok (.iaload, 1) := by decide +kernel
theorem k2_47 : decode (q_mB 2) 47 = .ok (.if_icmp .ge 82, 3) := by decide +kernel
theorem k2_50 : decode (q_mB 2) 50 = .ok (.aload_n 0, 1) := by decide +kernel
theorem k2_51 : decode (q_mB 2) 51 = .ok (.getfield 40, 3) := by decide +kernel
theorem k2_54 : decode (q_mB 2) 54 = .ok (.aload_n 0, 1) := by decide +kernel
theorem k2_55 : decode (q_mB 2) 55 = .ok (.getfield 37, 3) := by decide +kernel
theorem k2_58 : decode (q_mB 2) 58 = .ok (.if_icmp .ge 71, 3) := by decide +kernel
theorem k2_61 : decode (q_mB 2) 61 = .ok (.aload_n 0, 1) := by decide +kernel
theorem k2_62 : decode (q_mB 2) 62 = .ok (.getfield 18, 3) := by decide +kernel
theorem k2_65 : decode (q_mB 2) 65 = .ok (.getfield 50, 3) := by decide +kernel
theorem k2_68 : decode (q_mB 2) 68 = .ok (.iload_n 1, 1) := by decide +kernel
theorem k2_69 : decode (q_mB 2) 69 = .ok (.aaload, 1) := by decide +kernel
theorem k2_70 : decode (q_mB 2) 70 = .ok (.iload_n 3, 1) := by decide +kernel
theorem k2_71 : decode (q_mB 2) 71 = .ok (.iaload, 1) := by decide +kernel
theorem k2_72 : decode (q_mB 2) 72 = .ok (.istore 4, 2) := by decide +kernel
theorem k2_74 : decode (q_mB 2) 74 = .ok (.iload 4, 2) := by decide +kernel
theorem k2_76 : decode (q_mB 2) 76 = .ok (.iload_n 2, 1) := by decide +kernel
theorem k2_77 : decode (q_mB 2) 77 = .ok (.iand, 1) := by decide +kernel
theorem k2_78 : decode (q_mB 2) 78 = .ok (.ifCond .ne 45, 3) := by decide +kernel
theorem k2_81 : decode (q_mB 2) 81 = .ok (.aload_n 0, 1) := by decide +kernel
theorem k2_82 : decode (q_mB 2) 82 = .ok (.getfield 15, 3) := by decide +kernel
theorem k2_85 : decode (q_mB 2) 85 = .ok (.iload_n 1, 1) := by decide +kernel
theorem k2_86 : decode (q_mB 2) 86 = .ok (.iaload, 1) := by decide +kernel
theorem k2_87 : decode (q_mB 2) 87 = .ok (.aload_n 0, 1) := by decide +kernel
theorem k2_88 : decode (q_mB 2) 88 = .ok (.getfield 18, 3) := by decide +kernel
theorem k2_91 : decode (q_mB 2) 91 = .ok (.getfield 54, 3) := by decide +kernel
theorem k2_94 : decode (q_mB 2) 94 = .ok (.iload_n 1, 1) := by decide +kernel
theorem k2_95 : decode (q_mB 2) 95 = .ok (.aaload, 1) := by decide +kernel
theorem k2_96 : decode (q_mB 2) 96 = .ok (.iload_n 3, 1) := by decide +kernel
theorem k2_97 : decode (q_mB 2) 97 = .ok (.iaload, 1) := by decide +kernel
theorem k2_98 : decode (q_mB 2) 98 = .ok (.ishr, 1) := by decide +kernel
theorem k2_99 : decode (q_mB 2) 99 = .ok (.iconst 1, 1) := by decide +kernel
theorem k2_100 : decode (q_mB 2) 100 = .ok (.iand, 1) := by decide +kernel
theorem k2_101 : decode (q_mB 2) 101 = .ok (.ifCond .eq 22, 3) := by decide +kernel
theorem k2_104 : decode (q_mB 2) 104 = .ok (.aload_n 0, 1) := by decide +kernel
theorem k2_105 : decode (q_mB 2) 105 = .ok (.getfield 9, 3) := by decide +kernel
theorem k2_108 : decode (q_mB 2) 108 = .ok (.iload_n 1, 1) := by decide +kernel
theorem k2_109 : decode (q_mB 2) 109 = .ok (.iload 4, 2) := by decide +kernel
theorem k2_111 : decode (q_mB 2) 111 = .ok (.iastore, 1) := by decide +kernel
theorem k2_112 : decode (q_mB 2) 112 = .ok (.aload_n 0, 1) := by decide +kernel
theorem k2_113 : decode (q_mB 2) 113 = .ok (.iload_n 1, 1) := by decide +kernel
theorem k2_114 : decode (q_mB 2) 114 = .ok (.iconst 1, 1) := by decide +kernel
theorem k2_115 : decode (q_mB 2) 115 = .ok (.iadd, 1) := by decide +kernel
theorem k2_116 : decode (q_mB 2) 116 = .ok (.iload_n 2, 1) := by decide +kernel
theorem k2_117 : decode (q_mB 2) 117 = .ok (.iload 4, 2) := by decide +kernel
theorem k2_119 : decode (q_mB 2) 119 = .ok (.ior, 1) := by decide +kernel
theorem k2_120 : decode (q_mB 2) 120 = .ok (.invokevirtual 43, 3) := by decide +kernel
theorem k2_123 : decode (q_mB 2) 123 = .ok (.iinc 3 1, 3) := by decide +kernel
theorem k2_126 : decode (q_mB 2) 126 = .ok (.goto (-89), 3) := by decide +kernel
theorem k2_129 : decode (q_mB 2) 129 = .ok (.return_, 1) := by decide +kernel
theorem k3_0 : decode (q_mB 3) 0 = .ok (.aload_n 0, 1) := by decide +kernel
theorem k3_1 : decode (q_mB 3) 1 = .ok (.getfield 12, 3) := by decide +kernel
theorem k3_4 : decode (q_mB 3) 4 = .ok (.aload_n 1, 1) := by decide +kernel
theorem k3_5 : decode (q_mB 3) 5 = .ok (.getfield 12, 3) := by decide +kernel
theorem k3_8 : decode (q_mB 3) 8 = .ok (.invokevirtual 34, 3) := by decide +kernel
theorem k3_11 : decode (q_mB 3) 11 = .ok (.aload_n 0, 1) := by decide +kernel
theorem k3_12 : decode (q_mB 3) 12 = .ok (.aload_n 1, 1) := by decide +kernel
theorem k3_13 : decode (q_mB 3) 13 = .ok (.getfield 38, 3) := by decide +kernel
theorem k3_16 : decode (q_mB 3) 16 = .ok (.putfield 38, 3) := by decide +kernel
theorem k3_19 : decode (q_mB 3) 19 = .ok (.aload_n 0, 1) := by decide +kernel
theorem k3_20 : decode (q_mB 3) 20 = .ok (.aload_n 1, 1) := by decide +kernel
theorem k3_21 : decode (q_mB 3) 21 = .ok (.getfield 18, 3) := by decide +kernel
theorem k3_24 : decode (q_mB 3) 24 = .ok (.putfield 18, 3) := by decide +kernel
theorem k3_27 : decode (q_mB 3) 27 = .ok (.aload_n 0, 1) := by decide +kernel
theorem k3_28 : decode (q_mB 3) 28 = .ok (.aload_n 1, 1) := by decide +kernel
theorem k3_29 : decode (q_mB 3) 29 = .ok (.getfield 41, 3) := by decide +kernel
theorem k3_32 : decode (q_mB 3) 32 = .ok (.putfield 41, 3) := by decide +kernel
theorem k3_35 : decode (q_mB 3) 35 = .ok (.aload_n 0, 1) := by decide +kernel
theorem k3_36 : decode (q_mB 3) 36 = .ok (.aload_n 1, 1) := by decide +kernel
theorem k3_37 : decode (q_mB 3) 37 = .ok (.getfield 44, 3) := by decide +kernel
theorem k3_40 : decode (q_mB 3) 40 = .ok (.putfield 44, 3) := by decide +kernel
theorem k3_43 : decode (q_mB 3) 43 = .ok (.aload_n 1, 1) := by decide +kernel
theorem k3_44 : decode (q_mB 3) 44 = .ok (.getfield 22, 3) := by decide +kernel
theorem k3_47 : decode (q_mB 3) 47 = .ok (.iconst 0, 1) := by decide +kernel
theorem k3_48 : decode (q_mB 3) 48 = .ok (.aload_n 0, 1) := by decide +kernel
theorem k3_49 : decode (q_mB 3) 49 = .ok (.getfield 22, 3) := by decide +kernel
theorem k3_52 : decode (q_mB 3) 52 = .ok (.iconst 0, 1) := by decide +kernel
theorem k3_53 : decode (q_mB 3) 53 = .ok (.iconst 4, 1) := by decide +kernel
theorem k3_54 : decode (q_mB 3) 54 = .ok (.invokestatic 47, 3) := by decide +kernel
theorem k3_57 : decode (q_mB 3) 57 = .ok (.aload_n 1, 1) := by decide +kernel
theorem k3_58 : decode (q_mB 3) 58 = .ok (.getfield 26, 3) := by decide +kernel
theorem k3_61 : decode (q_mB 3) 61 = .ok (.iconst 0, 1) := by decide +kernel
theorem k3_62 : decode (q_mB 3) 62 = .ok (.aload_n 0, 1) := by decide +kernel
theorem k3_63 : decode (q_mB 3) 63 = .ok (.getfield 26, 3) := by decide +kernel
theorem k3_66 : decode (q_mB 3) 66 = .ok (.iconst 0, 1) := by decide +kernel
theorem k3_67 : decode (q_mB 3) 67 = .ok (.iconst 3, 1) := by decide +kernel
theorem k3_68 : decode (q_mB 3) 68 = .ok (.invokestatic 47, 3) := by decide +kernel
theorem k3_71 : decode (q_mB 3) 71 = .ok (.iconst 0, 1) := by decide +kernel
theorem k3_72 : decode (q_mB 3) 72 = .ok (.istore_n 2, 1) := by decide +kernel
theorem k3_73 : decode (q_mB 3) 73 = .ok (.iload_n 2, 1) := by decide +kernel
theorem k3_74 : decode (q_mB 3) 74 = .ok (.iconst 3, 1) := by decide +kernel
theorem k3_75 : decode (q_mB 3) 75 = .ok (.if_icmp .ge 28, 3) := by decide +kernel
theorem k3_78 : decode (q_mB 3) 78 = .ok (.aload_n 1, 1) := by decide +kernel
theorem k3_79 : decode (q_mB 3) 79 = .ok (.getfield 31, 3) := by decide +kernel
theorem k3_82 : decode (q_mB 3) 82 = .ok (.iload_n 2, 1) := by decide +kernel
theorem k3_83 : decode (q_mB 3) 83 = .ok (.aaload, 1) := by decide +kernel
theorem k3_84 : decode (q_mB 3) 84 = .ok (.iconst 0, 1) := by decide +kernel
theorem k3_85 : decode (q_mB 3) 85 = .ok (.aload_n 0, 1) := by decide +kernel
theorem k3_86 : decode (q_mB 3) 86 = .ok (.getfield 31, 3) := by decide +kernel
theorem k3_89 : decode (q_mB 3) 89 = .ok (.iload_n 2, 1) := by decide +kernel
theorem k3_90 : decode (q_mB 3) 90 = .ok (.aaload, 1) := by decide +kernel
theorem k3_91 : decode (q_mB 3) 91 = .ok (.iconst 0, 1) := by decide +kernel
theorem k3_92 : decode (q_mB 3) 92 = .ok (.bipush 10, 2) := by decide +kernel
theorem k3_94 : decode (q_mB 3) 94 = .ok (.invokestatic 47, 3) := by decide +kernel
theorem k3_97 : decode (q_mB 3) 97 = .ok (.iinc 2 1, 3) := by decide +kernel
theorem k3_100 : decode (q_mB 3) 100 = .ok (.goto (-27), 3) := by decide +kernel
theorem k3_103 : decode (q_mB 3) 103 = .ok (.return_, 1) := by decide +kernel
theorem k4_0 : decode (q_mB 4) 0 = .ok (.aload_n 0, 1) := by decide +kernel
theorem k4_1 : decode (q_mB 4) 1 = .ok (.getfield 12, 3) := by decide +kernel
theorem k4_4 : decode (q_mB 4) 4 = .ok (.aload_n 1, 1) := by decide +kernel
theorem k4_5 : decode (q_mB 4) 5 = .ok (.invokevirtual 34, 3) := by decide +kernel
theorem k4_8 : decode (q_mB 4) 8 = .ok (.aload_n 0, 1) := by decide +kernel
theorem k4_9 : decode (q_mB 4) 9 = .ok (.iload_n 2, 1) := by decide +kernel
theorem k4_10 : decode (q_mB 4) 10 = .ok (.putfield 38, 3) := by decide +kernel
theorem k4_13 : decode (q_mB 4) 13 = .ok (.aload_n 0, 1) := by decide +kernel
theorem k4_14 : decode (q_mB 4) 14 = .ok (.aload_n 0, 1) := by decide +kernel
theorem k4_15 : decode (q_mB 4) 15 = .ok (.getfield 12, 3) := by decide +kernel
theorem k4_18 : decode (q_mB 4) 18 = .ok (.getfield 53, 3) := by decide +kernel
theorem k4_21 : decode (q_mB 4) 21 = .ok (.invokestatic 56, 3) := by decide +kernel
theorem k4_24 : decode (q_mB 4) 24 = .ok (.putfield 41, 3) := by decide +kernel
theorem k4_27 : decode (q_mB 4) 27 = .ok (.aload_n 0, 1) := by decide +kernel
theorem k4_28 : decode (q_mB 4) 28 = .ok (.invokevirtual 60, 3) := by decide +kernel
theorem k4_31 : decode (q_mB 4) 31 = .ok (.pop, 1) := by decide +kernel
theorem k4_32 : decode (q_mB 4) 32 = .ok (.return_, 1) := by decide +kernel
theorem k5_0 : decode (q_mB 5) 0 = .ok (.iconst 0, 1) := by decide +kernel
theorem k5_1 : decode (q_mB 5) 1 = .ok (.istore_n 1, 1) := by decide +kernel
theorem k5_2 : decode (q_mB 5) 2 = .ok (.iconst 0, 1) := by decide +kernel
theorem k5_3 : decode (q_mB 5) 3 = .ok (.istore_n 2, 1) := by decide +kernel
theorem k5_4 : decode (q_mB 5) 4 = .ok (.iload_n 2, 1) := by decide +kernel
theorem k5_5 : decode (q_mB 5) 5 = .ok (.iconst 3, 1) := by decide +kernel
theorem k5_6 : decode (q_mB 5) 6 = .ok (.if_icmp .ge 25, 3) := by decide +kernel
theorem k5_9 : decode (q_mB 5) 9 = .ok (.iload_n 1, 1) := by decide +kernel
theorem k5_10 : decode (q_mB 5) 10 = .ok (.aload_n 0, 1) := by decide +kernel
theorem k5_11 : decode (q_mB 5) 11 = .ok (.getfield 26, 3) := by decide +kernel
theorem k5_14 : decode (q_mB 5) 14 = .ok (.iload_n 2, 1) := by decide +kernel
theorem k5_15 : decode (q_mB 5) 15 = .ok (.iaload, 1) := by decide +kernel
theorem k5_16 : decode (q_mB 5) 16 = .ok (.iadd, 1) := by decide +kernel
theorem k5_17 : decode (q_mB 5) 17 = .ok (.istore_n 1, 1) := by decide +kernel
theorem k5_18 : decode (q_mB 5) 18 = .ok (.aload_n 0, 1) := by decide +kernel
theorem k5_19 : decode (q_mB 5) 19 = .ok (.getfield 26, 3) := by decide +kernel
theorem k5_22 : decode (q_mB 5) 22 = .ok (.iload_n 2, 1) := by decide +kernel
theorem k5_23 : decode (q_mB 5) 23 = .ok (.iconst 0, 1) := by decide +kernel
theorem k5_24 : decode (q_mB 5) 24 = .ok (.iastore, 1) := by decide +kernel
theorem k5_25 : decode (q_mB 5) 25 = .ok (.iinc 2 1, 3) := by decide +kernel
theorem k5_28 : decode (q_mB 5) 28 = .ok (.goto (-24), 3) := by decide +kernel
theorem k5_31 : decode (q_mB 5) 31 = .ok (.aload_n 0, 1) := by decide +kernel
theorem k5_32 : decode (q_mB 5) 32 = .ok (.iconst 0, 1) := by decide +kernel
theorem k5_33 : decode (q_mB 5) 33 = .ok (.putfield 44, 3) := by decide +kernel
theorem k5_36 : decode (q_mB 5) 36 = .ok (.iload_n 1, 1) := by decide +kernel
theorem k5_37 : decode (q_mB 5) 37 = .ok (.ireturn, 1) := by decide +kernel
theorem k6_0 : decode (q_mB 6) 0 = .ok (.iconst 0, 1) := by decide +kernel
theorem k6_1 : decode (q_mB 6) 1 = .ok (.istore_n 1, 1) := by decide +kernel
theorem k6_2 : decode (q_mB 6) 2 = .ok (.iconst 0, 1) := by decide +kernel
theorem k6_3 : decode (q_mB 6) 3 = .ok (.istore_n 2, 1) := by decide +kernel
theorem k6_4 : decode (q_mB 6) 4 = .ok (.iload_n 2, 1) := by decide +kernel
theorem k6_5 : decode (q_mB 6) 5 = .ok (.aload_n 0, 1) := by decide +kernel
theorem k6_6 : decode (q_mB 6) 6 = .ok (.getfield 44, 3) := by decide +kernel
theorem k6_9 : decode (q_mB 6) 9 = .ok (.if_icmp .ge 20, 3) := by decide +kernel
theorem k6_12 : decode (q_mB 6) 12 = .ok (.iload_n 1, 1) := by decide +kernel
theorem k6_13 : decode (q_mB 6) 13 = .ok (.iconst 1, 1) := by decide +kernel
theorem k6_14 : decode (q_mB 6) 14 = .ok (.aload_n 0, 1) := by decide +kernel
theorem k6_15 : decode (q_mB 6) 15 = .ok (.getfield 22, 3) := by decide +kernel
theorem k6_18 : decode (q_mB 6) 18 = .ok (.iload_n 2, 1) := by decide +kernel
theorem k6_19 : decode (q_mB 6) 19 = .ok (.iaload, 1) := by decide +kernel
theorem k6_20 : decode (q_mB 6) 20 = .ok (.ishl, 1) := by decide +kernel
theorem k6_21 : decode (q_mB 6) 21 = .ok (.ior, 1) := by decide +kernel
theorem k6_22 : decode (q_mB 6) 22 = .ok (.istore_n 1, 1) := by decide +kernel
theorem k6_23 : decode (q_mB 6) 23 = .ok (.iinc 2 1, 3) := by decide +kernel
theorem k6_26 : decode (q_mB 6) 26 = .ok (.goto (-22), 3) := by decide +kernel
theorem k6_29 : decode (q_mB 6) 29 = .ok (.iload_n 1, 1) := by decide +kernel
theorem k6_30 : decode (q_mB 6) 30 = .ok (.ireturn, 1) := by decide +kernel
theorem k7_0 : decode (q_mB 7) 0 = .ok (.iconst 0, 1) := by decide +kernel
theorem k7_1 : decode (q_mB 7) 1 = .ok (.istore_n 1, 1) := by decide +kernel
theorem k7_2 : decode (q_mB 7) 2 = .ok (.iload_n 1, 1) := by decide +kernel
theorem k7_3 : decode (q_mB 7) 3 = .ok (.aload_n 0, 1) := by decide +kernel
theorem k7_4 : decode (q_mB 7) 4 = .ok (.getfield 12, 3) := by decide +kernel
theorem k7_7 : decode (q_mB 7) 7 = .ok (.getfield 53, 3) := by decide +kernel
theorem k7_10 : decode (q_mB 7) 10 = .ok (.if_icmp .ge 64, 3) := by decide +kernel
theorem k7_13 : decode (q_mB 7) 13 = .ok (.aload_n 0, 1) := by decide +kernel
theorem k7_14 : decode (q_mB 7) 14 = .ok (.getfield 12, 3) := by decide +kernel
theorem k7_17 : decode (q_mB 7) 17 = .ok (.iload_n 1, 1) := by decide +kernel
theorem k7_18 : decode (q_mB 7) 18 = .ok (.invokevirtual 64, 3) := by decide +kernel
theorem k7_21 : decode (q_mB 7) 21 = .ok (.istore_n 2, 1) := by decide +kernel
theorem k7_22 : decode (q_mB 7) 22 = .ok (.iconst 0, 1) := by decide +kernel
theorem k7_23 : decode (q_mB 7) 23 = .ok (.istore_n 3, 1) := by decide +kernel
theorem k7_24 : decode (q_mB 7) 24 = .ok (.iload_n 3, 1) := by decide +kernel
theorem k7_25 : decode (q_mB 7) 25 = .ok (.aload_n 0, 1) := by decide +kernel
theorem k7_26 : decode (q_mB 7) 26 = .ok (.getfield 26, 3) := by decide +kernel
theorem k7_29 : decode (q_mB 7) 29 = .ok (.iload_n 1, 1) := by decide +kernel
theorem k7_30 : decode (q_mB 7) 30 = .ok (.iaload, 1) := by decide +kernel
theorem k7_31 : decode (q_mB 7) 31 = .ok (.if_icmp .ge 37, 3) := by decide +kernel
theorem k7_34 : decode (q_mB 7) 34 = .ok (.aload_n 0, 1) := by decide +kernel
theorem k7_35 : decode (q_mB 7) 35 = .ok (.getfield 12, 3) := by decide +kernel
theorem k7_38 : decode (q_mB 7) 38 = .ok (.iload_n 2, 1) := by decide +kernel
theorem k7_39 : decode (q_mB 7) 39 = .ok (.aload_n 0, 1) := by decide +kernel
theorem k7_40 : decode (q_mB 7) 40 = .ok (.getfield 31, 3) := by decide +kernel
theorem k7_43 : decode (q_mB 7) 43 = .ok (.iload_n 1, 1) := by decide +kernel
theorem k7_44 : decode (q_mB 7) 44 = .ok (.aaload, 1) := by decide +kernel
theorem k7_45 : decode (q_mB 7) 45 = .ok (.iload_n 3, 1) := by decide +kernel
theorem k7_46 : decode (q_mB 7) 46 = .ok (.iaload, 1) := by decide +kernel
theorem k7_47 : decode (q_mB 7) 47 = .ok (.invokevirtual 67, 3) := by decide +kernel
theorem k7_50 : decode (q_mB 7) 50 = .ok (.istore_n 2, 1) := by decide +kernel
theorem k7_51 : decode (q_mB 7) 51 = .ok (.iload_n 2, 1) := by decide +kernel
theorem k7_52 : decode (q_mB 7) 52 = .ok (.ifCond .ge 10, 3) := by decide +kernel
theorem k7_55 : decode (q_mB 7) 55 = .ok (.bipush 20, 2) := by decide +kernel
theorem k7_57 : decode (q_mB 7) 57 = .ok (.iload_n 1, 1) := by decide +kernel
theorem k7_58 : decode (q_mB 7) 58 = .ok (.imul, 1) := by decide +kernel
theorem k7_59 : decode (q_mB 7) 59 = .ok (.iload_n 3, 1) := by decide +kernel
theorem k7_60 : decode (q_mB 7) 60 = .ok (.iadd, 1) := by decide +kernel
theorem k7_61 : decode (q_mB 7) 61 = .ok (.ireturn, 1) := by decide +kernel
theorem k7_62 : decode (q_mB 7) 62 = .ok (.iinc 3 1, 3) := by decide +kernel
theorem k7_65 : decode (q_mB 7) 65 = .ok (.goto (-41), 3) := by decide +kernel
theorem k7_68 : decode (q_mB 7) 68 = .ok (.iinc 1 1, 3) := by decide +kernel
theorem k7_71 : decode (q_mB 7) 71 = .ok (.goto (-69), 3) := by decide +kernel
theorem k7_74 : decode (q_mB 7) 74 = .ok (.iconst (-1), 1) := by decide +kernel
theorem k7_75 : decode (q_mB 7) 75 = .ok (.ireturn, 1) := by decide +kernel
theorem k8_0 : decode (q_mB 8) 0 = .ok (.aload_n 0, 1) := by decide +kernel
theorem k8_1 : decode (q_mB 8) 1 = .ok (.getfield 12, 3) := by decide +kernel
theorem k8_4 : decode (q_mB 8) 4 = .ok (.iload_n 1, 1) := by decide +kernel
theorem k8_5 : decode (q_mB 8) 5 = .ok (.invokevirtual 64, 3) := by decide +kernel
theorem k8_8 : decode (q_mB 8) 8 = .ok (.istore_n 2, 1) := by decide +kernel
theorem k8_9 : decode (q_mB 8) 9 = .ok (.iconst 0, 1) := by decide +kernel
theorem k8_10 : decode (q_mB 8) 10 = .ok (.istore_n 3, 1) := by decide +kernel
theorem k8_11 : decode (q_mB 8) 11 = .ok (.iload_n 3, 1) := by decide +kernel
theorem k8_12 : decode (q_mB 8) 12 = .ok (.aload_n 0, 1) := by decide +kernel
theorem k8_13 : decode (q_mB 8) 13 = .ok (.getfield 26, 3) := by decide +kernel
theorem k8_16 : decode (q_mB 8) 16 = .ok (.iload_n 1, 1) := by decide +kernel
theorem k8_17 : decode (q_mB 8) 17 = .ok (.iaload, 1) := by decide +kernel
theorem k8_18 : decode (q_mB 8) 18 = .ok (.if_icmp .ge 26, 3) := by decide +kernel
theorem k8_21 : decode (q_mB 8) 21 = .ok (.aload_n 0, 1) := by decide +kernel
theorem k8_22 : decode (q_mB 8) 22 = .ok (.getfield 12, 3) := by decide +kernel
theorem k8_25 : decode (q_mB 8) 25 = .ok (.iload_n 2, 1) := by decide +kernel
theorem k8_26 : decode (q_mB 8) 26 = .ok (.aload_n 0, 1) := by decide +kernel
theorem k8_27 : decode (q_mB 8) 27 = .ok (.getfield 31, 3) := by decide +kernel
theorem k8_30 : decode (q_mB 8) 30 = .ok (.iload_n 1, 1) := by decide +kernel
theorem k8_31 : decode (q_mB 8) 31 = .ok (.aaload, 1) := by decide +kernel
theorem k8_32 : decode (q_mB 8) 32 = .ok (.iload_n 3, 1) := by decide +kernel
theorem k8_33 : decode (q_mB 8) 33 = .ok (.iaload, 1) := by decide +kernel
theorem k8_34 : decode (q_mB 8) 34 = .ok (.invokevirtual 67, 3) := by decide +kernel
theorem k8_37 : decode (q_mB 8) 37 = .ok (.istore_n 2, 1) := by decide +kernel
theorem k8_38 : decode (q_mB 8) 38 = .ok (.iinc 3 1, 3) := by decide +kernel
theorem k8_41 : decode (q_mB 8) 41 = .ok (.goto (-30), 3) := by decide +kernel
theorem k8_44 : decode (q_mB 8) 44 = .ok (.iload_n 2, 1) := by decide +kernel
theorem k8_45 : decode (q_mB 8) 45 = .ok (.ireturn, 1) := by decide +kernel
theorem k9_0 : decode (q_mB 9) 0 = .ok (.aload_n 0, 1) := by decide +kernel
theorem k9_1 : decode (q_mB 9) 1 = .ok (.getfield 12, 3) := by decide +kernel
theorem k9_4 : decode (q_mB 9) 4 = .ok (.iload_n 1, 1) := by decide +kernel
theorem k9_5 : decode (q_mB 9) 5 = .ok (.invokevirtual 64, 3) := by decide +kernel
theorem k9_8 : decode (q_mB 9) 8 = .ok (.istore_n 2, 1) := by decide +kernel
theorem k9_9 : decode (q_mB 9) 9 = .ok (.iconst 1, 1) := by decide +kernel
theorem k9_10 : decode (q_mB 9) 10 = .ok (.iload_n 2, 1) := by decide +kernel
theorem k9_11 : decode (q_mB 9) 11 = .ok (.ishl, 1) := by decide +kernel
theorem k9_12 : decode (q_mB 9) 12 = .ok (.istore_n 3, 1) := by decide +kernel
theorem k9_13 : decode (q_mB 9) 13 = .ok (.iconst 0, 1) := by decide +kernel
theorem k9_14 : decode (q_mB 9) 14 = .ok (.istore 4, 2) := by decide +kernel
theorem k9_16 : decode (q_mB 9) 16 = .ok (.iload 4, 2) := by decide +kernel
theorem k9_18 : decode (q_mB 9) 18 = .ok (.aload_n 0, 1) := by decide +kernel
theorem k9_19 : decode (q_mB 9) 19 = .ok (.getfield 26, 3) := by decide +kernel
theorem k9_22 : decode (q_mB 9) 22 = .ok (.iload_n 1, 1) := by decide +kernel
theorem k9_23 : decode (q_mB 9) 23 = .ok (.iaload, 1) := by decide +kernel
theorem k9_24 : decode (q_mB 9) 24 = .ok (.if_icmp .ge 41, 3) := by decide +kernel
theorem k9_27 : decode (q_mB 9) 27 = .ok (.iload_n 2, 1) := by decide +kernel
theorem k9_28 : decode (q_mB 9) 28 = .ok (.ifCond .lt 37, 3) := by decide +kernel
theorem k9_31 : decode (q_mB 9) 31 = .ok (.aload_n 0, 1) := by decide +kernel
theorem k9_32 : decode (q_mB 9) 32 = .ok (.getfield 12, 3) := by decide +kernel
theorem k9_35 : decode (q_mB 9) 35 = .ok (.iload_n 2, 1) := by decide +kernel
theorem k9_36 : decode (q_mB 9) 36 = .ok (.aload_n 0, 1) := by decide +kernel
theorem k9_37 : decode (q_mB 9) 37 = .ok (.getfield 31, 3) := by decide +kernel
theorem k9_40 : decode (q_mB 9) 40 = .ok (.iload_n 1, 1) := by decide +kernel
theorem k9_41 : decode (q_mB 9) 41 = .ok (.aaload, 1) := by decide +kernel
theorem k9_42 : decode (q_mB 9) 42 = .ok (.iload 4, 2) := by decide +kernel
theorem k9_44 : decode (q_mB 9) 44 = .ok (.iaload, 1) := by decide +kernel
theorem k9_45 : decode (q_mB 9) 45 = .ok (.invokevirtual 67, 3) := by decide +kernel
theorem k9_48 : decode (q_mB 9) 48 = .ok (.istore_n 2, 1) := by decide +kernel
theorem k9_49 : decode (q_mB 9) 49 = .ok (.iload_n 2, 1) := by decide +kernel
theorem k9_50 : decode (q_mB 9) 50 = .ok (.ifCond .lt 9, 3) := by decide +kernel
theorem k9_53 : decode (q_mB 9) 53 = .ok (.iload_n 3, 1) := by decide +kernel
theorem k9_54 : decode (q_mB 9) 54 = .ok (.iconst 1, 1) := by decide +kernel
theorem k9_55 : decode (q_mB 9) 55 = .ok (.iload_n 2, 1) := by decide +kernel
theorem k9_56 : decode (q_mB 9) 56 = .ok (.ishl, 1) := by decide +kernel
theorem k9_57 : decode (q_mB 9) 57 = .ok (.ior, 1) := by decide +kernel
theorem k9_58 : decode (q_mB 9) 58 = .ok (.istore_n 3, 1) := by decide +kernel
theorem k9_59 : decode (q_mB 9) 59 = .ok (.iinc 4 1, 3) := by decide +kernel
theorem k9_62 : decode (q_mB 9) 62 = .ok (.goto (-46), 3) := by decide +kernel
theorem k9_65 : decode (q_mB 9) 65 = .ok (.iload_n 3, 1) := by decide +kernel
theorem k9_66 : decode (q_mB 9) 66 = .ok (.ireturn, 1) := by decide +kernel
theorem k10_0 : decode (q_mB 10) 0 = .ok (.iconst 0, 1) := by decide +kernel
theorem k10_1 : decode (q_mB 10) 1 = .ok (.istore_n 1, 1) := by decide +kernel
theorem k10_2 : decode (q_mB 10) 2 = .ok (.iconst 0, 1) := by decide +kernel
theorem k10_3 : decode (q_mB 10) 3 = .ok (.istore_n 2, 1) := by decide +kernel
theorem k10_4 : decode (q_mB 10) 4 = .ok (.iconst 0, 1) := by decide +kernel
theorem k10_5 : decode (q_mB 10) 5 = .ok (.istore_n 3, 1) := by decide +kernel
theorem k10_6 : decode (q_mB 10) 6 = .ok (.iload_n 3, 1) := by decide +kernel
theorem k10_7 : decode (q_mB 10) 7 = .ok (.aload_n 0, 1) := by decide +kernel
theorem k10_8 : decode (q_mB 10) 8 = .ok (.getfield 12, 3) := by decide +kernel
theorem k10_11 : decode (q_mB 10) 11 = .ok (.getfield 53, 3) := by decide +kernel
theorem k10_14 : decode (q_mB 10) 14 = .ok (.if_icmp .ge 28, 3) := by decide +kernel
theorem k10_17 : decode (q_mB 10) 17 = .ok (.aload_n 0, 1) := by decide +kernel
theorem k10_18 : decode (q_mB 10) 18 = .ok (.iload_n 3, 1) := by decide +kernel
theorem k10_19 : decode (q_mB 10) 19 = .ok (.invokevirtual 71, 3) := by decide +kernel
theorem k10_22 : decode (q_mB 10) 22 = .ok (.istore 4, 2) := by decide +kernel
theorem k10_24 : decode (q_mB 10) 24 = .ok (.iload_n 2, 1) := by decide +kernel
theorem k10_25 : decode (q_mB 10) 25 = .ok (.iload_n 1, 1) := by decide +kernel
theorem k10_26 : decode (q_mB 10) 26 = .ok (.iload 4, 2) := by decide +kernel
theorem k10_28 : decode (q_mB 10) 28 = .ok (.iand, 1) := by decide +kernel
theorem k10_29 : decode (q_mB 10) 29 = .ok (.ior, 1) := by decide +kernel
theorem k10_30 : decode (q_mB 10) 30 = .ok (.istore_n 2, 1) := by decide +kernel
theorem k10_31 : decode (q_mB 10) 31 = .ok (.iload_n 1, 1) := by decide +kernel
theorem k10_32 : decode (q_mB 10) 32 = .ok (.iload 4, 2) := by decide +kernel
theorem k10_34 : decode (q_mB 10) 34 = .ok (.ior, 1) := by decide +kernel
theorem k10_35 : decode (q_mB 10) 35 = .ok (.istore_n 1, 1) := by decide +kernel
theorem k10_36 : decode (q_mB 10) 36 = .ok (.iinc 3 1, 3) := by decide +kernel
theorem k10_39 : decode (q_mB 10) 39 = .ok (.goto (-33), 3) := by decide +kernel
theorem k10_42 : decode (q_mB 10) 42 = .ok (.iconst 0, 1) := by decide +kernel
theorem k10_43 : decode (q_mB 10) 43 = .ok (.istore_n 3, 1) := by decide +kernel
theorem k10_44 : decode (q_mB 10) 44 = .ok (.iload_n 3, 1) := by decide +kernel
theorem k10_45 : decode (q_mB 10) 45 = .ok (.aload_n 0, 1) := by decide +kernel
theorem k10_46 : decode (q_mB 10) 46 = .ok (.getfield 12, 3) := by decide +kernel
theorem k10_49 : decode (q_mB 10) 49 = .ok (.getfield 74, 3) := by decide +kernel
theorem k10_52 : decode (q_mB 10) 52 = .ok (.if_icmp .ge 19, 3) := by decide +kernel
theorem k10_55 : decode (q_mB 10) 55 = .ok (.iload_n 2, 1) := by decide +kernel
theorem k10_56 : decode (q_mB 10) 56 = .ok (.iload_n 3, 1) := by decide +kernel
theorem k10_57 : decode (q_mB 10) 57 = .ok (.invokestatic 77, 3) := by decide +kernel
theorem k10_60 : decode (q_mB 10) 60 = .ok (.ifCond .eq 5, 3) := by decide +kernel
theorem k10_63 : decode (q_mB 10) 63 = .ok (.iload_n 3, 1) := by decide +kernel
theorem k10_64 : decode (q_mB 10) 64 = .ok (.ireturn, 1) := by decide +kernel
theorem k10_65 : decode (q_mB 10) 65 = .ok (.iinc 3 1, 3) := by decide +kernel
theorem k10_68 : decode (q_mB 10) 68 = .ok (.goto (-24), 3) := by decide +kernel
theorem k10_71 : decode (q_mB 10) 71 = .ok (.bipush (-9), 2) := by decide +kernel
theorem k10_73 : decode (q_mB 10) 73 = .ok (.ireturn, 1) := by decide +kernel
theorem k11_0 : decode (q_mB 11) 0 = .ok (.iconst 0, 1) := by decide +kernel
theorem k11_1 : decode (q_mB 11) 1 = .ok (.istore 4, 2) := by decide +kernel
theorem k11_3 : decode (q_mB 11) 3 = .ok (.iload 4, 2) := by decide +kernel
theorem k11_5 : decode (q_mB 11) 5 = .ok (.iload_n 2, 1) := by decide +kernel
theorem k11_6 : decode (q_mB 11) 6 = .ok (.if_icmp .ge 31, 3) := by decide +kernel
theorem k11_9 : decode (q_mB 11) 9 = .ok (.aload_n 0, 1) := by decide +kernel
theorem k11_10 : decode (q_mB 11) 10 = .ok (.iload 4, 2) := by decide +kernel
theorem k11_12 : decode (q_mB 11) 12 = .ok (.iload_n 2, 1) := by decide +kernel
theorem k11_13 : decode (q_mB 11) 13 = .ok (.iload_n 3, 1) := by decide +kernel
theorem k11_14 : decode (q_mB 11) 14 = .ok (.invokevirtual 7, 3) := by decide +kernel
theorem k11_17 : decode (q_mB 11) 17 = .ok (.iload_n 1, 1) := by decide +kernel
theorem k11_18 : decode (q_mB 11) 18 = .ok (.iload 4, 2) := by decide +kernel
theorem k11_20 : decode (q_mB 11) 20 = .ok (.invokestatic 13, 3) := by decide +kernel
theorem k11_23 : decode (q_mB 11) 23 = .ok (.ishr, 1) := by decide +kernel
theorem k11_24 : decode (q_mB 11) 24 = .ok (.iconst 1, 1) := by decide +kernel
theorem k11_25 : decode (q_mB 11) 25 = .ok (.iand, 1) := by decide +kernel
theorem k11_26 : decode (q_mB 11) 26 = .ok (.ifCond .ne 5, 3) := by decide +kernel
theorem k11_29 : decode (q_mB 11) 29 = .ok (.iconst 0, 1) := by decide +kernel
theorem k11_30 : decode (q_mB 11) 30 = .ok (.ireturn, 1) := by decide +kernel
theorem k11_31 : decode (q_mB 11) 31 = .ok (.iinc 4 1, 3) := by decide +kernel
theorem k11_34 : decode (q_mB 11) 34 = .ok (.goto (-31), 3) := by decide +kernel
theorem k11_37 : decode (q_mB 11) 37 = .ok (.iconst 1, 1) := by decide +kernel
theorem k11_38 : decode (q_mB 11) 38 = .ok (.ireturn, 1) := by decide +kernel
theorem k12_0 : decode (q_mB 12) 0 = .ok (.iload_n 1, 1) := by decide +kernel
theorem k12_1 : decode (q_mB 12) 1 = .ok (.iconst 1, 1) := by decide +kernel
theorem k12_2 : decode (q_mB 12) 2 = .ok (.iadd, 1) := by decide +kernel
theorem k12_3 : decode (q_mB 12) 3 = .ok (.iload_n 2, 1) := by decide +kernel
theorem k12_4 : decode (q_mB 12) 4 = .ok (.if_icmp .ge 9, 3) := by decide +kernel
theorem k12_7 : decode (q_mB 12) 7 = .ok (.iload_n 1, 1) := by decide +kernel
theorem k12_8 : decode (q_mB 12) 8 = .ok (.iconst 1, 1) := by decide +kernel
theorem k12_9 : decode (q_mB 12) 9 = .ok (.iadd, 1) := by decide +kernel
theorem k12_10 : decode (q_mB 12) 10 = .ok (.goto 4, 3) := by decide +kernel
theorem k12_13 : decode (q_mB 12) 13 = .ok (.iconst 0, 1) := by decide +kernel
theorem k12_14 : decode (q_mB 12) 14 = .ok (.ireturn, 1) := by decide +kernel
theorem k13_0 : decode (q_mB 13) 0 = .ok (.iload_n 1, 1) := by decide +kernel
theorem k13_1 : decode (q_mB 13) 1 = .ok (.ireturn, 1) := by decide +kernel
theorem k14_0 : decode (q_mB 14) 0 = .ok (.iconst 1, 1) := by decide +kernel
theorem k14_1 : decode (q_mB 14) 1 = .ok (.aload_n 0, 1) := by decide +kernel
theorem k14_2 : decode (q_mB 14) 2 = .ok (.iload_n 1, 1) := by decide +kernel
theorem k14_3 : decode (q_mB 14) 3 = .ok (.iload_n 2, 1) := by decide +kernel
theorem k14_4 : decode (q_mB 14) 4 = .ok (.iload_n 3, 1) := by decide +kernel
theorem k14_5 : decode (q_mB 14) 5 = .ok (.invokevirtual 7, 3) := by decide +kernel
theorem k14_8 : decode (q_mB 14) 8 = .ok (.ishl, 1) := by decide +kernel
theorem k14_9 : decode (q_mB 14) 9 = .ok (.ireturn, 1) := by decide +kernel
theorem k15_0 : decode (q_mB 15) 0 = .ok (.aload_n 0, 1) := by decide +kernel
theorem k15_1 : decode (q_mB 15) 1 = .ok (.aload_n 1, 1) := by decide +kernel
theorem k15_2 : decode (q_mB 15) 2 = .ok (.getfield 30, 3) := by decide +kernel
theorem k15_5 : decode (q_mB 15) 5 = .ok (.putfield 30, 3) := by decide +kernel
theorem k15_8 : decode (q_mB 15) 8 = .ok (.aload_n 0, 1) := by decide +kernel
theorem k15_9 : decode (q_mB 15) 9 = .ok (.aload_n 1, 1) := by decide +kernel
theorem k15_10 : decode (q_mB 15) 10 = .ok (.getfield 34, 3) := by decide +kernel
theorem k15_13 : decode (q_mB 15) 13 = .ok (.putfield 34, 3) := by decide +kernel
theorem k15_16 : decode (q_mB 15) 16 = .ok (.aload_n 0, 1) := by decide +kernel
theorem k15_17 : decode (q_mB 15) 17 = .ok (.aload_n 1, 1) := by decide +kernel
theorem k15_18 : decode (q_mB 15) 18 = .ok (.getfield 37, 3) := by decide +kernel
theorem k15_21 : decode (q_mB 15) 21 = .ok (.putfield 37, 3) := by decide +kernel
theorem k15_24 : decode (q_mB 15) 24 = .ok (.aload_n 0, 1) := by decide +kernel
theorem k15_25 : decode (q_mB 15) 25 = .ok (.aload_n 1, 1) := by decide +kernel
theorem k15_26 : decode (q_mB 15) 26 = .ok (.getfield 40, 3) := by decide +kernel
theorem k15_29 : decode (q_mB 15) 29 = .ok (.putfield 40, 3) := by decide +kernel
theorem k15_32 : decode (q_mB 15) 32 = .ok (.aload_n 0, 1) := by decide +kernel
theorem k15_33 : decode (q_mB 15) 33 = .ok (.aload_n 1, 1) := by decide +kernel
theorem k15_34 : decode (q_mB 15) 34 = .ok (.getfield 43, 3) := by decide +kernel
theorem k15_37 : decode (q_mB 15) 37 = .ok (.putfield 43, 3) := by decide +kernel
theorem k15_40 : decode (q_mB 15) 40 = .ok (.aload_n 1, 1) := by decide +kernel
theorem k15_41 : decode (q_mB 15) 41 = .ok (.getfield 9, 3) := by decide +kernel
theorem k15_44 : decode (q_mB 15) 44 = .ok (.iconst 0, 1) := by decide +kernel
theorem k15_45 : decode (q_mB 15) 45 = .ok (.aload_n 0, 1) := by decide +kernel
theorem k15_46 : decode (q_mB 15) 46 = .ok (.getfield 9, 3) := by decide +kernel
theorem k15_49 : decode (q_mB 15) 49 = .ok (.iconst 0, 1) := by decide +kernel
theorem k15_50 : decode (q_mB 15) 50 = .ok (.bipush 30, 2) := by decide +kernel
theorem k15_52 : decode (q_mB 15) 52 = .ok (.invokestatic 46, 3) := by decide +kernel
theorem k15_55 : decode (q_mB 15) 55 = .ok (.aload_n 1, 1) := by decide +kernel
theorem k15_56 : decode (q_mB 15) 56 = .ok (.getfield 15, 3) := by decide +kernel
theorem k15_59 : decode (q_mB 15) 59 = .ok (.iconst 0, 1) := by decide +kernel
theorem k15_60 : decode (q_mB 15) 60 = .ok (.aload_n 0, 1) := by decide +kernel
theorem k15_61 : decode (q_mB 15) 61 = .ok (.getfield 15, 3) := by decide +kernel
theorem k15_64 : decode (q_mB 15) 64 = .ok (.iconst 0, 1) := by decide +kernel
theorem k15_65 : decode (q_mB 15) 65 = .ok (.bipush 30, 2) := by decide +kernel
theorem k15_67 : decode (q_mB 15) 67 = .ok (.invokestatic 46, 3) := by decide +kernel
theorem k15_70 : decode (q_mB 15) 70 = .ok (.aload_n 1, 1) := by decide +kernel
theorem k15_71 : decode (q_mB 15) 71 = .ok (.getfield 18, 3) := by decide +kernel
theorem k15_74 : decode (q_mB 15) 74 = .ok (.iconst 0, 1) := by decide +kernel
theorem k15_75 : decode (q_mB 15) 75 = .ok (.aload_n 0, 1) := by decide +kernel
theorem k15_76 : decode (q_mB 15) 76 = .ok (.getfield 18, 3) := by decide +kernel
theorem k15_79 : decode (q_mB 15) 79 = .ok (.iconst 0, 1) := by decide +kernel
theorem k15_80 : decode (q_mB 15) 80 = .ok (.bipush 30, 2) := by decide +kernel
theorem k15_82 : decode (q_mB 15) 82 = .ok (.invokestatic 46, 3) := by decide +kernel
theorem k15_85 : decode (q_mB 15) 85 = .ok (.aload_n 1, 1) := by decide +kernel
theorem k15_86 : decode (q_mB 15) 86 = .ok (.getfield 21, 3) := by decide +kernel
theorem k15_89 : decode (q_mB 15) 89 = .ok (.iconst 0, 1) := by decide +kernel
theorem k15_90 : decode (q_mB 15) 90 = .ok (.aload_n 0, 1) := by decide +kernel
theorem k15_91 : decode (q_mB 15) 91 = .ok (.getfield 21, 3) := by decide +kernel
theorem k15_94 : decode (q_mB 15) 94 = .ok (.iconst 0, 1) := by decide +kernel
theorem k15_95 : decode (q_mB 15) 95 = .ok (.iconst 3, 1) := by decide +kernel
theorem k15_96 : decode (q_mB 15) 96 = .ok (.invokestatic 46, 3) := by decide +kernel
theorem k15_99 : decode (q_mB 15) 99 = .ok (.aload_n 1, 1) := by decide +kernel
theorem k15_100 : decode (q_mB 15) 100 = .ok (.getfield 24, 3) := by decide +kernel
theorem k15_103 : decode (q_mB 15) 103 = .ok (.iconst 0, 1) := by decide +kernel
theorem k15_104 : decode (q_mB 15) 104 = .ok (.aload_n 0, 1) := by decide +kernel
theorem k15_105 : decode (q_mB 15) 105 = .ok (.getfield 24, 3) := by decide +kernel
theorem k15_108 : decode (q_mB 15) 108 = .ok (.iconst 0, 1) := by decide +kernel
theorem k15_109 : decode (q_mB 15) 109 = .ok (.iconst 3, 1) := by decide +kernel
theorem k15_110 : decode (q_mB 15) 110 = .ok (.invokestatic 46, 3) := by decide +kernel
theorem k15_113 : decode (q_mB 15) 113 = .ok (.return_, 1) := by decide +kernel
theorem k16_0 : decode (q_mB 16) 0 = .ok (.aload_n 0, 1) := by decide +kernel
theorem k16_1 : decode (q_mB 16) 1 = .ok (.invokevirtual 52, 3) := by decide +kernel
theorem k16_4 : decode (q_mB 16) 4 = .ok (.iload_n 2, 1) := by decide +kernel
theorem k16_5 : decode (q_mB 16) 5 = .ok (.aload_n 1, 1) := by decide +kernel
theorem k16_6 : decode (q_mB 16) 6 = .ok (.arraylength, 1) := by decide +kernel
theorem k16_7 : decode (q_mB 16) 7 = .ok (.invokestatic 55, 3) := by decide +kernel
theorem k16_10 : decode (q_mB 16) 10 = .ok (.istore_n 3, 1) := by decide +kernel
theorem k16_11 : decode (q_mB 16) 11 = .ok (.iconst 0, 1) := by decide +kernel
theorem k16_12 : decode (q_mB 16) 12 = .ok (.istore 4, 2) := by decide +kernel
theorem k16_14 : decode (q_mB 16) 14 = .ok (.iload 4, 2) := by decide +kernel
theorem k16_16 : decode (q_mB 16) 16 = .ok (.iload_n 3, 1) := by decide +kernel
theorem k16_17 : decode (q_mB 16) 17 = .ok (.if_icmp .ge 47, 3) := by decide +kernel
theorem k16_20 : decode (q_mB 16) 20 = .ok (.aload_n 1, 1) := by decide +kernel
theorem k16_21 : decode (q_mB 16) 21 = .ok (.iload 4, 2) := by decide +kernel
theorem k16_23 : decode (q_mB 16) 23 = .ok (.iaload, 1) := by decide +kernel
theorem k16_24 : decode (q_mB 16) 24 = .ok (.bipush 47, 2) := by decide +kernel
theorem k16_26 : decode (q_mB 16) 26 = .ok (.if_icmp .ne 10, 3) := by decide +kernel
theorem k16_29 : decode (q_mB 16) 29 = .ok (.aload_n 0, 1) := by decide +kernel
theorem k16_30 : decode (q_mB 16) 30 = .ok (.invokevirtual 61, 3) := by decide +kernel
theorem k16_33 : decode (q_mB 16) 33 = .ok (.goto 11, 3) := by decide +kernel
theorem k16_36 : decode (q_mB 16) 36 = .ok (.aload_n 0, 1) := by decide +kernel
theorem k16_37 : decode (q_mB 16) 37 = .ok (.aload_n 1, 1) := by decide +kernel
theorem k16_38 : decode (q_mB 16) 38 = .ok (.iload 4, 2) := by decide +kernel
theorem k16_40 : decode (q_mB 16) 40 = .ok (.iaload, 1) := by decide +kernel
theorem k16_41 : decode (q_mB 16) 41 = .ok (.invokevirtual 65, 3) := by decide +kernel
theorem k16_44 : decode (q_mB 16) 44 = .ok (.istore 5, 2) := by decide +kernel
theorem k16_46 : decode (q_mB 16) 46 = .ok (.iload 5, 2) := by decide +kernel
theorem k16_48 : decode (q_mB 16) 48 = .ok (.ifCond .ne 10, 3) := by decide +kernel
theorem k16_51 : decode (q_mB 16) 51 = .ok (.sipush (-1000), 3) := by decide +kernel
theorem k16_54 : decode (q_mB 16) 54 = .ok (.iload 4, 2) := by decide +kernel
theorem k16_56 : decode (q_mB 16) 56 = .ok (.isub, 1) := by decide +kernel
theorem k16_57 : decode (q_mB 16) 57 = .ok (.ireturn, 1) := by decide +kernel
theorem k16_58 : decode (q_mB 16) 58 = .ok (.iinc 4 1, 3) := by decide +kernel
theorem k16_61 : decode (q_mB 16) 61 = .ok (.goto (-47), 3) := by decide +kernel
theorem k16_64 : decode (q_mB 16) 64 = .ok (.aload_n 0, 1) := by decide +kernel
theorem k16_65 : decode (q_mB 16) 65 = .ok (.getfield 30, 3) := by decide +kernel
theorem k16_68 : decode (q_mB 16) 68 = .ok (.iconst 1, 1) := by decide +kernel
theorem k16_69 : decode (q_mB 16) 69 = .ok (.if_icmp .lt 14, 3) := by decide +kernel
theorem k16_72 : decode (q_mB 16) 72 = .ok (.aload_n 0, 1) := by decide +kernel
theorem k16_73 : decode (q_mB 16) 73 = .ok (.getfield 69, 3) := by decide +kernel
theorem k16_76 : decode (q_mB 16) 76 = .ok (.aload_n 0, 1) := by decide +kernel
theorem k16_77 : decode (q_mB 16) 77 = .ok (.getfield 34, 3) := by decide +kernel
theorem k16_80 : decode (q_mB 16) 80 = .ok (.if_icmp .eq 9, 3) := by decide +kernel
theorem k16_83 : decode (q_mB 16) 83 = .ok (.sipush (-1000), 3) := by decide +kernel
theorem k16_86 : decode (q_mB 16) 86 = .ok (.iload_n 3, 1) := by decide +kernel
theorem k16_87 : decode (q_mB 16) 87 = .ok (.isub, 1) := by decide +kernel
theorem k16_88 : decode (q_mB 16) 88 = .ok (.ireturn, 1) := by decide +kernel
theorem k16_89 : decode (q_mB 16) 89 = .ok (.aload_n 0, 1) := by decide +kernel
theorem k16_90 : decode (q_mB 16) 90 = .ok (.dup, 1) := by decide +kernel
theorem k16_91 : decode (q_mB 16) 91 = .ok (.getfield 30, 3) := by decide +kernel
theorem k16_94 : decode (q_mB 16) 94 = .ok (.iconst 1, 1) := by decide +kernel
theorem k16_95 : decode (q_mB 16) 95 = .ok (.iadd, 1) := by decide +kernel
theorem k16_96 : decode (q_mB 16) 96 = .ok (.putfield 30, 3) := by decide +kernel
theorem k16_99 : decode (q_mB 16) 99 = .ok (.aload_n 0, 1) := by decide +kernel
theorem k16_100 : decode (q_mB 16) 100 = .ok (.invokevirtual 72, 3) := by decide +kernel
theorem k16_103 : decode (q_mB 16) 103 = .ok (.ifCond .eq 7, 3) := by decide +kernel
theorem k16_106 : decode (q_mB 16) 106 = .ok (.iconst 0, 1) := by decide +kernel
theorem k16_107 : decode (q_mB 16) 107 = .ok (.goto 6, 3) := by decide +kernel
theorem k16_110 : decode (q_mB 16) 110 = .ok (.sipush (-2000), 3) := by decide +kernel
theorem k16_113 : decode (q_mB 16) 113 = .ok (.ireturn, 1) := by decide +kernel
theorem k17_0 : decode (q_mB 17) 0 = .ok (.aload_n 0, 1) := by decide +kernel
theorem k17_1 : decode (q_mB 17) 1 = .ok (.iconst 0, 1) := by decide +kernel
theorem k17_2 : decode (q_mB 17) 2 = .ok (.putfield 30, 3) := by decide +kernel
theorem k17_5 : decode (q_mB 17) 5 = .ok (.aload_n 0, 1) := by decide +kernel
theorem k17_6 : decode (q_mB 17) 6 = .ok (.iconst 0, 1) := by decide +kernel
theorem k17_7 : decode (q_mB 17) 7 = .ok (.putfield 34, 3) := by decide +kernel
theorem k17_10 : decode (q_mB 17) 10 = .ok (.aload_n 0, 1) := by decide +kernel
theorem k17_11 : decode (q_mB 17) 11 = .ok (.iconst 0, 1) := by decide +kernel
theorem k17_12 : decode (q_mB 17) 12 = .ok (.putfield 37, 3) := by decide +kernel
theorem k17_15 : decode (q_mB 17) 15 = .ok (.aload_n 0, 1) := by decide +kernel
theorem k17_16 : decode (q_mB 17) 16 = .ok (.iconst 0, 1) := by decide +kernel
theorem k17_17 : decode (q_mB 17) 17 = .ok (.putfield 40, 3) := by decide +kernel
theorem k17_20 : decode (q_mB 17) 20 = .ok (.aload_n 0, 1) := by decide +kernel
theorem k17_21 : decode (q_mB 17) 21 = .ok (.iconst 0, 1) := by decide +kernel
theorem k17_22 : decode (q_mB 17) 22 = .ok (.putfield 43, 3) := by decide +kernel
theorem k17_25 : decode (q_mB 17) 25 = .ok (.aload_n 0, 1) := by decide +kernel
theorem k17_26 : decode (q_mB 17) 26 = .ok (.iconst 0, 1) := by decide +kernel
theorem k17_27 : decode (q_mB 17) 27 = .ok (.putfield 69, 3) := by decide +kernel
theorem k17_30 : decode (q_mB 17) 30 = .ok (.aload_n 0, 1) := by decide +kernel
theorem k17_31 : decode (q_mB 17) 31 = .ok (.getfield 21, 3) := by decide +kernel
theorem k17_34 : decode (q_mB 17) 34 = .ok (.iconst (-1), 1) := by decide +kernel
theorem k17_35 : decode (q_mB 17) 35 = .ok (.invokestatic 75, 3) := by decide +kernel
theorem k17_38 : decode (q_mB 17) 38 = .ok (.aload_n 0, 1) := by decide +kernel
theorem k17_39 : decode (q_mB 17) 39 = .ok (.getfield 24, 3) := by decide +kernel
theorem k17_42 : decode (q_mB 17) 42 = .ok (.iconst (-1), 1) := by decide +kernel
theorem k17_43 : decode (q_mB 17) 43 = .ok (.invokestatic 75, 3) := by decide +kernel
theorem k17_46 : decode (q_mB 17) 46 = .ok (.return_, 1) := by decide +kernel
theorem k18_0 : decode (q_mB 18) 0 = .ok (.aload_n 0, 1) := by decide +kernel
theorem k18_1 : decode (q_mB 18) 1 = .ok (.getfield 34, 3) := by decide +kernel
theorem k18_4 : decode (q_mB 18) 4 = .ok (.ifCond .ne 19, 3) := by decide +kernel
theorem k18_7 : decode (q_mB 18) 7 = .ok (.aload_n 0, 1) := by decide +kernel
theorem k18_8 : decode (q_mB 18) 8 = .ok (.getfield 69, 3) := by decide +kernel
theorem k18_11 : decode (q_mB 18) 11 = .ok (.iconst 2, 1) := by decide +kernel
theorem k18_12 : decode (q_mB 18) 12 = .ok (.if_icmp .lt 7, 3) := by decide +kernel
theorem k18_15 : decode (q_mB 18) 15 = .ok (.iconst 1, 1) := by decide +kernel
theorem k18_16 : decode (q_mB 18) 16 = .ok (.goto 23, 3) := by decide +kernel
theorem k18_19 : decode (q_mB 18) 19 = .ok (.iconst 0, 1) := by decide +kernel
theorem k18_20 : decode (q_mB 18) 20 = .ok (.goto 19, 3) := by decide +kernel
theorem k18_23 : decode (q_mB 18) 23 = .ok (.aload_n 0, 1) := by decide +kernel
theorem k18_24 : decode (q_mB 18) 24 = .ok (.getfield 69, 3) := by decide +kernel
theorem k18_27 : decode (q_mB 18) 27 = .ok (.aload_n 0, 1) := by decide +kernel
theorem k18_28 : decode (q_mB 18) 28 = .ok (.getfield 34, 3) := by decide +kernel
theorem k18_31 : decode (q_mB 18) 31 = .ok (.if_icmp .ne 7, 3) := by decide +kernel
theorem k18_34 : decode (q_mB 18) 34 = .ok (.iconst 1, 1) := by decide +kernel
theorem k18_35 : decode (q_mB 18) 35 = .ok (.goto 4, 3) := by decide +kernel
theorem k18_38 : decode (q_mB 18) 38 = .ok (.iconst 0, 1) := by decide +kernel
theorem k18_39 : decode (q_mB 18) 39 = .ok (.istore_n 1, 1) := by decide +kernel
theorem k18_40 : decode (q_mB 18) 40 = .ok (.iload_n 1, 1) := by decide +kernel
theorem k18_41 : decode (q_mB 18) 41 = .ok (.ifCond .eq 14, 3) := by decide +kernel
theorem k18_44 : decode (q_mB 18) 44 = .ok (.aload_n 0, 1) := by decide +kernel
theorem k18_45 : decode (q_mB 18) 45 = .ok (.getfield 30, 3) := by decide +kernel
theorem k18_48 : decode (q_mB 18) 48 = .ok (.iconst 1, 1) := by decide +kernel
theorem k18_49 : decode (q_mB 18) 49 = .ok (.iadd, 1) := by decide +kernel
theorem k18_50 : decode (q_mB 18) 50 = .ok (.bipush 6, 2) := by decide +kernel
theorem k18_52 : decode (q_mB 18) 52 = .ok (.if_icmp .lt 5, 3) := by decide +kernel
theorem k18_55 : decode (q_mB 18) 55 = .ok (.iconst 0, 1) := by decide +kernel
theorem k18_56 : decode (q_mB 18) 56 = .ok (.ireturn, 1) := by decide +kernel
theorem k18_57 : decode (q_mB 18) 57 = .ok (.aload_n 0, 1) := by decide +kernel
theorem k18_58 : decode (q_mB 18) 58 = .ok (.aload_n 0, 1) := by decide +kernel
theorem k18_59 : decode (q_mB 18) 59 = .ok (.getfield 69, 3) := by decide +kernel
theorem k18_62 : decode (q_mB 18) 62 = .ok (.putfield 34, 3) := by decide +kernel
theorem k18_65 : decode (q_mB 18) 65 = .ok (.aload_n 0, 1) := by decide +kernel
theorem k18_66 : decode (q_mB 18) 66 = .ok (.dup, 1) := by decide +kernel
theorem k18_67 : decode (q_mB 18) 67 = .ok (.getfield 30, 3) := by decide +kernel
theorem k18_70 : decode (q_mB 18) 70 = .ok (.iconst 1, 1) := by decide +kernel
theorem k18_71 : decode (q_mB 18) 71 = .ok (.iadd, 1) := by decide +kernel
theorem k18_72 : decode (q_mB 18) 72 = .ok (.putfield 30, 3) := by decide +kernel
theorem k18_75 : decode (q_mB 18) 75 = .ok (.aload_n 0, 1) := by decide +kernel
theorem k18_76 : decode (q_mB 18) 76 = .ok (.iconst 0, 1) := by decide +kernel
theorem k18_77 : decode (q_mB 18) 77 = .ok (.putfield 69, 3) := by decide +kernel
theorem k18_80 : decode (q_mB 18) 80 = .ok (.iconst 1, 1) := by decide +kernel
theorem k18_81 : decode (q_mB 18) 81 = .ok (.ireturn, 1) := by decide +kernel
theorem k19_0 : decode (q_mB 19) 0 = .ok (.aload_n 0, 1) := by decide +kernel
theorem k19_1 : decode (q_mB 19) 1 = .ok (.getfield 34, 3) := by decide +kernel
theorem k19_4 : decode (q_mB 19) 4 = .ok (.ifCond .ne 7, 3) := by decide +kernel
theorem k19_7 : decode (q_mB 19) 7 = .ok (.iconst 5, 1) := by decide +kernel
theorem k19_8 : decode (q_mB 19) 8 = .ok (.goto 7, 3) := by decide +kernel
theorem k19_11 : decode (q_mB 19) 11 = .ok (.aload_n 0, 1) := by decide +kernel
theorem k19_12 : decode (q_mB 19) 12 = .ok (.getfield 34, 3) := by decide +kernel
theorem k19_15 : decode (q_mB 19) 15 = .ok (.istore_n 2, 1) := by decide +kernel
theorem k19_16 : decode (q_mB 19) 16 = .ok (.aload_n 0, 1) := by decide +kernel
theorem k19_17 : decode (q_mB 19) 17 = .ok (.getfield 69, 3) := by decide +kernel
theorem k19_20 : decode (q_mB 19) 20 = .ok (.iload_n 2, 1) := by decide +kernel
theorem k19_21 : decode (q_mB 19) 21 = .ok (.if_icmp .ge 12, 3) := by decide +kernel
theorem k19_24 : decode (q_mB 19) 24 = .ok (.aload_n 0, 1) := by decide +kernel
theorem k19_25 : decode (q_mB 19) 25 = .ok (.getfield 37, 3) := by decide +kernel
theorem k19_28 : decode (q_mB 19) 28 = .ok (.bipush 30, 2) := by decide +kernel
theorem k19_30 : decode (q_mB 19) 30 = .ok (.if_icmp .lt 5, 3) := by decide +kernel
theorem k19_33 : decode (q_mB 19) 33 = .ok (.iconst 0, 1) := by decide +kernel
theorem k19_34 : decode (q_mB 19) 34 = .ok (.ireturn, 1) := by decide +kernel
theorem k19_35 : decode (q_mB 19) 35 = .ok (.iload_n 1, 1) := by decide +kernel
theorem k19_36 : decode (q_mB 19) 36 = .ok (.bipush 46, 2) := by decide +kernel
theorem k19_38 : decode (q_mB 19) 38 = .ok (.if_icmp .ne 12, 3) := by decide +kernel
theorem k19_41 : decode (q_mB 19) 41 = .ok (.aload_n 0, 1) := by decide +kernel
theorem k19_42 : decode (q_mB 19) 42 = .ok (.iconst 0, 1) := by decide +kernel
theorem k19_43 : decode (q_mB 19) 43 = .ok (.iconst 0, 1) := by decide +kernel
theorem k19_44 : decode (q_mB 19) 44 = .ok (.bipush (-9), 2) := by decide +kernel
theorem k19_46 : decode (q_mB 19) 46 = .ok (.invokevirtual 81, 3) := by decide +kernel
theorem k19_49 : decode (q_mB 19) 49 = .ok (.ireturn, 1) := by decide +kernel
theorem k19_50 : decode (q_mB 19) 50 = .ok (.iload_n 1, 1) := by decide +kernel
theorem k19_51 : decode (q_mB 19) 51 = .ok (.bipush 49, 2) := by decide +kernel
theorem k19_53 : decode (q_mB 19) 53 = .ok (.if_icmp .lt 21, 3) := by decide +kernel
theorem k19_56 : decode (q_mB 19) 56 = .ok (.iload_n 1, 1) := by decide +kernel
theorem k19_57 : decode (q_mB 19) 57 = .ok (.bipush 57, 2) := by decide +kernel
theorem k19_59 : decode (q_mB 19) 59 = .ok (.if_icmp .gt 15, 3) := by decide +kernel
theorem k19_62 : decode (q_mB 19) 62 = .ok (.aload_n 0, 1) := by decide +kernel
theorem k19_63 : decode (q_mB 19) 63 = .ok (.iconst 0, 1) := by decide +kernel
theorem k19_64 : decode (q_mB 19) 64 = .ok (.iload_n 1, 1) := by decide +kernel
theorem k19_65 : decode (q_mB 19) 65 = .ok (.bipush 48, 2) := by decide +kernel
theorem k19_67 : decode (q_mB 19) 67 = .ok (.isub, 1) := by decide +kernel
theorem k19_68 : decode (q_mB 19) 68 = .ok (.bipush (-9), 2) := by decide +kernel
theorem k19_70 : decode (q_mB 19) 70 = .ok (.invokevirtual 81, 3) := by decide +kernel
theorem k19_73 : decode (q_mB 19) 73 = .ok (.ireturn, 1) := by decide +kernel
theorem k19_74 : decode (q_mB 19) 74 = .ok (.iload_n 1, 1) := by decide +kernel
theorem k19_75 : decode (q_mB 19) 75 = .ok (.bipush 35, 2) := by decide +kernel
theorem k19_77 : decode (q_mB 19) 77 = .ok (.if_icmp .ne 22, 3) := by decide +kernel
theorem k19_80 : decode (q_mB 19) 80 = .ok (.aload_n 0, 1) := by decide +kernel
theorem k19_81 : decode (q_mB 19) 81 = .ok (.dup, 1) := by decide +kernel
theorem k19_82 : decode (q_mB 19) 82 = .ok (.getfield 40, 3) := by decide +kernel
theorem k19_85 : decode (q_mB 19) 85 = .ok (.iconst 1, 1) := by decide +kernel
theorem k19_86 : decode (q_mB 19) 86 = .ok (.iadd, 1) := by decide +kernel
theorem k19_87 : decode (q_mB 19) 87 = .ok (.putfield 40, 3) := by decide +kernel
theorem k19_90 : decode (q_mB 19) 90 = .ok (.aload_n 0, 1) := by decide +kernel
theorem k19_91 : decode (q_mB 19) 91 = .ok (.iconst 1, 1) := by decide +kernel
theorem k19_92 : decode (q_mB 19) 92 = .ok (.iconst 0, 1) := by decide +kernel
theorem k19_93 : decode (q_mB 19) 93 = .ok (.bipush (-9), 2) := by decide +kernel
theorem k19_95 : decode (q_mB 19) 95 = .ok (.invokevirtual 81, 3) := by decide +kernel
theorem k19_98 : decode (q_mB 19) 98 = .ok (.ireturn, 1) := by decide +kernel
theorem k19_99 : decode (q_mB 19) 99 = .ok (.iload_n 1, 1) := by decide +kernel
theorem k19_100 : decode (q_mB 19) 100 = .ok (.bipush 97, 2) := by decide +kernel
theorem k19_102 : decode (q_mB 19) 102 = .ok (.if_icmp .lt 23, 3) := by decide +kernel
theorem k19_105 : decode (q_mB 19) 105 = .ok (.iload_n 1, 1) := by decide +kernel
theorem k19_106 : decode (q_mB 19) 106 = .ok (.bipush 99, 2) := by decide +kernel
theorem k19_108 : decode (q_mB 19) 108 = .ok (.if_icmp .gt 17, 3) := by decide +kernel
theorem k19_111 : decode (q_mB 19) 111 = .ok (.aload_n 0, 1) := by decide +kernel
theorem k19_112 : decode (q_mB 19) 112 = .ok (.iconst 2, 1) := by decide +kernel
theorem k19_113 : decode (q_mB 19) 113 = .ok (.iload_n 1, 1) := by decide +kernel
theorem k19_114 : decode (q_mB 19) 114 = .ok (.bipush 97, 2) := by decide +kernel
theorem k19_116 : decode (q_mB 19) 116 = .ok (.isub, 1) := by decide +kernel
theorem k19_117 : decode (q_mB 19) 117 = .ok (.aload_n 0, 1) := by decide +kernel
theorem k19_118 : decode (q_mB 19) 118 = .ok (.getfield 21, 3) := by decide +kernel
theorem k19_121 : decode (q_mB 19) 121 = .ok (.invokevirtual 85, 3) := by decide +kernel
theorem k19_124 : decode (q_mB 19) 124 = .ok (.ireturn, 1) := by decide +kernel
theorem k19_125 : decode (q_mB 19) 125 = .ok (.iload_n 1, 1) := by decide +kernel
theorem k19_126 : decode (q_mB 19) 126 = .ok (.bipush 120, 2) := by decide +kernel
theorem k19_128 : decode (q_mB 19) 128 = .ok (.if_icmp .lt 23, 3) := by decide +kernel
theorem k19_131 : decode (q_mB 19) 131 = .ok (.iload_n 1, 1) := by decide +kernel
theorem k19_132 : decode (q_mB 19) 132 = .ok (.bipush 122, 2) := by decide +kernel
theorem k19_134 : decode (q_mB 19) 134 = .ok (.if_icmp .gt 17, 3) := by decide +kernel
theorem k19_137 : decode (q_mB 19) 137 = .ok (.aload_n 0, 1) := by decide +kernel
theorem k19_138 : decode (q_mB 19) 138 = .ok (.iconst 3, 1) := by decide +kernel
theorem k19_139 : decode (q_mB 19) 139 = .ok (.iload_n 1, 1) := by decide +kernel
theorem k19_140 : decode (q_mB 19) 140 = .ok (.bipush 120, 2) := by decide +kernel
theorem k19_142 : decode (q_mB 19) 142 = .ok (.isub, 1) := by decide +kernel
theorem k19_143 : decode (q_mB 19) 143 = .ok (.aload_n 0, 1) := by decide +kernel
theorem k19_144 : decode (q_mB 19) 144 = .ok (.getfield 24, 3) := by decide +kernel
theorem k19_147 : decode (q_mB 19) 147 = .ok (.invokevirtual 85, 3) := by decide +kernel
theorem k19_150 : decode (q_mB 19) 150 = .ok (.ireturn, 1) := by decide +kernel
theorem k19_151 : decode (q_mB 19) 151 = .ok (.iconst 0, 1) := by decide +kernel
theorem k19_152 : decode (q_mB 19) 152 = .ok (.ireturn, 1) := by decide +kernel
theorem k20_0 : decode (q_mB 20) 0 = .ok (.iload_n 2, 1) := by decide +kernel
theorem k20_1 : decode (q_mB 20) 1 = .ok (.ifCond .lt 15, 3) := by decide +kernel
theorem k20_4 : decode (q_mB 20) 4 = .ok (.iload_n 2, 1) := by decide +kernel
theorem k20_5 : decode (q_mB 20) 5 = .ok (.aload_n 3, 1) := by decide +kernel
theorem k20_6 : decode (q_mB 20) 6 = .ok (.arraylength, 1) := by decide +kernel
theorem k20_7 : decode (q_mB 20) 7 = .ok (.if_icmp .ge 9, 3) := by decide +kernel
theorem k20_10 : decode (q_mB 20) 10 = .ok (.aload_n 3, 1) := by decide +kernel
theorem k20_11 : decode (q_mB 20) 11 = .ok (.iload_n 2, 1) := by decide +kernel
theorem k20_12 : decode (q_mB 20) 12 = .ok (.iaload, 1) := by decide +kernel
theorem k20_13 : decode (q_mB 20) 13 = .ok (.ifCond .lt 5, 3) := by decide +kernel
theorem k20_16 : decode (q_mB 20) 16 = .ok (.iconst 0, 1) := by decide +kernel
theorem k20_17 : decode (q_mB 20) 17 = .ok (.ireturn, 1) := by decide +kernel
theorem k20_18 : decode (q_mB 20) 18 = .ok (.aload_n 3, 1) := by decide +kernel
theorem k20_19 : decode (q_mB 20) 19 = .ok (.iload_n 2, 1) := by decide +kernel
theorem k20_20 : decode (q_mB 20) 20 = .ok (.aload_n 0, 1) := by decide +kernel
theorem k20_21 : decode (q_mB 20) 21 = .ok (.getfield 37, 3) := by decide +kernel
theorem k20_24 : decode (q_mB 20) 24 = .ok (.iastore, 1) := by decide +kernel
theorem k20_25 : decode (q_mB 20) 25 = .ok (.aload_n 0, 1) := by decide +kernel
theorem k20_26 : decode (q_mB 20) 26 = .ok (.iload_n 1, 1) := by decide +kernel
theorem k20_27 : decode (q_mB 20) 27 = .ok (.iconst 0, 1) := by decide +kernel
theorem k20_28 : decode (q_mB 20) 28 = .ok (.iload_n 2, 1) := by decide +kernel
theorem k20_29 : decode (q_mB 20) 29 = .ok (.invokevirtual 81, 3) := by decide +kernel
theorem k20_32 : decode (q_mB 20) 32 = .ok (.ireturn, 1) := by decide +kernel
theorem k21_0 : decode (q_mB 21) 0 = .ok (.aload_n 0, 1) := by decide +kernel
theorem k21_1 : decode (q_mB 21) 1 = .ok (.getfield 9, 3) := by decide +kernel
theorem k21_4 : decode (q_mB 21) 4 = .ok (.aload_n 0, 1) := by decide +kernel
theorem k21_5 : decode (q_mB 21) 5 = .ok (.getfield 37, 3) := by decide +kernel
theorem k21_8 : decode (q_mB 21) 8 = .ok (.iload_n 1, 1) := by decide +kernel
theorem k21_9 : decode (q_mB 21) 9 = .ok (.iastore, 1) := by decide +kernel
theorem k21_10 : decode (q_mB 21) 10 = .ok (.aload_n 0, 1) := by decide +kernel
theorem k21_11 : decode (q_mB 21) 11 = .ok (.getfield 15, 3) := by decide +kernel
theorem k21_14 : decode (q_mB 21) 14 = .ok (.aload_n 0, 1) := by decide +kernel
theorem k21_15 : decode (q_mB 21) 15 = .ok (.getfield 37, 3) := by decide +kernel
theorem k21_18 : decode (q_mB 21) 18 = .ok (.iload_n 2, 1) := by decide +kernel
theorem k21_19 : decode (q_mB 21) 19 = .ok (.iastore, 1) := by decide +kernel
theorem k21_20 : decode (q_mB 21) 20 = .ok (.aload_n 0, 1) := by decide +kernel
theorem k21_21 : decode (q_mB 21) 21 = .ok (.getfield 18, 3) := by decide +kernel
theorem k21_24 : decode (q_mB 21) 24 = .ok (.aload_n 0, 1) := by decide +kernel
theorem k21_25 : decode (q_mB 21) 25 = .ok (.getfield 37, 3) := by decide +kernel
theorem k21_28 : decode (q_mB 21) 28 = .ok (.iload_n 3, 1) := by decide +kernel
theorem k21_29 : decode (q_mB 21) 29 = .ok (.iastore, 1) := by decide +kernel
theorem k21_30 : decode (q_mB 21) 30 = .ok (.aload_n 0, 1) := by decide +kernel
theorem k21_31 : decode (q_mB 21) 31 = .ok (.dup, 1) := by decide +kernel
theorem k21_32 : decode (q_mB 21) 32 = .ok (.getfield 37, 3) := by decide +kernel
theorem k21_35 : decode (q_mB 21) 35 = .ok (.iconst 1, 1) := by decide +kernel
theorem k21_36 : decode (q_mB 21) 36 = .ok (.iadd, 1) := by decide +kernel
theorem k21_37 : decode (q_mB 21) 37 = .ok (.putfield 37, 3) := by decide +kernel
theorem k21_40 : decode (q_mB 21) 40 = .ok (.aload_n 0, 1) := by decide +kernel
theorem k21_41 : decode (q_mB 21) 41 = .ok (.dup, 1) := by decide +kernel
theorem k21_42 : decode (q_mB 21) 42 = .ok (.getfield 69, 3) := by decide +kernel
theorem k21_45 : decode (q_mB 21) 45 = .ok (.iconst 1, 1) := by decide +kernel
theorem k21_46 : decode (q_mB 21) 46 = .ok (.iadd, 1) := by decide +kernel
theorem k21_47 : decode (q_mB 21) 47 = .ok (.putfield 69, 3) := by decide +kernel
theorem k21_50 : decode (q_mB 21) 50 = .ok (.iconst 1, 1) := by decide +kernel
theorem k21_51 : decode (q_mB 21) 51 = .ok (.ireturn, 1) := by decide +kernel
theorem k22_0 : decode (q_mB 22) 0 = .ok (.iconst 0, 1) := by decide +kernel
theorem k22_1 : decode (q_mB 22) 1 = .ok (.istore_n 1, 1) := by decide +kernel
theorem k22_2 : decode (q_mB 22) 2 = .ok (.iload_n 1, 1) := by decide +kernel
theorem k22_3 : decode (q_mB 22) 3 = .ok (.iconst 3, 1) := by decide +kernel
theorem k22_4 : decode (q_mB 22) 4 = .ok (.if_icmp .ge 72, 3) := by decide +kernel
theorem k22_7 : decode (q_mB 22) 7 = .ok (.aload_n 0, 1) := by decide +kernel
theorem k22_8 : decode (q_mB 22) 8 = .ok (.getfield 21, 3) := by decide +kernel
theorem k22_11 : decode (q_mB 22) 11 = .ok (.iload_n 1, 1) := by decide +kernel
theorem k22_12 : decode (q_mB 22) 12 = .ok (.iaload, 1) := by decide +kernel
theorem k22_13 : decode (q_mB 22) 13 = .ok (.ifCond .lt 7, 3) := by decide +kernel
theorem k22_16 : decode (q_mB 22) 16 = .ok (.iconst 1, 1) := by decide +kernel
theorem k22_17 : decode (q_mB 22) 17 = .ok (.goto 4, 3) := by decide +kernel
theorem k22_20 : decode (q_mB 22) 20 = .ok (.iconst 0, 1) := by decide +kernel
theorem k22_21 : decode (q_mB 22) 21 = .ok (.istore_n 2, 1) := by decide +kernel
theorem k22_22 : decode (q_mB 22) 22 = .ok (.aload_n 0, 1) := by decide +kernel
theorem k22_23 : decode (q_mB 22) 23 = .ok (.getfield 24, 3) := by decide +kernel
theorem k22_26 : decode (q_mB 22) 26 = .ok (.iload_n 1, 1) := by decide +kernel
theorem k22_27 : decode (q_mB 22) 27 = .ok (.iaload, 1) := by decide +kernel
theorem k22_28 : decode (q_mB 22) 28 = .ok (.ifCond .lt 7, 3) := by decide +kernel
theorem k22_31 : decode (q_mB 22) 31 = .ok (.iconst 1, 1) := by decide +kernel
theorem k22_32 : decode (q_mB 22) 32 = .ok (.goto 4, 3) := by decide +kernel
theorem k22_35 : decode (q_mB 22) 35 = .ok (.iconst 0, 1) := by decide +kernel
theorem k22_36 : decode (q_mB 22) 36 = .ok (.istore_n 3, 1) := by decide +kernel
theorem k22_37 : decode (q_mB 22) 37 = .ok (.iload_n 2, 1) := by decide +kernel
theorem k22_38 : decode (q_mB 22) 38 = .ok (.iload_n 3, 1) := by decide +kernel
theorem k22_39 : decode (q_mB 22) 39 = .ok (.if_icmp .ne 15, 3) := by decide +kernel
theorem k22_42 : decode (q_mB 22) 42 = .ok (.iload_n 2, 1) := by decide +kernel
theorem k22_43 : decode (q_mB 22) 43 = .ok (.ifCond .eq 13, 3) := by decide +kernel
theorem k22_46 : decode (q_mB 22) 46 = .ok (.iload_n 1, 1) := by decide +kernel
theorem k22_47 : decode (q_mB 22) 47 = .ok (.aload_n 0, 1) := by decide +kernel
theorem k22_48 : decode (q_mB 22) 48 = .ok (.getfield 43, 3) := by decide +kernel
theorem k22_51 : decode (q_mB 22) 51 = .ok (.if_icmp .eq 5, 3) := by decide +kernel
theorem k22_54 : decode (q_mB 22) 54 = .ok (.iconst 0, 1) := by decide +kernel
theorem k22_55 : decode (q_mB 22) 55 = .ok (.ireturn, 1) := by decide +kernel
theorem k22_56 : decode (q_mB 22) 56 = .ok (.iload_n 2, 1) := by decide +kernel
theorem k22_57 : decode (q_mB 22) 57 = .ok (.ifCond .eq 13, 3) := by decide +kernel
theorem k22_60 : decode (q_mB 22) 60 = .ok (.aload_n 0, 1) := by decide +kernel
theorem k22_61 : decode (q_mB 22) 61 = .ok (.dup, 1) := by decide +kernel
theorem k22_62 : decode (q_mB 22) 62 = .ok (.getfield 43, 3) := by decide +kernel
theorem k22_65 : decode (q_mB 22) 65 = .ok (.iconst 1, 1) := by decide +kernel
theorem k22_66 : decode (q_mB 22) 66 = .ok (.iadd, 1) := by decide +kernel
theorem k22_67 : decode (q_mB 22) 67 = .ok (.putfield 43, 3) := by decide +kernel
theorem k22_70 : decode (q_mB 22) 70 = .ok (.iinc 1 1, 3) := by decide +kernel
theorem k22_73 : decode (q_mB 22) 73 = .ok (.goto (-71), 3) := by decide +kernel
theorem k22_76 : decode (q_mB 22) 76 = .ok (.aload_n 0, 1) := by decide +kernel
theorem k22_77 : decode (q_mB 22) 77 = .ok (.getfield 43, 3) := by decide +kernel
theorem k22_80 : decode (q_mB 22) 80 = .ok (.ifCond .le 7, 3) := by decide +kernel
theorem k22_83 : decode (q_mB 22) 83 = .ok (.iconst 1, 1) := by decide +kernel
theorem k22_84 : decode (q_mB 22) 84 = .ok (.goto 4, 3) := by decide +kernel
theorem k22_87 : decode (q_mB 22) 87 = .ok (.iconst 0, 1) := by decide +kernel
theorem k22_88 : decode (q_mB 22) 88 = .ok (.ireturn, 1) := by decide +kernel
theorem k23_0 : decode (q_mB 23) 0 = .ok (.iload_n 1, 1) := by decide +kernel
theorem k23_1 : decode (q_mB 23) 1 = .ok (.ifCond .lt 15, 3) := by decide +kernel
theorem k23_4 : decode (q_mB 23) 4 = .ok (.iload_n 1, 1) := by decide +kernel
theorem k23_5 : decode (q_mB 23) 5 = .ok (.aload_n 0, 1) := by decide +kernel
theorem k23_6 : decode (q_mB 23) 6 = .ok (.getfield 37, 3) := by decide +kernel
theorem k23_9 : decode (q_mB 23) 9 = .ok (.if_icmp .ge 7, 3) := by decide +kernel
theorem k23_12 : decode (q_mB 23) 12 = .ok (.iconst 1, 1) := by decide +kernel
theorem k23_13 : decode (q_mB 23) 13 = .ok (.goto 4, 3) := by decide +kernel
theorem k23_16 : decode (q_mB 23) 16 = .ok (.iconst 0, 1) := by decide +kernel
theorem k23_17 : decode (q_mB 23) 17 = .ok (.ireturn, 1) := by decide +kernel
theorem k24_0 : decode (q_mB 24) 0 = .ok (.iload_n 1, 1) := by decide +kernel
theorem k24_1 : decode (q_mB 24) 1 = .ok (.ifCond .lt 15, 3) := by decide +kernel
theorem k24_4 : decode (q_mB 24) 4 = .ok (.iload_n 1, 1) := by decide +kernel
theorem k24_5 : decode (q_mB 24) 5 = .ok (.aload_n 0, 1) := by decide +kernel
theorem k24_6 : decode (q_mB 24) 6 = .ok (.getfield 43, 3) := by decide +kernel
theorem k24_9 : decode (q_mB 24) 9 = .ok (.if_icmp .ge 7, 3) := by decide +kernel
theorem k24_12 : decode (q_mB 24) 12 = .ok (.iconst 1, 1) := by decide +kernel
theorem k24_13 : decode (q_mB 24) 13 = .ok (.goto 4, 3) := by decide +kernel
theorem k24_16 : decode (q_mB 24) 16 = .ok (.iconst 0, 1) := by decide +kernel
theorem k24_17 : decode (q_mB 24) 17 = .ok (.ireturn, 1) := by decide +kernel
theorem k25_0 : decode (q_mB 25) 0 = .ok (.aload_n 0, 1) := by decide +kernel
theorem k25_1 : decode (q_mB 25) 1 = .ok (.iload_n 1, 1) := by decide +kernel
theorem k25_2 : decode (q_mB 25) 2 = .ok (.invokevirtual 89, 3) := by decide +kernel
theorem k25_5 : decode (q_mB 25) 5 = .ok (.ifCond .eq 12, 3) := by decide +kernel
theorem k25_8 : decode (q_mB 25) 8 = .ok (.aload_n 0, 1) := by decide +kernel
theorem k25_9 : decode (q_mB 25) 9 = .ok (.getfield 21, 3) := by decide +kernel
theorem k25_12 : decode (q_mB 25) 12 = .ok (.iload_n 1, 1) := by decide +kernel
theorem k25_13 : decode (q_mB 25) 13 = .ok (.iaload, 1) := by decide +kernel
theorem k25_14 : decode (q_mB 25) 14 = .ok (.goto 4, 3) := by decide +kernel
theorem k25_17 : decode (q_mB 25) 17 = .ok (.iconst (-1), 1) := by decide +kernel
theorem k25_18 : decode (q_mB 25) 18 = .ok (.ireturn, 1) := by decide +kernel
theorem k26_0 : decode (q_mB 26) 0 = .ok (.aload_n 0, 1) := by decide +kernel
theorem k26_1 : decode (q_mB 26) 1 = .ok (.iload_n 1, 1) := by decide +kernel
theorem k26_2 : decode (q_mB 26) 2 = .ok (.invokevirtual 89, 3) := by decide +kernel
theorem k26_5 : decode (q_mB 26) 5 = .ok (.ifCond .eq 12, 3) := by decide +kernel
theorem k26_8 : decode (q_mB 26) 8 = .ok (.aload_n 0, 1) := by decide +kernel
theorem k26_9 : decode (q_mB 26) 9 = .ok (.getfield 24, 3) := by decide +kernel
theorem k26_12 : decode (q_mB 26) 12 = .ok (.iload_n 1, 1) := by decide +kernel
theorem k26_13 : decode (q_mB 26) 13 = .ok (.iaload, 1) := by decide +kernel
theorem k26_14 : decode (q_mB 26) 14 = .ok (.goto 4, 3) := by decide +kernel
theorem k26_17 : decode (q_mB 26) 17 = .ok (.iconst (-1), 1) := by decide +kernel
theorem k26_18 : decode (q_mB 26) 18 = .ok (.ireturn, 1) := by decide +kernel
theorem k27_0 : decode (q_mB 27) 0 = .ok (.aload_n 0, 1) := by decide +kernel
theorem k27_1 : decode (q_mB 27) 1 = .ok (.iload_n 1, 1) := by decide +kernel
theorem k27_2 : decode (q_mB 27) 2 = .ok (.invokevirtual 92, 3) := by decide +kernel
theorem k27_5 : decode (q_mB 27) 5 = .ok (.ifCond .eq 11, 3) := by decide +kernel
theorem k27_8 : decode (q_mB 27) 8 = .ok (.aload_n 0, 1) := by decide +kernel
theorem k27_9 : decode (q_mB 27) 9 = .ok (.getfield 34, 3) := by decide +kernel
theorem k27_12 : decode (q_mB 27) 12 = .ok (.iconst 1, 1) := by decide +kernel
theorem k27_13 : decode (q_mB 27) 13 = .ok (.if_icmp .ge 5, 3) := by decide +kernel
theorem k27_16 : decode (q_mB 27) 16 = .ok (.iconst (-1), 1) := by decide +kernel
theorem k27_17 : decode (q_mB 27) 17 = .ok (.ireturn, 1) := by decide +kernel
theorem k27_18 : decode (q_mB 27) 18 = .ok (.iload_n 2, 1) := by decide +kernel
theorem k27_19 : decode (q_mB 27) 19 = .ok (.iconst 1, 1) := by decide +kernel
theorem k27_20 : decode (q_mB 27) 20 = .ok (.if_icmp .ne 20, 3) := by decide +kernel
theorem k27_23 : decode (q_mB 27) 23 = .ok (.iload_n 1, 1) := by decide +kernel
theorem k27_24 : decode (q_mB 27) 24 = .ok (.aload_n 0, 1) := by decide +kernel
theorem k27_25 : decode (q_mB 27) 25 = .ok (.getfield 34, 3) := by decide +kernel
theorem k27_28 : decode (q_mB 27) 28 = .ok (.irem, 1) := by decide +kernel
theorem k27_29 : decode (q_mB 27) 29 = .ok (.aload_n 0, 1) := by decide +kernel
theorem k27_30 : decode (q_mB 27) 30 = .ok (.getfield 34, 3) := by decide +kernel
theorem k27_33 : decode (q_mB 27) 33 = .ok (.iconst 1, 1) := by decide +kernel
theorem k27_34 : decode (q_mB 27) 34 = .ok (.isub, 1) := by decide +kernel
theorem k27_35 : decode (q_mB 27) 35 = .ok (.if_icmp .ne 5, 3) := by decide +kernel
theorem k27_38 : decode (q_mB 27) 38 = .ok (.iconst (-1), 1) := by decide +kernel
theorem k27_39 : decode (q_mB 27) 39 = .ok (.ireturn, 1) := by decide +kernel
theorem k27_40 : decode (q_mB 27) 40 = .ok (.iload_n 2, 1) := by decide +kernel
theorem k27_41 : decode (q_mB 27) 41 = .ok (.iconst 1, 1) := by decide +kernel
theorem k27_42 : decode (q_mB 27) 42 = .ok (.if_icmp .ne 9, 3) := by decide +kernel
theorem k27_45 : decode (q_mB 27) 45 = .ok (.iload_n 1, 1) := by decide +kernel
theorem k27_46 : decode (q_mB 27) 46 = .ok (.iconst 1, 1) := by decide +kernel
theorem k27_47 : decode (q_mB 27) 47 = .ok (.iadd, 1) := by decide +kernel
theorem k27_48 : decode (q_mB 27) 48 = .ok (.goto 9, 3) := by decide +kernel
theorem k27_51 : decode (q_mB 27) 51 = .ok (.iload_n 1, 1) := by decide +kernel
theorem k27_52 : decode (q_mB 27) 52 = .ok (.aload_n 0, 1) := by decide +kernel
theorem k27_53 : decode (q_mB 27) 53 = .ok (.getfield 34, 3) := by decide +kernel
theorem k27_56 : decode (q_mB 27) 56 = .ok (.iadd, 1) := by decide +kernel
theorem k27_57 : decode (q_mB 27) 57 = .ok (.istore_n 3, 1) := by decide +kernel
theorem k27_58 : decode (q_mB 27) 58 = .ok (.aload_n 0, 1) := by decide +kernel
theorem k27_59 : decode (q_mB 27) 59 = .ok (.iload_n 3, 1) := by decide +kernel
theorem k27_60 : decode (q_mB 27) 60 = .ok (.invokevirtual 92, 3) := by decide +kernel
theorem k27_63 : decode (q_mB 27) 63 = .ok (.ifCond .eq 17, 3) := by decide +kernel
theorem k27_66 : decode (q_mB 27) 66 = .ok (.aload_n 0, 1) := by decide +kernel
theorem k27_67 : decode (q_mB 27) 67 = .ok (.getfield 9, 3) := by decide +kernel
theorem k27_70 : decode (q_mB 27) 70 = .ok (.iload_n 3, 1) := by decide +kernel
theorem k27_71 : decode (q_mB 27) 71 = .ok (.iaload, 1) := by decide +kernel
theorem k27_72 : decode (q_mB 27) 72 = .ok (.iconst 1, 1) := by decide +kernel
theorem k27_73 : decode (q_mB 27) 73 = .ok (.if_icmp .eq 7, 3) := by decide +kernel
theorem k27_76 : decode (q_mB 27) 76 = .ok (.iload_n 3, 1) := by decide +kernel
theorem k27_77 : decode (q_mB 27) 77 = .ok (.goto 4, 3) := by decide +kernel
theorem k27_80 : decode (q_mB 27) 80 = .ok (.iconst (-1), 1) := by decide +kernel
theorem k27_81 : decode (q_mB 27) 81 = .ok (.ireturn, 1) := by decide +kernel
