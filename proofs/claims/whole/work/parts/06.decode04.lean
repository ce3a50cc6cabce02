theorem k116_0 : decode (q_mB 116) 0 = .ok (.aload_n 0, 1) := by decide +kernel
theorem k116_1 : decode (q_mB 116) 1 = .ok (.iload_n 1, 1) := by decide +kernel
theorem k116_2 : decode (q_mB 116) 2 = .ok (.invokevirtual 126, 3) := by decide +kernel
theorem k116_5 : decode (q_mB 116) 5 = .ok (.ifCond .eq 20, 3) := by decide +kernel
theorem k116_8 : decode (q_mB 116) 8 = .ok (.aload_n 0, 1) := by decide +kernel
theorem k116_9 : decode (q_mB 116) 9 = .ok (.iload_n 2, 1) := by decide +kernel
theorem k116_10 : decode (q_mB 116) 10 = .ok (.invokevirtual 126, 3) := by decide +kernel
theorem k116_13 : decode (q_mB 116) 13 = .ok (.ifCond .eq 12, 3) := by decide +kernel
theorem k116_16 : decode (q_mB 116) 16 = .ok (.aload_n 0, 1) := by decide +kernel
theorem k116_17 : decode (q_mB 116) 17 = .ok (.iload_n 1, 1) := by decide +kernel
theorem k116_18 : decode (q_mB 116) 18 = .ok (.iload_n 2, 1) := by decide +kernel
theorem k116_19 : decode (q_mB 116) 19 = .ok (.invokevirtual 129, 3) := by decide +kernel
theorem k116_22 : decode (q_mB 116) 22 = .ok (.goto 8, 3) := by decide +kernel
theorem k116_25 : decode (q_mB 116) 25 = .ok (.aload_n 0, 1) := by decide +kernel
theorem k116_26 : decode (q_mB 116) 26 = .ok (.iconst (-1), 1) := by decide +kernel
theorem k116_27 : decode (q_mB 116) 27 = .ok (.invokevirtual 80, 3) := by decide +kernel
theorem k116_30 : decode (q_mB 116) 30 = .ok (.ireturn, 1) := by decide +kernel
theorem k117_0 : decode (q_mB 117) 0 = .ok (.iconst 0, 1) := by decide +kernel
theorem k117_1 : decode (q_mB 117) 1 = .ok (.istore_n 2, 1) := by decide +kernel
theorem k117_2 : decode (q_mB 117) 2 = .ok (.iconst 0, 1) := by decide +kernel
theorem k117_3 : decode (q_mB 117) 3 = .ok (.istore_n 3, 1) := by decide +kernel
theorem k117_4 : decode (q_mB 117) 4 = .ok (.iload_n 3, 1) := by decide +kernel
theorem k117_5 : decode (q_mB 117) 5 = .ok (.aload_n 0, 1) := by decide +kernel
theorem k117_6 : decode (q_mB 117) 6 = .ok (.invokevirtual 64, 3) := by decide +kernel
theorem k117_9 : decode (q_mB 117) 9 = .ok (.if_icmp .ge 23, 3) := by decide +kernel
theorem k117_12 : decode (q_mB 117) 12 = .ok (.iload_n 2, 1) := by decide +kernel
theorem k117_13 : decode (q_mB 117) 13 = .ok (.iload_n 1, 1) := by decide +kernel
theorem k117_14 : decode (q_mB 117) 14 = .ok (.iload_n 3, 1) := by decide +kernel
theorem k117_15 : decode (q_mB 117) 15 = .ok (.ishr, 1) := by decide +kernel
theorem k117_16 : decode (q_mB 117) 16 = .ok (.iconst 1, 1) := by decide +kernel
theorem k117_17 : decode (q_mB 117) 17 = .ok (.iand, 1) := by decide +kernel
theorem k117_18 : decode (q_mB 117) 18 = .ok (.aload_n 0, 1) := by decide +kernel
theorem k117_19 : decode (q_mB 117) 19 = .ok (.iload_n 3, 1) := by decide +kernel
theorem k117_20 : decode (q_mB 117) 20 = .ok (.invokevirtual 132, 3) := by decide +kernel
theorem k117_23 : decode (q_mB 117) 23 = .ok (.imul, 1) := by decide +kernel
theorem k117_24 : decode (q_mB 117) 24 = .ok (.iadd, 1) := by decide +kernel
theorem k117_25 : decode (q_mB 117) 25 = .ok (.istore_n 2, 1) := by decide +kernel
theorem k117_26 : decode (q_mB 117) 26 = .ok (.iinc 3 1, 3) := by decide +kernel
theorem k117_29 : decode (q_mB 117) 29 = .ok (.goto (-25), 3) := by decide +kernel
theorem k117_32 : decode (q_mB 117) 32 = .ok (.iload_n 2, 1) := by decide +kernel
theorem k117_33 : decode (q_mB 117) 33 = .ok (.ireturn, 1) := by decide +kernel
theorem k118_0 : decode (q_mB 118) 0 = .ok (.aload_n 0, 1) := by decide +kernel
theorem k118_1 : decode (q_mB 118) 1 = .ok (.iload_n 1, 1) := by decide +kernel
theorem k118_2 : decode (q_mB 118) 2 = .ok (.invokevirtual 135, 3) := by decide +kernel
theorem k118_5 : decode (q_mB 118) 5 = .ok (.istore_n 2, 1) := by decide +kernel
theorem k118_6 : decode (q_mB 118) 6 = .ok (.aload_n 0, 1) := by decide +kernel
theorem k118_7 : decode (q_mB 118) 7 = .ok (.getfield 138, 3) := by decide +kernel
theorem k118_10 : decode (q_mB 118) 10 = .ok (.ifCond .lt 11, 3) := by decide +kernel
theorem k118_13 : decode (q_mB 118) 13 = .ok (.iload_n 2, 1) := by decide +kernel
theorem k118_14 : decode (q_mB 118) 14 = .ok (.aload_n 0, 1) := by decide +kernel
theorem k118_15 : decode (q_mB 118) 15 = .ok (.getfield 138, 3) := by decide +kernel
theorem k118_18 : decode (q_mB 118) 18 = .ok (.if_icmp .ge 8, 3) := by decide +kernel
theorem k118_21 : decode (q_mB 118) 21 = .ok (.aload_n 0, 1) := by decide +kernel
theorem k118_22 : decode (q_mB 118) 22 = .ok (.iload_n 2, 1) := by decide +kernel
theorem k118_23 : decode (q_mB 118) 23 = .ok (.putfield 138, 3) := by decide +kernel
theorem k118_26 : decode (q_mB 118) 26 = .ok (.iload_n 1, 1) := by decide +kernel
theorem k118_27 : decode (q_mB 118) 27 = .ok (.aload_n 0, 1) := by decide +kernel
theorem k118_28 : decode (q_mB 118) 28 = .ok (.getfield 141, 3) := by decide +kernel
theorem k118_31 : decode (q_mB 118) 31 = .ok (.iand, 1) := by decide +kernel
theorem k118_32 : decode (q_mB 118) 32 = .ok (.aload_n 0, 1) := by decide +kernel
theorem k118_33 : decode (q_mB 118) 33 = .ok (.getfield 141, 3) := by decide +kernel
theorem k118_36 : decode (q_mB 118) 36 = .ok (.if_icmp .ne 13, 3) := by decide +kernel
theorem k118_39 : decode (q_mB 118) 39 = .ok (.aload_n 0, 1) := by decide +kernel
theorem k118_40 : decode (q_mB 118) 40 = .ok (.dup, 1) := by decide +kernel
theorem k118_41 : decode (q_mB 118) 41 = .ok (.getfield 144, 3) := by decide +kernel
theorem k118_44 : decode (q_mB 118) 44 = .ok (.iconst 1, 1) := by decide +kernel
theorem k118_45 : decode (q_mB 118) 45 = .ok (.iadd, 1) := by decide +kernel
theorem k118_46 : decode (q_mB 118) 46 = .ok (.putfield 144, 3) := by decide +kernel
theorem k118_49 : decode (q_mB 118) 49 = .ok (.iconst 0, 1) := by decide +kernel
theorem k118_50 : decode (q_mB 118) 50 = .ok (.istore_n 3, 1) := by decide +kernel
theorem k118_51 : decode (q_mB 118) 51 = .ok (.iload_n 3, 1) := by decide +kernel
theorem k118_52 : decode (q_mB 118) 52 = .ok (.aload_n 0, 1) := by decide +kernel
theorem k118_53 : decode (q_mB 118) 53 = .ok (.invokevirtual 64, 3) := by decide +kernel
theorem k118_56 : decode (q_mB 118) 56 = .ok (.if_icmp .ge 23, 3) := by decide +kernel
theorem k118_59 : decode (q_mB 118) 59 = .ok (.aload_n 0, 1) := by decide +kernel
theorem k118_60 : decode (q_mB 118) 60 = .ok (.getfield 52, 3) := by decide +kernel
theorem k118_63 : decode (q_mB 118) 63 = .ok (.iload_n 3, 1) := by decide +kernel
theorem k118_64 : decode (q_mB 118) 64 = .ok (.dup2, 1) := by decide +kernel
theorem k118_65 : decode (q_mB 118) 65 = .ok (.iaload, 1) := by decide +kernel
theorem k118_66 : decode (q_mB 118) 66 = .ok (.iload_n 1, 1) := by decide +kernel
theorem k118_67 : decode (q_mB 118) 67 = .ok (.iload_n 3, 1) := by decide +kernel
theorem k118_68 : decode (q_mB 118) 68 = .ok (.ishr, 1) := by decide +kernel
theorem k118_69 : decode (q_mB 118) 69 = .ok (.iconst 1, 1) := by decide +kernel
theorem k118_70 : decode (q_mB 118) 70 = .ok (.iand, 1) := by decide +kernel
theorem k118_71 : decode (q_mB 118) 71 = .ok (.iadd, 1) := by decide +kernel
theorem k118_72 : decode (q_mB 118) 72 = .ok (.iastore, 1) := by decide +kernel
theorem k118_73 : decode (q_mB 118) 73 = .ok (.iinc 3 1, 3) := by decide +kernel
theorem k118_76 : decode (q_mB 118) 76 = .ok (.goto (-25), 3) := by decide +kernel
theorem k118_79 : decode (q_mB 118) 79 = .ok (.iconst 0, 1) := by decide +kernel
theorem k118_80 : decode (q_mB 118) 80 = .ok (.istore_n 3, 1) := by decide +kernel
theorem k118_81 : decode (q_mB 118) 81 = .ok (.iload_n 3, 1) := by decide +kernel
theorem k118_82 : decode (q_mB 118) 82 = .ok (.aload_n 0, 1) := by decide +kernel
theorem k118_83 : decode (q_mB 118) 83 = .ok (.getfield 13, 3) := by decide +kernel
theorem k118_86 : decode (q_mB 118) 86 = .ok (.iconst 2, 1) := by decide +kernel
theorem k118_87 : decode (q_mB 118) 87 = .ok (.iaload, 1) := by decide +kernel
theorem k118_88 : decode (q_mB 118) 88 = .ok (.if_icmp .ge 89, 3) := by decide +kernel
theorem k118_91 : decode (q_mB 118) 91 = .ok (.iconst 0, 1) := by decide +kernel
theorem k118_92 : decode (q_mB 118) 92 = .ok (.istore 4, 2) := by decide +kernel
theorem k118_94 : decode (q_mB 118) 94 = .ok (.iload 4, 2) := by decide +kernel
theorem k118_96 : decode (q_mB 118) 96 = .ok (.aload_n 0, 1) := by decide +kernel
theorem k118_97 : decode (q_mB 118) 97 = .ok (.invokevirtual 64, 3) := by decide +kernel
theorem k118_100 : decode (q_mB 118) 100 = .ok (.if_icmp .ge 48, 3) := by decide +kernel
theorem k118_103 : decode (q_mB 118) 103 = .ok (.aload_n 0, 1) := by decide +kernel
theorem k118_104 : decode (q_mB 118) 104 = .ok (.getfield 28, 3) := by decide +kernel
theorem k118_107 : decode (q_mB 118) 107 = .ok (.sipush 400, 3) := by decide +kernel
theorem k118_110 : decode (q_mB 118) 110 = .ok (.iload_n 3, 1) := by decide +kernel
theorem k118_111 : decode (q_mB 118) 111 = .ok (.imul, 1) := by decide +kernel
theorem k118_112 : decode (q_mB 118) 112 = .ok (.aload_n 0, 1) := by decide +kernel
theorem k118_113 : decode (q_mB 118) 113 = .ok (.getfield 46, 3) := by decide +kernel
theorem k118_116 : decode (q_mB 118) 116 = .ok (.iload_n 3, 1) := by decide +kernel
theorem k118_117 : decode (q_mB 118) 117 = .ok (.iaload, 1) := by decide +kernel
theorem k118_118 : decode (q_mB 118) 118 = .ok (.iadd, 1) := by decide +kernel
theorem k118_119 : decode (q_mB 118) 119 = .ok (.iaload, 1) := by decide +kernel
theorem k118_120 : decode (q_mB 118) 120 = .ok (.iload 4, 2) := by decide +kernel
theorem k118_122 : decode (q_mB 118) 122 = .ok (.ishr, 1) := by decide +kernel
theorem k118_123 : decode (q_mB 118) 123 = .ok (.iconst 1, 1) := by decide +kernel
theorem k118_124 : decode (q_mB 118) 124 = .ok (.iand, 1) := by decide +kernel
theorem k118_125 : decode (q_mB 118) 125 = .ok (.iconst 1, 1) := by decide +kernel
theorem k118_126 : decode (q_mB 118) 126 = .ok (.if_icmp .ne 16, 3) := by decide +kernel
theorem k118_129 : decode (q_mB 118) 129 = .ok (.aload_n 0, 1) := by decide +kernel
theorem k118_130 : decode (q_mB 118) 130 = .ok (.getfield 55, 3) := by decide +kernel
theorem k118_133 : decode (q_mB 118) 133 = .ok (.iload 4, 2) := by decide +kernel
theorem k118_135 : decode (q_mB 118) 135 = .ok (.dup2, 1) := by decide +kernel
theorem k118_136 : decode (q_mB 118) 136 = .ok (.iaload, 1) := by decide +kernel
theorem k118_137 : decode (q_mB 118) 137 = .ok (.iconst 1, 1) := by decide +kernel
theorem k118_138 : decode (q_mB 118) 138 = .ok (.iload_n 3, 1) := by decide +kernel
theorem k118_139 : decode (q_mB 118) 139 = .ok (.ishl, 1) := by decide +kernel
theorem k118_140 : decode (q_mB 118) 140 = .ok (.ior, 1) := by decide +kernel
theorem k118_141 : decode (q_mB 118) 141 = .ok (.iastore, 1) := by decide +kernel
theorem k118_142 : decode (q_mB 118) 142 = .ok (.iinc 4 1, 3) := by decide +kernel
theorem k118_145 : decode (q_mB 118) 145 = .ok (.goto (-51), 3) := by decide +kernel
theorem k118_148 : decode (q_mB 118) 148 = .ok (.aload_n 0, 1) := by decide +kernel
theorem k118_149 : decode (q_mB 118) 149 = .ok (.getfield 147, 3) := by decide +kernel
theorem k118_152 : decode (q_mB 118) 152 = .ok (.aload_n 0, 1) := by decide +kernel
theorem k118_153 : decode (q_mB 118) 153 = .ok (.getfield 150, 3) := by decide +kernel
theorem k118_156 : decode (q_mB 118) 156 = .ok (.if_icmp .ne 15, 3) := by decide +kernel
theorem k118_159 : decode (q_mB 118) 159 = .ok (.aload_n 0, 1) := by decide +kernel
theorem k118_160 : decode (q_mB 118) 160 = .ok (.getfield 49, 3) := by decide +kernel
theorem k118_163 : decode (q_mB 118) 163 = .ok (.iload_n 3, 1) := by decide +kernel
theorem k118_164 : decode (q_mB 118) 164 = .ok (.aload_n 0, 1) := by decide +kernel
theorem k118_165 : decode (q_mB 118) 165 = .ok (.getfield 46, 3) := by decide +kernel
theorem k118_168 : decode (q_mB 118) 168 = .ok (.iload_n 3, 1) := by decide +kernel
theorem k118_169 : decode (q_mB 118) 169 = .ok (.iaload, 1) := by decide +kernel
theorem k118_170 : decode (q_mB 118) 170 = .ok (.iastore, 1) := by decide +kernel
theorem k118_171 : decode (q_mB 118) 171 = .ok (.iinc 3 1, 3) := by decide +kernel
theorem k118_174 : decode (q_mB 118) 174 = .ok (.goto (-93), 3) := by decide +kernel
theorem k118_177 : decode (q_mB 118) 177 = .ok (.aload_n 0, 1) := by decide +kernel
theorem k118_178 : decode (q_mB 118) 178 = .ok (.dup, 1) := by decide +kernel
theorem k118_179 : decode (q_mB 118) 179 = .ok (.getfield 147, 3) := by decide +kernel
theorem k118_182 : decode (q_mB 118) 182 = .ok (.iconst 1, 1) := by decide +kernel
theorem k118_183 : decode (q_mB 118) 183 = .ok (.iadd, 1) := by decide +kernel
theorem k118_184 : decode (q_mB 118) 184 = .ok (.putfield 147, 3) := by decide +kernel
theorem k118_187 : decode (q_mB 118) 187 = .ok (.return_, 1) := by decide +kernel
theorem k119_0 : decode (q_mB 119) 0 = .ok (.iload_n 1, 1) := by decide +kernel
theorem k119_1 : decode (q_mB 119) 1 = .ok (.aload_n 0, 1) := by decide +kernel
theorem k119_2 : decode (q_mB 119) 2 = .ok (.getfield 13, 3) := by decide +kernel
theorem k119_5 : decode (q_mB 119) 5 = .ok (.iconst 2, 1) := by decide +kernel
theorem k119_6 : decode (q_mB 119) 6 = .ok (.iaload, 1) := by decide +kernel
theorem k119_7 : decode (q_mB 119) 7 = .ok (.if_icmp .ne 9, 3) := by decide +kernel
theorem k119_10 : decode (q_mB 119) 10 = .ok (.aload_n 0, 1) := by decide +kernel
theorem k119_11 : decode (q_mB 119) 11 = .ok (.iload_n 2, 1) := by decide +kernel
theorem k119_12 : decode (q_mB 119) 12 = .ok (.invokevirtual 153, 3) := by decide +kernel
theorem k119_15 : decode (q_mB 119) 15 = .ok (.return_, 1) := by decide +kernel
theorem k119_16 : decode (q_mB 119) 16 = .ok (.iconst 0, 1) := by decide +kernel
theorem k119_17 : decode (q_mB 119) 17 = .ok (.istore 4, 2) := by decide +kernel
theorem k119_19 : decode (q_mB 119) 19 = .ok (.iload 4, 2) := by decide +kernel
theorem k119_21 : decode (q_mB 119) 21 = .ok (.aload_n 0, 1) := by decide +kernel
theorem k119_22 : decode (q_mB 119) 22 = .ok (.getfield 40, 3) := by decide +kernel
theorem k119_25 : decode (q_mB 119) 25 = .ok (.iload_n 1, 1) := by decide +kernel
theorem k119_26 : decode (q_mB 119) 26 = .ok (.iaload, 1) := by decide +kernel
theorem k119_27 : decode (q_mB 119) 27 = .ok (.if_icmp .ge 128, 3) := by decide +kernel
theorem k119_30 : decode (q_mB 119) 30 = .ok (.sipush 400, 3) := by decide +kernel
theorem k119_33 : decode (q_mB 119) 33 = .ok (.iload_n 1, 1) := by decide +kernel
theorem k119_34 : decode (q_mB 119) 34 = .ok (.imul, 1) := by decide +kernel
theorem k119_35 : decode (q_mB 119) 35 = .ok (.iload 4, 2) := by decide +kernel
theorem k119_37 : decode (q_mB 119) 37 = .ok (.iadd, 1) := by decide +kernel
theorem k119_38 : decode (q_mB 119) 38 = .ok (.istore 5, 2) := by decide +kernel
theorem k119_40 : decode (q_mB 119) 40 = .ok (.aload_n 0, 1) := by decide +kernel
theorem k119_41 : decode (q_mB 119) 41 = .ok (.getfield 43, 3) := by decide +kernel
theorem k119_44 : decode (q_mB 119) 44 = .ok (.iload_n 1, 1) := by decide +kernel
theorem k119_45 : decode (q_mB 119) 45 = .ok (.iaload, 1) := by decide +kernel
theorem k119_46 : decode (q_mB 119) 46 = .ok (.ifCond .ge 25, 3) := by decide +kernel
theorem k119_49 : decode (q_mB 119) 49 = .ok (.iload_n 3, 1) := by decide +kernel
theorem k119_50 : decode (q_mB 119) 50 = .ok (.aload_n 0, 1) := by decide +kernel
theorem k119_51 : decode (q_mB 119) 51 = .ok (.getfield 37, 3) := by decide +kernel
theorem k119_54 : decode (q_mB 119) 54 = .ok (.iload 5, 2) := by decide +kernel
theorem k119_56 : decode (q_mB 119) 56 = .ok (.iaload, 1) := by decide +kernel
theorem k119_57 : decode (q_mB 119) 57 = .ok (.ishr, 1) := by decide +kernel
theorem k119_58 : decode (q_mB 119) 58 = .ok (.iconst 1, 1) := by decide +kernel
theorem k119_59 : decode (q_mB 119) 59 = .ok (.iand, 1) := by decide +kernel
theorem k119_60 : decode (q_mB 119) 60 = .ok (.ifCond .ne 7, 3) := by decide +kernel
theorem k119_63 : decode (q_mB 119) 63 = .ok (.iconst 1, 1) := by decide +kernel
theorem k119_64 : decode (q_mB 119) 64 = .ok (.goto 28, 3) := by decide +kernel
theorem k119_67 : decode (q_mB 119) 67 = .ok (.iconst 0, 1) := by decide +kernel
theorem k119_68 : decode (q_mB 119) 68 = .ok (.goto 24, 3) := by decide +kernel
theorem k119_71 : decode (q_mB 119) 71 = .ok (.aload_n 0, 1) := by decide +kernel
theorem k119_72 : decode (q_mB 119) 72 = .ok (.getfield 37, 3) := by decide +kernel
theorem k119_75 : decode (q_mB 119) 75 = .ok (.iload 5, 2) := by decide +kernel
theorem k119_77 : decode (q_mB 119) 77 = .ok (.iaload, 1) := by decide +kernel
theorem k119_78 : decode (q_mB 119) 78 = .ok (.aload_n 0, 1) := by decide +kernel
theorem k119_79 : decode (q_mB 119) 79 = .ok (.getfield 43, 3) := by decide +kernel
theorem k119_82 : decode (q_mB 119) 82 = .ok (.iload_n 1, 1) := by decide +kernel
theorem k119_83 : decode (q_mB 119) 83 = .ok (.iaload, 1) := by decide +kernel
theorem k119_84 : decode (q_mB 119) 84 = .ok (.if_icmp .ne 7, 3) := by decide +kernel
theorem k119_87 : decode (q_mB 119) 87 = .ok (.iconst 1, 1) := by decide +kernel
theorem k119_88 : decode (q_mB 119) 88 = .ok (.goto 4, 3) := by decide +kernel
theorem k119_91 : decode (q_mB 119) 91 = .ok (.iconst 0, 1) := by decide +kernel
theorem k119_92 : decode (q_mB 119) 92 = .ok (.istore 6, 2) := by decide +kernel
theorem k119_94 : decode (q_mB 119) 94 = .ok (.iload 6, 2) := by decide +kernel
theorem k119_96 : decode (q_mB 119) 96 = .ok (.ifCond .eq 53, 3) := by decide +kernel
theorem k119_99 : decode (q_mB 119) 99 = .ok (.aload_n 0, 1) := by decide +kernel
theorem k119_100 : decode (q_mB 119) 100 = .ok (.getfield 28, 3) := by decide +kernel
theorem k119_103 : decode (q_mB 119) 103 = .ok (.iload 5, 2) := by decide +kernel
theorem k119_105 : decode (q_mB 119) 105 = .ok (.iaload, 1) := by decide +kernel
theorem k119_106 : decode (q_mB 119) 106 = .ok (.iload_n 2, 1) := by decide +kernel
theorem k119_107 : decode (q_mB 119) 107 = .ok (.iand, 1) := by decide +kernel
theorem k119_108 : decode (q_mB 119) 108 = .ok (.ifCond .eq 6, 3) := by decide +kernel
theorem k119_111 : decode (q_mB 119) 111 = .ok (.goto 38, 3) := by decide +kernel
theorem k119_114 : decode (q_mB 119) 114 = .ok (.aload_n 0, 1) := by decide +kernel
theorem k119_115 : decode (q_mB 119) 115 = .ok (.getfield 46, 3) := by decide +kernel
theorem k119_118 : decode (q_mB 119) 118 = .ok (.iload_n 1, 1) := by decide +kernel
theorem k119_119 : decode (q_mB 119) 119 = .ok (.iload 4, 2) := by decide +kernel
theorem k119_121 : decode (q_mB 119) 121 = .ok (.iastore, 1) := by decide +kernel
theorem k119_122 : decode (q_mB 119) 122 = .ok (.aload_n 0, 1) := by decide +kernel
theorem k119_123 : decode (q_mB 119) 123 = .ok (.iload_n 1, 1) := by decide +kernel
theorem k119_124 : decode (q_mB 119) 124 = .ok (.iconst 1, 1) := by decide +kernel
theorem k119_125 : decode (q_mB 119) 125 = .ok (.iadd, 1) := by decide +kernel
theorem k119_126 : decode (q_mB 119) 126 = .ok (.iload_n 2, 1) := by decide +kernel
theorem k119_127 : decode (q_mB 119) 127 = .ok (.aload_n 0, 1) := by decide +kernel
theorem k119_128 : decode (q_mB 119) 128 = .ok (.getfield 28, 3) := by decide +kernel
theorem k119_131 : decode (q_mB 119) 131 = .ok (.iload 5, 2) := by decide +kernel
theorem k119_133 : decode (q_mB 119) 133 = .ok (.iaload, 1) := by decide +kernel
theorem k119_134 : decode (q_mB 119) 134 = .ok (.ior, 1) := by decide +kernel
theorem k119_135 : decode (q_mB 119) 135 = .ok (.iload_n 3, 1) := by decide +kernel
theorem k119_136 : decode (q_mB 119) 136 = .ok (.iconst 1, 1) := by decide +kernel
theorem k119_137 : decode (q_mB 119) 137 = .ok (.aload_n 0, 1) := by decide +kernel
theorem k119_138 : decode (q_mB 119) 138 = .ok (.getfield 37, 3) := by decide +kernel
theorem k119_141 : decode (q_mB 119) 141 = .ok (.iload 5, 2) := by decide +kernel
theorem k119_143 : decode (q_mB 119) 143 = .ok (.iaload, 1) := by decide +kernel
theorem k119_144 : decode (q_mB 119) 144 = .ok (.ishl, 1) := by decide +kernel
theorem k119_145 : decode (q_mB 119) 145 = .ok (.ior, 1) := by decide +kernel
theorem k119_146 : decode (q_mB 119) 146 = .ok (.invokevirtual 157, 3) := by decide +kernel
theorem k119_149 : decode (q_mB 119) 149 = .ok (.iinc 4 1, 3) := by decide +kernel
theorem k119_152 : decode (q_mB 119) 152 = .ok (.goto (-133), 3) := by decide +kernel
theorem k119_155 : decode (q_mB 119) 155 = .ok (.return_, 1) := by decide +kernel
theorem k120_0 : decode (q_mB 120) 0 = .ok (.aload_n 0, 1) := by decide +kernel
theorem k120_1 : decode (q_mB 120) 1 = .ok (.invokevirtual 161, 3) := by decide +kernel
theorem k120_4 : decode (q_mB 120) 4 = .ok (.aload_n 0, 1) := by decide +kernel
theorem k120_5 : decode (q_mB 120) 5 = .ok (.iconst 0, 1) := by decide +kernel
theorem k120_6 : decode (q_mB 120) 6 = .ok (.putfield 147, 3) := by decide +kernel
theorem k120_9 : decode (q_mB 120) 9 = .ok (.aload_n 0, 1) := by decide +kernel
theorem k120_10 : decode (q_mB 120) 10 = .ok (.bipush (-9), 2) := by decide +kernel
theorem k120_12 : decode (q_mB 120) 12 = .ok (.putfield 138, 3) := by decide +kernel
theorem k120_15 : decode (q_mB 120) 15 = .ok (.aload_n 0, 1) := by decide +kernel
theorem k120_16 : decode (q_mB 120) 16 = .ok (.iconst 0, 1) := by decide +kernel
theorem k120_17 : decode (q_mB 120) 17 = .ok (.putfield 144, 3) := by decide +kernel
theorem k120_20 : decode (q_mB 120) 20 = .ok (.aload_n 0, 1) := by decide +kernel
theorem k120_21 : decode (q_mB 120) 21 = .ok (.iload_n 1, 1) := by decide +kernel
theorem k120_22 : decode (q_mB 120) 22 = .ok (.putfield 150, 3) := by decide +kernel
theorem k120_25 : decode (q_mB 120) 25 = .ok (.aload_n 0, 1) := by decide +kernel
theorem k120_26 : decode (q_mB 120) 26 = .ok (.iconst 0, 1) := by decide +kernel
theorem k120_27 : decode (q_mB 120) 27 = .ok (.putfield 141, 3) := by decide +kernel
theorem k120_30 : decode (q_mB 120) 30 = .ok (.iconst 0, 1) := by decide +kernel
theorem k120_31 : decode (q_mB 120) 31 = .ok (.istore_n 2, 1) := by decide +kernel
theorem k120_32 : decode (q_mB 120) 32 = .ok (.iload_n 2, 1) := by decide +kernel
theorem k120_33 : decode (q_mB 120) 33 = .ok (.aload_n 0, 1) := by decide +kernel
theorem k120_34 : decode (q_mB 120) 34 = .ok (.getfield 13, 3) := by decide +kernel
theorem k120_37 : decode (q_mB 120) 37 = .ok (.bipush 7, 2) := by decide +kernel
theorem k120_39 : decode (q_mB 120) 39 = .ok (.iaload, 1) := by decide +kernel
theorem k120_40 : decode (q_mB 120) 40 = .ok (.if_icmp .ge 29, 3) := by decide +kernel
theorem k120_43 : decode (q_mB 120) 43 = .ok (.aload_n 0, 1) := by decide +kernel
theorem k120_44 : decode (q_mB 120) 44 = .ok (.dup, 1) := by decide +kernel
theorem k120_45 : decode (q_mB 120) 45 = .ok (.getfield 141, 3) := by decide +kernel
theorem k120_48 : decode (q_mB 120) 48 = .ok (.iconst 1, 1) := by decide +kernel
theorem k120_49 : decode (q_mB 120) 49 = .ok (.aload_n 0, 1) := by decide +kernel
theorem k120_50 : decode (q_mB 120) 50 = .ok (.getfield 13, 3) := by decide +kernel
theorem k120_53 : decode (q_mB 120) 53 = .ok (.bipush 8, 2) := by decide +kernel
theorem k120_55 : decode (q_mB 120) 55 = .ok (.iload_n 2, 1) := by decide +kernel
theorem k120_56 : decode (q_mB 120) 56 = .ok (.iadd, 1) := by decide +kernel
theorem k120_57 : decode (q_mB 120) 57 = .ok (.iaload, 1) := by decide +kernel
theorem k120_58 : decode (q_mB 120) 58 = .ok (.ishl, 1) := by decide +kernel
theorem k120_59 : decode (q_mB 120) 59 = .ok (.ior, 1) := by decide +kernel
theorem k120_60 : decode (q_mB 120) 60 = .ok (.putfield 141, 3) := by decide +kernel
theorem k120_63 : decode (q_mB 120) 63 = .ok (.iinc 2 1, 3) := by decide +kernel
theorem k120_66 : decode (q_mB 120) 66 = .ok (.goto (-34), 3) := by decide +kernel
theorem k120_69 : decode (q_mB 120) 69 = .ok (.iconst 0, 1) := by decide +kernel
theorem k120_70 : decode (q_mB 120) 70 = .ok (.istore_n 2, 1) := by decide +kernel
theorem k120_71 : decode (q_mB 120) 71 = .ok (.iload_n 2, 1) := by decide +kernel
theorem k120_72 : decode (q_mB 120) 72 = .ok (.bipush 30, 2) := by decide +kernel
theorem k120_74 : decode (q_mB 120) 74 = .ok (.if_icmp .ge 23, 3) := by decide +kernel
theorem k120_77 : decode (q_mB 120) 77 = .ok (.aload_n 0, 1) := by decide +kernel
theorem k120_78 : decode (q_mB 120) 78 = .ok (.getfield 52, 3) := by decide +kernel
theorem k120_81 : decode (q_mB 120) 81 = .ok (.iload_n 2, 1) := by decide +kernel
theorem k120_82 : decode (q_mB 120) 82 = .ok (.iconst 0, 1) := by decide +kernel
theorem k120_83 : decode (q_mB 120) 83 = .ok (.iastore, 1) := by decide +kernel
theorem k120_84 : decode (q_mB 120) 84 = .ok (.aload_n 0, 1) := by decide +kernel
theorem k120_85 : decode (q_mB 120) 85 = .ok (.getfield 55, 3) := by decide +kernel
theorem k120_88 : decode (q_mB 120) 88 = .ok (.iload_n 2, 1) := by decide +kernel
theorem k120_89 : decode (q_mB 120) 89 = .ok (.iconst 0, 1) := by decide +kernel
theorem k120_90 : decode (q_mB 120) 90 = .ok (.iastore, 1) := by decide +kernel
theorem k120_91 : decode (q_mB 120) 91 = .ok (.iinc 2 1, 3) := by decide +kernel
theorem k120_94 : decode (q_mB 120) 94 = .ok (.goto (-23), 3) := by decide +kernel
theorem k120_97 : decode (q_mB 120) 97 = .ok (.aload_n 0, 1) := by decide +kernel
theorem k120_98 : decode (q_mB 120) 98 = .ok (.iconst 0, 1) := by decide +kernel
theorem k120_99 : decode (q_mB 120) 99 = .ok (.iconst 0, 1) := by decide +kernel
theorem k120_100 : decode (q_mB 120) 100 = .ok (.iconst 0, 1) := by decide +kernel
theorem k120_101 : decode (q_mB 120) 101 = .ok (.invokevirtual 157, 3) := by decide +kernel
theorem k120_104 : decode (q_mB 120) 104 = .ok (.return_, 1) := by decide +kernel
theorem k121_0 : decode (q_mB 121) 0 = .ok (.aload_n 0, 1) := by decide +kernel
theorem k121_1 : decode (q_mB 121) 1 = .ok (.getfield 13, 3) := by decide +kernel
theorem k121_4 : decode (q_mB 121) 4 = .ok (.iconst 2, 1) := by decide +kernel
theorem k121_5 : decode (q_mB 121) 5 = .ok (.iaload, 1) := by decide +kernel
theorem k121_6 : decode (q_mB 121) 6 = .ok (.istore_n 3, 1) := by decide +kernel
theorem k121_7 : decode (q_mB 121) 7 = .ok (.iload_n 1, 1) := by decide +kernel
theorem k121_8 : decode (q_mB 121) 8 = .ok (.iconst 1, 1) := by decide +kernel
theorem k121_9 : decode (q_mB 121) 9 = .ok (.if_icmp .ne 11, 3) := by decide +kernel
theorem k121_12 : decode (q_mB 121) 12 = .ok (.iload_n 3, 1) := by decide +kernel
theorem k121_13 : decode (q_mB 121) 13 = .ok (.iconst 1, 1) := by decide +kernel
theorem k121_14 : decode (q_mB 121) 14 = .ok (.isub, 1) := by decide +kernel
theorem k121_15 : decode (q_mB 121) 15 = .ok (.iload_n 2, 1) := by decide +kernel
theorem k121_16 : decode (q_mB 121) 16 = .ok (.isub, 1) := by decide +kernel
theorem k121_17 : decode (q_mB 121) 17 = .ok (.goto 42, 3) := by decide +kernel
theorem k121_20 : decode (q_mB 121) 20 = .ok (.iload_n 1, 1) := by decide +kernel
theorem k121_21 : decode (q_mB 121) 21 = .ok (.iconst 2, 1) := by decide +kernel
theorem k121_22 : decode (q_mB 121) 22 = .ok (.if_icmp .ne 11, 3) := by decide +kernel
theorem k121_25 : decode (q_mB 121) 25 = .ok (.iload_n 2, 1) := by decide +kernel
theorem k121_26 : decode (q_mB 121) 26 = .ok (.iconst 1, 1) := by decide +kernel
theorem k121_27 : decode (q_mB 121) 27 = .ok (.iadd, 1) := by decide +kernel
theorem k121_28 : decode (q_mB 121) 28 = .ok (.iload_n 3, 1) := by decide +kernel
theorem k121_29 : decode (q_mB 121) 29 = .ok (.irem, 1) := by decide +kernel
theorem k121_30 : decode (q_mB 121) 30 = .ok (.goto 29, 3) := by decide +kernel
theorem k121_33 : decode (q_mB 121) 33 = .ok (.iload_n 1, 1) := by decide +kernel
theorem k121_34 : decode (q_mB 121) 34 = .ok (.iconst 3, 1) := by decide +kernel
theorem k121_35 : decode (q_mB 121) 35 = .ok (.if_icmp .ne 8, 3) := by decide +kernel
theorem k121_38 : decode (q_mB 121) 38 = .ok (.bipush (-9), 2) := by decide +kernel
theorem k121_40 : decode (q_mB 121) 40 = .ok (.goto 19, 3) := by decide +kernel
theorem k121_43 : decode (q_mB 121) 43 = .ok (.iload_n 1, 1) := by decide +kernel
theorem k121_44 : decode (q_mB 121) 44 = .ok (.ifCond .ne 7, 3) := by decide +kernel
theorem k121_47 : decode (q_mB 121) 47 = .ok (.iload_n 2, 1) := by decide +kernel
theorem k121_48 : decode (q_mB 121) 48 = .ok (.goto 11, 3) := by decide +kernel
theorem k121_51 : decode (q_mB 121) 51 = .ok (.aload_n 0, 1) := by decide +kernel
theorem k121_52 : decode (q_mB 121) 52 = .ok (.getfield 13, 3) := by decide +kernel
theorem k121_55 : decode (q_mB 121) 55 = .ok (.iconst 4, 1) := by decide +kernel
theorem k121_56 : decode (q_mB 121) 56 = .ok (.iload_n 2, 1) := by decide +kernel
theorem k121_57 : decode (q_mB 121) 57 = .ok (.iadd, 1) := by decide +kernel
theorem k121_58 : decode (q_mB 121) 58 = .ok (.iaload, 1) := by decide +kernel
theorem k121_59 : decode (q_mB 121) 59 = .ok (.ireturn, 1) := by decide +kernel
theorem k122_0 : decode (q_mB 122) 0 = .ok (.iconst 0, 1) := by decide +kernel
theorem k122_1 : decode (q_mB 122) 1 = .ok (.istore_n 2, 1) := by decide +kernel
theorem k122_2 : decode (q_mB 122) 2 = .ok (.iload_n 2, 1) := by decide +kernel
theorem k122_3 : decode (q_mB 122) 3 = .ok (.aload_n 0, 1) := by decide +kernel
theorem k122_4 : decode (q_mB 122) 4 = .ok (.getfield 13, 3) := by decide +kernel
theorem k122_7 : decode (q_mB 122) 7 = .ok (.iconst 2, 1) := by decide +kernel
theorem k122_8 : decode (q_mB 122) 8 = .ok (.iaload, 1) := by decide +kernel
theorem k122_9 : decode (q_mB 122) 9 = .ok (.if_icmp .ge 26, 3) := by decide +kernel
theorem k122_12 : decode (q_mB 122) 12 = .ok (.aload_n 0, 1) := by decide +kernel
theorem k122_13 : decode (q_mB 122) 13 = .ok (.getfield 43, 3) := by decide +kernel
theorem k122_16 : decode (q_mB 122) 16 = .ok (.iload_n 2, 1) := by decide +kernel
theorem k122_17 : decode (q_mB 122) 17 = .ok (.aload_n 0, 1) := by decide +kernel
theorem k122_18 : decode (q_mB 122) 18 = .ok (.aload_n 0, 1) := by decide +kernel
theorem k122_19 : decode (q_mB 122) 19 = .ok (.getfield 13, 3) := by decide +kernel
theorem k122_22 : decode (q_mB 122) 22 = .ok (.iconst 3, 1) := by decide +kernel
theorem k122_23 : decode (q_mB 122) 23 = .ok (.iaload, 1) := by decide +kernel
theorem k122_24 : decode (q_mB 122) 24 = .ok (.iload_n 2, 1) := by decide +kernel
theorem k122_25 : decode (q_mB 122) 25 = .ok (.invokevirtual 164, 3) := by decide +kernel
theorem k122_28 : decode (q_mB 122) 28 = .ok (.iastore, 1) := by decide +kernel
theorem k122_29 : decode (q_mB 122) 29 = .ok (.iinc 2 1, 3) := by decide +kernel
theorem k122_32 : decode (q_mB 122) 32 = .ok (.goto (-30), 3) := by decide +kernel
theorem k122_35 : decode (q_mB 122) 35 = .ok (.aload_n 0, 1) := by decide +kernel
theorem k122_36 : decode (q_mB 122) 36 = .ok (.iload_n 1, 1) := by decide +kernel
theorem k122_37 : decode (q_mB 122) 37 = .ok (.invokevirtual 167, 3) := by decide +kernel
theorem k122_40 : decode (q_mB 122) 40 = .ok (.return_, 1) := by decide +kernel
theorem k123_0 : decode (q_mB 123) 0 = .ok (.iconst 0, 1) := by decide +kernel
theorem k123_1 : decode (q_mB 123) 1 = .ok (.istore_n 1, 1) := by decide +kernel
theorem k123_2 : decode (q_mB 123) 2 = .ok (.iload_n 1, 1) := by decide +kernel
theorem k123_3 : decode (q_mB 123) 3 = .ok (.aload_n 0, 1) := by decide +kernel
theorem k123_4 : decode (q_mB 123) 4 = .ok (.getfield 13, 3) := by decide +kernel
theorem k123_7 : decode (q_mB 123) 7 = .ok (.iconst 2, 1) := by decide +kernel
theorem k123_8 : decode (q_mB 123) 8 = .ok (.iaload, 1) := by decide +kernel
theorem k123_9 : decode (q_mB 123) 9 = .ok (.if_icmp .ge 21, 3) := by decide +kernel
theorem k123_12 : decode (q_mB 123) 12 = .ok (.aload_n 0, 1) := by decide +kernel
theorem k123_13 : decode (q_mB 123) 13 = .ok (.getfield 43, 3) := by decide +kernel
theorem k123_16 : decode (q_mB 123) 16 = .ok (.iload_n 1, 1) := by decide +kernel
theorem k123_17 : decode (q_mB 123) 17 = .ok (.aload_n 0, 1) := by decide +kernel
theorem k123_18 : decode (q_mB 123) 18 = .ok (.getfield 25, 3) := by decide +kernel
theorem k123_21 : decode (q_mB 123) 21 = .ok (.iload_n 1, 1) := by decide +kernel
theorem k123_22 : decode (q_mB 123) 22 = .ok (.iaload, 1) := by decide +kernel
theorem k123_23 : decode (q_mB 123) 23 = .ok (.iastore, 1) := by decide +kernel
theorem k123_24 : decode (q_mB 123) 24 = .ok (.iinc 1 1, 3) := by decide +kernel
theorem k123_27 : decode (q_mB 123) 27 = .ok (.goto (-25), 3) := by decide +kernel
theorem k123_30 : decode (q_mB 123) 30 = .ok (.aload_n 0, 1) := by decide +kernel
theorem k123_31 : decode (q_mB 123) 31 = .ok (.bipush (-9), 2) := by decide +kernel
theorem k123_33 : decode (q_mB 123) 33 = .ok (.invokevirtual 167, 3) := by decide +kernel
theorem k123_36 : decode (q_mB 123) 36 = .ok (.aload_n 0, 1) := by decide +kernel
theorem k123_37 : decode (q_mB 123) 37 = .ok (.getfield 147, 3) := by decide +kernel
theorem k123_40 : decode (q_mB 123) 40 = .ok (.ireturn, 1) := by decide +kernel
theorem k124_0 : decode (q_mB 124) 0 = .ok (.aload_n 0, 1) := by decide +kernel
theorem k124_1 : decode (q_mB 124) 1 = .ok (.getfield 13, 3) := by decide +kernel
theorem k124_4 : decode (q_mB 124) 4 = .ok (.iconst 0, 1) := by decide +kernel
theorem k124_5 : decode (q_mB 124) 5 = .ok (.iaload, 1) := by decide +kernel
theorem k124_6 : decode (q_mB 124) 6 = .ok (.ifCond .le 7, 3) := by decide +kernel
theorem k124_9 : decode (q_mB 124) 9 = .ok (.iconst 1, 1) := by decide +kernel
theorem k124_10 : decode (q_mB 124) 10 = .ok (.goto 4, 3) := by decide +kernel
theorem k124_13 : decode (q_mB 124) 13 = .ok (.iconst 0, 1) := by decide +kernel
theorem k124_14 : decode (q_mB 124) 14 = .ok (.ireturn, 1) := by decide +kernel
theorem k125_0 : decode (q_mB 125) 0 = .ok (.aload_n 0, 1) := by decide +kernel
theorem k125_1 : decode (q_mB 125) 1 = .ok (.bipush (-9), 2) := by decide +kernel
theorem k125_3 : decode (q_mB 125) 3 = .ok (.invokevirtual 170, 3) := by decide +kernel
theorem k125_6 : decode (q_mB 125) 6 = .ok (.aload_n 0, 1) := by decide +kernel
theorem k125_7 : decode (q_mB 125) 7 = .ok (.getfield 147, 3) := by decide +kernel
theorem k125_10 : decode (q_mB 125) 10 = .ok (.ireturn, 1) := by decide +kernel
theorem k126_0 : decode (q_mB 126) 0 = .ok (.aload_n 0, 1) := by decide +kernel
theorem k126_1 : decode (q_mB 126) 1 = .ok (.invokevirtual 173, 3) := by decide +kernel
theorem k126_4 : decode (q_mB 126) 4 = .ok (.ifCond .eq 10, 3) := by decide +kernel
theorem k126_7 : decode (q_mB 126) 7 = .ok (.aload_n 0, 1) := by decide +kernel
theorem k126_8 : decode (q_mB 126) 8 = .ok (.invokevirtual 177, 3) := by decide +kernel
theorem k126_11 : decode (q_mB 126) 11 = .ok (.goto 9, 3) := by decide +kernel
theorem k126_14 : decode (q_mB 126) 14 = .ok (.aload_n 0, 1) := by decide +kernel
theorem k126_15 : decode (q_mB 126) 15 = .ok (.bipush (-3), 2) := by decide +kernel
theorem k126_17 : decode (q_mB 126) 17 = .ok (.invokevirtual 80, 3) := by decide +kernel
theorem k126_20 : decode (q_mB 126) 20 = .ok (.ireturn, 1) := by decide +kernel
theorem k127_0 : decode (q_mB 127) 0 = .ok (.iload_n 1, 1) := by decide +kernel
theorem k127_1 : decode (q_mB 127) 1 = .ok (.aload_n 0, 1) := by decide +kernel
theorem k127_2 : decode (q_mB 127) 2 = .ok (.getfield 13, 3) := by decide +kernel
theorem k127_5 : decode (q_mB 127) 5 = .ok (.iconst 2, 1) := by decide +kernel
theorem k127_6 : decode (q_mB 127) 6 = .ok (.iaload, 1) := by decide +kernel
theorem k127_7 : decode (q_mB 127) 7 = .ok (.if_icmp .ne 5, 3) := by decide +kernel
theorem k127_10 : decode (q_mB 127) 10 = .ok (.iconst 1, 1) := by decide +kernel
theorem k127_11 : decode (q_mB 127) 11 = .ok (.ireturn, 1) := by decide +kernel
theorem k127_12 : decode (q_mB 127) 12 = .ok (.iconst 0, 1) := by decide +kernel
theorem k127_13 : decode (q_mB 127) 13 = .ok (.istore_n 3, 1) := by decide +kernel
theorem k127_14 : decode (q_mB 127) 14 = .ok (.iconst 0, 1) := by decide +kernel
theorem k127_15 : decode (q_mB 127) 15 = .ok (.istore 4, 2) := by decide +kernel
theorem k127_17 : decode (q_mB 127) 17 = .ok (.iload 4, 2) := by decide +kernel
theorem k127_19 : decode (q_mB 127) 19 = .ok (.aload_n 0, 1) := by decide +kernel
theorem k127_20 : decode (q_mB 127) 20 = .ok (.getfield 13, 3) := by decide +kernel
theorem k127_23 : decode (q_mB 127) 23 = .ok (.iconst 2, 1) := by decide +kernel
theorem k127_24 : decode (q_mB 127) 24 = .ok (.iaload, 1) := by decide +kernel
theorem k127_25 : decode (q_mB 127) 25 = .ok (.if_icmp .ge 84, 3) := by decide +kernel
theorem k127_28 : decode (q_mB 127) 28 = .ok (.iload_n 2, 1) := by decide +kernel
theorem k127_29 : decode (q_mB 127) 29 = .ok (.iload 4, 2) := by decide +kernel
theorem k127_31 : decode (q_mB 127) 31 = .ok (.ishr, 1) := by decide +kernel
theorem k127_32 : decode (q_mB 127) 32 = .ok (.iconst 1, 1) := by decide +kernel
theorem k127_33 : decode (q_mB 127) 33 = .ok (.iand, 1) := by decide +kernel
theorem k127_34 : decode (q_mB 127) 34 = .ok (.iconst 1, 1) := by decide +kernel
theorem k127_35 : decode (q_mB 127) 35 = .ok (.if_icmp .ne 6, 3) := by decide +kernel
theorem k127_38 : decode (q_mB 127) 38 = .ok (.goto 65, 3) := by decide +kernel
theorem k127_41 : decode (q_mB 127) 41 = .ok (.iload_n 2, 1) := by decide +kernel
theorem k127_42 : decode (q_mB 127) 42 = .ok (.iload 4, 2) := by decide +kernel
theorem k127_44 : decode (q_mB 127) 44 = .ok (.iconst 1, 1) := by decide +kernel
theorem k127_45 : decode (q_mB 127) 45 = .ok (.iadd, 1) := by decide +kernel
theorem k127_46 : decode (q_mB 127) 46 = .ok (.ishr, 1) := by decide +kernel
theorem k127_47 : decode (q_mB 127) 47 = .ok (.istore 5, 2) := by decide +kernel
theorem k127_49 : decode (q_mB 127) 49 = .ok (.iload 5, 2) := by decide +kernel
theorem k127_51 : decode (q_mB 127) 51 = .ok (.iconst 1, 1) := by decide +kernel
theorem k127_52 : decode (q_mB 127) 52 = .ok (.iand, 1) := by decide +kernel
theorem k127_53 : decode (q_mB 127) 53 = .ok (.iload 5, 2) := by decide +kernel
theorem k127_55 : decode (q_mB 127) 55 = .ok (.iconst 1, 1) := by decide +kernel
theorem k127_56 : decode (q_mB 127) 56 = .ok (.ishr, 1) := by decide +kernel
theorem k127_57 : decode (q_mB 127) 57 = .ok (.iconst 1, 1) := by decide +kernel
theorem k127_58 : decode (q_mB 127) 58 = .ok (.iand, 1) := by decide +kernel
theorem k127_59 : decode (q_mB 127) 59 = .ok (.iadd, 1) := by decide +kernel
theorem k127_60 : decode (q_mB 127) 60 = .ok (.istore 6, 2) := by decide +kernel
theorem k127_62 : decode (q_mB 127) 62 = .ok (.aload_n 0, 1) := by decide +kernel
theorem k127_63 : decode (q_mB 127) 63 = .ok (.iload_n 1, 1) := by decide +kernel
theorem k127_64 : decode (q_mB 127) 64 = .ok (.iload 4, 2) := by decide +kernel
theorem k127_66 : decode (q_mB 127) 66 = .ok (.invokevirtual 129, 3) := by decide +kernel
theorem k127_69 : decode (q_mB 127) 69 = .ok (.aload_n 0, 1) := by decide +kernel
theorem k127_70 : decode (q_mB 127) 70 = .ok (.iload_n 1, 1) := by decide +kernel
theorem k127_71 : decode (q_mB 127) 71 = .ok (.iconst 1, 1) := by decide +kernel
theorem k127_72 : decode (q_mB 127) 72 = .ok (.iadd, 1) := by decide +kernel
theorem k127_73 : decode (q_mB 127) 73 = .ok (.iload_n 2, 1) := by decide +kernel
theorem k127_74 : decode (q_mB 127) 74 = .ok (.iconst 1, 1) := by decide +kernel
theorem k127_75 : decode (q_mB 127) 75 = .ok (.iload 4, 2) := by decide +kernel
theorem k127_77 : decode (q_mB 127) 77 = .ok (.ishl, 1) := by decide +kernel
theorem k127_78 : decode (q_mB 127) 78 = .ok (.ior, 1) := by decide +kernel
theorem k127_79 : decode (q_mB 127) 79 = .ok (.invokevirtual 180, 3) := by decide +kernel
theorem k127_82 : decode (q_mB 127) 82 = .ok (.imul, 1) := by decide +kernel
theorem k127_83 : decode (q_mB 127) 83 = .ok (.istore 7, 2) := by decide +kernel
theorem k127_85 : decode (q_mB 127) 85 = .ok (.iload_n 3, 1) := by decide +kernel
theorem k127_86 : decode (q_mB 127) 86 = .ok (.iload 6, 2) := by decide +kernel
theorem k127_88 : decode (q_mB 127) 88 = .ok (.iconst 2, 1) := by decide +kernel
theorem k127_89 : decode (q_mB 127) 89 = .ok (.irem, 1) := by decide +kernel
theorem k127_90 : decode (q_mB 127) 90 = .ok (.ifCond .ne 8, 3) := by decide +kernel
theorem k127_93 : decode (q_mB 127) 93 = .ok (.iload 7, 2) := by decide +kernel
theorem k127_95 : decode (q_mB 127) 95 = .ok (.goto 6, 3) := by decide +kernel
theorem k127_98 : decode (q_mB 127) 98 = .ok (.iload 7, 2) := by decide +kernel
theorem k127_100 : decode (q_mB 127) 100 = .ok (.ineg, 1) := by decide +kernel
theorem k127_101 : decode (q_mB 127) 101 = .ok (.iadd, 1) := by decide +kernel
theorem k127_102 : decode (q_mB 127) 102 = .ok (.istore_n 3, 1) := by decide +kernel
theorem k127_103 : decode (q_mB 127) 103 = .ok (.iinc 4 1, 3) := by decide +kernel
theorem k127_106 : decode (q_mB 127) 106 = .ok (.goto (-89), 3) := by decide +kernel
theorem k127_109 : decode (q_mB 127) 109 = .ok (.iload_n 3, 1) := by decide +kernel
theorem k127_110 : decode (q_mB 127) 110 = .ok (.ireturn, 1) := by decide +kernel
theorem k128_0 : decode (q_mB 128) 0 = .ok (.aload_n 0, 1) := by decide +kernel
theorem k128_1 : decode (q_mB 128) 1 = .ok (.invokevirtual 173, 3) := by decide +kernel
theorem k128_4 : decode (q_mB 128) 4 = .ok (.ifCond .eq 12, 3) := by decide +kernel
theorem k128_7 : decode (q_mB 128) 7 = .ok (.aload_n 0, 1) := by decide +kernel
theorem k128_8 : decode (q_mB 128) 8 = .ok (.iconst 0, 1) := by decide +kernel
theorem k128_9 : decode (q_mB 128) 9 = .ok (.iconst 0, 1) := by decide +kernel
theorem k128_10 : decode (q_mB 128) 10 = .ok (.invokevirtual 180, 3) := by decide +kernel
theorem k128_13 : decode (q_mB 128) 13 = .ok (.goto 12, 3) := by decide +kernel
theorem k128_16 : decode (q_mB 128) 16 = .ok (.ldc 183, 2) := by decide +kernel
theorem k128_18 : decode (q_mB 128) 18 = .ok (.aload_n 0, 1) := by decide +kernel
theorem k128_19 : decode (q_mB 128) 19 = .ok (.bipush (-3), 2) := by decide +kernel
theorem k128_21 : decode (q_mB 128) 21 = .ok (.invokevirtual 80, 3) := by decide +kernel
theorem k128_24 : decode (q_mB 128) 24 = .ok (.isub, 1) := by decide +kernel
theorem k128_25 : decode (q_mB 128) 25 = .ok (.ireturn, 1) := by decide +kernel
theorem k129_0 : decode (q_mB 129) 0 = .ok (.aload_n 0, 1) := by decide +kernel
theorem k129_1 : decode (q_mB 129) 1 = .ok (.invokevirtual 173, 3) := by decide +kernel
theorem k129_4 : decode (q_mB 129) 4 = .ok (.ifCond .ne 10, 3) := by decide +kernel
theorem k129_7 : decode (q_mB 129) 7 = .ok (.aload_n 0, 1) := by decide +kernel
theorem k129_8 : decode (q_mB 129) 8 = .ok (.bipush (-3), 2) := by decide +kernel
theorem k129_10 : decode (q_mB 129) 10 = .ok (.invokevirtual 80, 3) := by decide +kernel
theorem k129_13 : decode (q_mB 129) 13 = .ok (.ireturn, 1) := by decide +kernel
theorem k129_14 : decode (q_mB 129) 14 = .ok (.iconst 1, 1) := by decide +kernel
theorem k129_15 : decode (q_mB 129) 15 = .ok (.istore_n 1, 1) := by decide +kernel
theorem k129_16 : decode (q_mB 129) 16 = .ok (.iload_n 1, 1) := by decide +kernel
theorem k129_17 : decode (q_mB 129) 17 = .ok (.sipush 210, 3) := by decide +kernel
theorem k129_20 : decode (q_mB 129) 20 = .ok (.if_icmp .gt 73, 3) := by decide +kernel
theorem k129_23 : decode (q_mB 129) 23 = .ok (.aload_n 0, 1) := by decide +kernel
theorem k129_24 : decode (q_mB 129) 24 = .ok (.iload_n 1, 1) := by decide +kernel
theorem k129_25 : decode (q_mB 129) 25 = .ok (.invokevirtual 100, 3) := by decide +kernel
theorem k129_28 : decode (q_mB 129) 28 = .ok (.ifCond .ne 6, 3) := by decide +kernel
theorem k129_31 : decode (q_mB 129) 31 = .ok (.goto 56, 3) := by decide +kernel
theorem k129_34 : decode (q_mB 129) 34 = .ok (.iconst 1, 1) := by decide +kernel
theorem k129_35 : decode (q_mB 129) 35 = .ok (.istore_n 2, 1) := by decide +kernel
theorem k129_36 : decode (q_mB 129) 36 = .ok (.iconst 0, 1) := by decide +kernel
theorem k129_37 : decode (q_mB 129) 37 = .ok (.istore_n 3, 1) := by decide +kernel
theorem k129_38 : decode (q_mB 129) 38 = .ok (.iload_n 3, 1) := by decide +kernel
theorem k129_39 : decode (q_mB 129) 39 = .ok (.aload_n 0, 1) := by decide +kernel
theorem k129_40 : decode (q_mB 129) 40 = .ok (.getfield 13, 3) := by decide +kernel
theorem k129_43 : decode (q_mB 129) 43 = .ok (.iconst 2, 1) := by decide +kernel
theorem k129_44 : decode (q_mB 129) 44 = .ok (.iaload, 1) := by decide +kernel
theorem k129_45 : decode (q_mB 129) 45 = .ok (.if_icmp .ge 29, 3) := by decide +kernel
theorem k129_48 : decode (q_mB 129) 48 = .ok (.iload_n 2, 1) := by decide +kernel
theorem k129_49 : decode (q_mB 129) 49 = .ok (.ifCond .eq 17, 3) := by decide +kernel
theorem k129_52 : decode (q_mB 129) 52 = .ok (.aload_n 0, 1) := by decide +kernel
theorem k129_53 : decode (q_mB 129) 53 = .ok (.getfield 25, 3) := by decide +kernel
theorem k129_56 : decode (q_mB 129) 56 = .ok (.iload_n 3, 1) := by decide +kernel
theorem k129_57 : decode (q_mB 129) 57 = .ok (.iaload, 1) := by decide +kernel
theorem k129_58 : decode (q_mB 129) 58 = .ok (.iload_n 3, 1) := by decide +kernel
theorem k129_59 : decode (q_mB 129) 59 = .ok (.if_icmp .ne 7, 3) := by decide +kernel
theorem k129_62 : decode (q_mB 129) 62 = .ok (.iconst 1, 1) := by decide +kernel
theorem k129_63 : decode (q_mB 129) 63 = .ok (.goto 4, 3) := by decide +kernel
theorem k129_66 : decode (q_mB 129) 66 = .ok (.iconst 0, 1) := by decide +kernel
theorem k129_67 : decode (q_mB 129) 67 = .ok (.istore_n 2, 1) := by decide +kernel
theorem k129_68 : decode (q_mB 129) 68 = .ok (.iinc 3 1, 3) := by decide +kernel
theorem k129_71 : decode (q_mB 129) 71 = .ok (.goto (-33), 3) := by decide +kernel
theorem k129_74 : decode (q_mB 129) 74 = .ok (.iload_n 2, 1) := by decide +kernel
theorem k129_75 : decode (q_mB 129) 75 = .ok (.ifCond .ne 12, 3) := by decide +kernel
theorem k129_78 : decode (q_mB 129) 78 = .ok (.aload_n 0, 1) := by decide +kernel
theorem k129_79 : decode (q_mB 129) 79 = .ok (.invokevirtual 184, 3) := by decide +kernel
theorem k129_82 : decode (q_mB 129) 82 = .ok (.ifCond .le 5, 3) := by decide +kernel
theorem k129_85 : decode (q_mB 129) 85 = .ok (.iconst 0, 1) := by decide +kernel
theorem k129_86 : decode (q_mB 129) 86 = .ok (.ireturn, 1) := by decide +kernel
theorem k129_87 : decode (q_mB 129) 87 = .ok (.iinc 1 1, 3) := by decide +kernel
theorem k129_90 : decode (q_mB 129) 90 = .ok (.goto (-74), 3) := by decide +kernel
theorem k129_93 : decode (q_mB 129) 93 = .ok (.iconst 1, 1) := by decide +kernel
theorem k129_94 : decode (q_mB 129) 94 = .ok (.ireturn, 1) := by decide +kernel
theorem k130_0 : decode (q_mB 130) 0 = .ok (.aload_n 0, 1) := by decide +kernel
theorem k130_1 : decode (q_mB 130) 1 = .ok (.invokevirtual 173, 3) := by decide +kernel
theorem k130_4 : decode (q_mB 130) 4 = .ok (.ifCond .ne 8, 3) := by decide +kernel
theorem k130_7 : decode (q_mB 130) 7 = .ok (.bipush (-3), 2) := by decide +kernel
theorem k130_9 : decode (q_mB 130) 9 = .ok (.goto 16, 3) := by decide +kernel
theorem k130_12 : decode (q_mB 130) 12 = .ok (.aload_n 0, 1) := by decide +kernel
theorem k130_13 : decode (q_mB 130) 13 = .ok (.iload_n 1, 1) := by decide +kernel
theorem k130_14 : decode (q_mB 130) 14 = .ok (.invokevirtual 100, 3) := by decide +kernel
theorem k130_17 : decode (q_mB 130) 17 = .ok (.ifCond .eq 7, 3) := by decide +kernel
theorem k130_20 : decode (q_mB 130) 20 = .ok (.iconst 0, 1) := by decide +kernel
theorem k130_21 : decode (q_mB 130) 21 = .ok (.goto 4, 3) := by decide +kernel
theorem k130_24 : decode (q_mB 130) 24 = .ok (.iconst (-1), 1) := by decide +kernel
theorem k130_25 : decode (q_mB 130) 25 = .ok (.istore_n 2, 1) := by decide +kernel
theorem k130_26 : decode (q_mB 130) 26 = .ok (.iload_n 2, 1) := by decide +kernel
theorem k130_27 : decode (q_mB 130) 27 = .ok (.ifCond .eq 11, 3) := by decide +kernel
theorem k130_30 : decode (q_mB 130) 30 = .ok (.aload_n 0, 1) := by decide +kernel
theorem k130_31 : decode (q_mB 130) 31 = .ok (.iload_n 2, 1) := by decide +kernel
theorem k130_32 : decode (q_mB 130) 32 = .ok (.invokevirtual 80, 3) := by decide +kernel
theorem k130_35 : decode (q_mB 130) 35 = .ok (.goto 7, 3) := by decide +kernel
theorem k130_38 : decode (q_mB 130) 38 = .ok (.aload_n 0, 1) := by decide +kernel
theorem k130_39 : decode (q_mB 130) 39 = .ok (.invokevirtual 184, 3) := by decide +kernel
theorem k130_42 : decode (q_mB 130) 42 = .ok (.ireturn, 1) := by decide +kernel
theorem k131_0 : decode (q_mB 131) 0 = .ok (.aload_n 0, 1) := by decide +kernel
theorem k131_1 : decode (q_mB 131) 1 = .ok (.invokevirtual 173, 3) := by decide +kernel
theorem k131_4 : decode (q_mB 131) 4 = .ok (.ifCond .ne 10, 3) := by decide +kernel
theorem k131_7 : decode (q_mB 131) 7 = .ok (.aload_n 0, 1) := by decide +kernel
theorem k131_8 : decode (q_mB 131) 8 = .ok (.bipush (-3), 2) := by decide +kernel
theorem k131_10 : decode (q_mB 131) 10 = .ok (.invokevirtual 80, 3) := by decide +kernel
theorem k131_13 : decode (q_mB 131) 13 = .ok (.ireturn, 1) := by decide +kernel
theorem k131_14 : decode (q_mB 131) 14 = .ok (.aload_n 0, 1) := by decide +kernel
theorem k131_15 : decode (q_mB 131) 15 = .ok (.bipush (-9), 2) := by decide +kernel
theorem k131_17 : decode (q_mB 131) 17 = .ok (.invokevirtual 170, 3) := by decide +kernel
theorem k131_20 : decode (q_mB 131) 20 = .ok (.aload_n 0, 1) := by decide +kernel
theorem k131_21 : decode (q_mB 131) 21 = .ok (.getfield 138, 3) := by decide +kernel
theorem k131_24 : decode (q_mB 131) 24 = .ok (.ireturn, 1) := by decide +kernel
theorem k132_0 : decode (q_mB 132) 0 = .ok (.iload_n 1, 1) := by decide +kernel
theorem k132_1 : decode (q_mB 132) 1 = .ok (.ifCond .ne 7, 3) := by decide +kernel
theorem k132_4 : decode (q_mB 132) 4 = .ok (.iload_n 0, 1) := by decide +kernel
theorem k132_5 : decode (q_mB 132) 5 = .ok (.goto 10, 3) := by decide +kernel
theorem k132_8 : decode (q_mB 132) 8 = .ok (.iload_n 1, 1) := by decide +kernel
theorem k132_9 : decode (q_mB 132) 9 = .ok (.iload_n 0, 1) := by decide +kernel
theorem k132_10 : decode (q_mB 132) 10 = .ok (.iload_n 1, 1) := by decide +kernel
theorem k132_11 : decode (q_mB 132) 11 = .ok (.irem, 1) := by decide +kernel
theorem k132_12 : decode (q_mB 132) 12 = .ok (.invokestatic 187, 3) := by decide +kernel
theorem k132_15 : decode (q_mB 132) 15 = .ok (.ireturn, 1) := by decide +kernel
theorem k133_0 : decode (q_mB 133) 0 = .ok (.aload_n 0, 1) := by decide +kernel
theorem k133_1 : decode (q_mB 133) 1 = .ok (.iload_n 1, 1) := by decide +kernel
theorem k133_2 : decode (q_mB 133) 2 = .ok (.invokevirtual 96, 3) := by decide +kernel
theorem k133_5 : decode (q_mB 133) 5 = .ok (.ifCond .ne 9, 3) := by decide +kernel
theorem k133_8 : decode (q_mB 133) 8 = .ok (.aload_n 0, 1) := by decide +kernel
theorem k133_9 : decode (q_mB 133) 9 = .ok (.iconst (-1), 1) := by decide +kernel
theorem k133_10 : decode (q_mB 133) 10 = .ok (.invokevirtual 80, 3) := by decide +kernel
theorem k133_13 : decode (q_mB 133) 13 = .ok (.ireturn, 1) := by decide +kernel
theorem k133_14 : decode (q_mB 133) 14 = .ok (.iload_n 2, 1) := by decide +kernel
theorem k133_15 : decode (q_mB 133) 15 = .ok (.iconst 2, 1) := by decide +kernel
theorem k133_16 : decode (q_mB 133) 16 = .ok (.invokestatic 68, 3) := by decide +kernel
theorem k133_19 : decode (q_mB 133) 19 = .ok (.ifCond .ne 10, 3) := by decide +kernel
theorem k133_22 : decode (q_mB 133) 22 = .ok (.aload_n 0, 1) := by decide +kernel
theorem k133_23 : decode (q_mB 133) 23 = .ok (.bipush (-2), 2) := by decide +kernel
theorem k133_25 : decode (q_mB 133) 25 = .ok (.invokevirtual 80, 3) := by decide +kernel
theorem k133_28 : decode (q_mB 133) 28 = .ok (.ireturn, 1) := by decide +kernel
theorem k133_29 : decode (q_mB 133) 29 = .ok (.aload_n 0, 1) := by decide +kernel
theorem k133_30 : decode (q_mB 133) 30 = .ok (.bipush (-9), 2) := by decide +kernel
theorem k133_32 : decode (q_mB 133) 32 = .ok (.invokevirtual 170, 3) := by decide +kernel
theorem k133_35 : decode (q_mB 133) 35 = .ok (.aload_n 0, 1) := by decide +kernel
theorem k133_36 : decode (q_mB 133) 36 = .ok (.getfield 147, 3) := by decide +kernel
theorem k133_39 : decode (q_mB 133) 39 = .ok (.ifCond .ne 5, 3) := by decide +kernel
theorem k133_42 : decode (q_mB 133) 42 = .ok (.iload_n 2, 1) := by decide +kernel
theorem k133_43 : decode (q_mB 133) 43 = .ok (.ireturn, 1) := by decide +kernel
theorem k133_44 : decode (q_mB 133) 44 = .ok (.aload_n 0, 1) := by decide +kernel
theorem k133_45 : decode (q_mB 133) 45 = .ok (.getfield 147, 3) := by decide +kernel
theorem k133_48 : decode (q_mB 133) 48 = .ok (.aload_n 0, 1) := by decide +kernel
theorem k133_49 : decode (q_mB 133) 49 = .ok (.getfield 52, 3) := by decide +kernel
theorem k133_52 : decode (q_mB 133) 52 = .ok (.iload_n 1, 1) := by decide +kernel
theorem k133_53 : decode (q_mB 133) 53 = .ok (.iaload, 1) := by decide +kernel
theorem k133_54 : decode (q_mB 133) 54 = .ok (.invokestatic 187, 3) := by decide +kernel
theorem k133_57 : decode (q_mB 133) 57 = .ok (.istore_n 3, 1) := by decide +kernel
theorem k133_58 : decode (q_mB 133) 58 = .ok (.iload_n 2, 1) := by decide +kernel
theorem k133_59 : decode (q_mB 133) 59 = .ok (.ifCond .ne 14, 3) := by decide +kernel
theorem k133_62 : decode (q_mB 133) 62 = .ok (.aload_n 0, 1) := by decide +kernel
theorem k133_63 : decode (q_mB 133) 63 = .ok (.getfield 52, 3) := by decide +kernel
theorem k133_66 : decode (q_mB 133) 66 = .ok (.iload_n 1, 1) := by decide +kernel
theorem k133_67 : decode (q_mB 133) 67 = .ok (.iaload, 1) := by decide +kernel
theorem k133_68 : decode (q_mB 133) 68 = .ok (.iload_n 3, 1) := by decide +kernel
theorem k133_69 : decode (q_mB 133) 69 = .ok (.idiv, 1) := by decide +kernel
theorem k133_70 : decode (q_mB 133) 70 = .ok (.goto 9, 3) := by decide +kernel
theorem k133_73 : decode (q_mB 133) 73 = .ok (.aload_n 0, 1) := by decide +kernel
theorem k133_74 : decode (q_mB 133) 74 = .ok (.getfield 147, 3) := by decide +kernel
theorem k133_77 : decode (q_mB 133) 77 = .ok (.iload_n 3, 1) := by decide +kernel
theorem k133_78 : decode (q_mB 133) 78 = .ok (.idiv, 1) := by decide +kernel
theorem k133_79 : decode (q_mB 133) 79 = .ok (.ireturn, 1) := by decide +kernel
theorem k134_0 : decode (q_mB 134) 0 = .ok (.aload_n 0, 1) := by decide +kernel
theorem k134_1 : decode (q_mB 134) 1 = .ok (.iload_n 1, 1) := by decide +kernel
theorem k134_2 : decode (q_mB 134) 2 = .ok (.invokevirtual 170, 3) := by decide +kernel
theorem k134_5 : decode (q_mB 134) 5 = .ok (.iload_n 1, 1) := by decide +kernel
theorem k134_6 : decode (q_mB 134) 6 = .ok (.aload_n 0, 1) := by decide +kernel
theorem k134_7 : decode (q_mB 134) 7 = .ok (.getfield 147, 3) := by decide +kernel
theorem k134_10 : decode (q_mB 134) 10 = .ok (.if_icmp .lt 6, 3) := by decide +kernel
theorem k134_13 : decode (q_mB 134) 13 = .ok (.bipush (-9), 2) := by decide +kernel
theorem k134_15 : decode (q_mB 134) 15 = .ok (.ireturn, 1) := by decide +kernel
theorem k134_16 : decode (q_mB 134) 16 = .ok (.sipush 400, 3) := by decide +kernel
theorem k134_19 : decode (q_mB 134) 19 = .ok (.iload_n 2, 1) := by decide +kernel
theorem k134_20 : decode (q_mB 134) 20 = .ok (.imul, 1) := by decide +kernel
theorem k134_21 : decode (q_mB 134) 21 = .ok (.aload_n 0, 1) := by decide +kernel
theorem k134_22 : decode (q_mB 134) 22 = .ok (.getfield 49, 3) := by decide +kernel
theorem k134_25 : decode (q_mB 134) 25 = .ok (.iload_n 2, 1) := by decide +kernel
theorem k134_26 : decode (q_mB 134) 26 = .ok (.iaload, 1) := by decide +kernel
theorem k134_27 : decode (q_mB 134) 27 = .ok (.iadd, 1) := by decide +kernel
theorem k134_28 : decode (q_mB 134) 28 = .ok (.istore 4, 2) := by decide +kernel
theorem k134_30 : decode (q_mB 134) 30 = .ok (.iload_n 3, 1) := by decide +kernel
theorem k134_31 : decode (q_mB 134) 31 = .ok (.aload_n 0, 1) := by decide +kernel
theorem k134_32 : decode (q_mB 134) 32 = .ok (.getfield 34, 3) := by decide +kernel
theorem k134_35 : decode (q_mB 134) 35 = .ok (.iload 4, 2) := by decide +kernel
theorem k134_37 : decode (q_mB 134) 37 = .ok (.iaload, 1) := by decide +kernel
theorem k134_38 : decode (q_mB 134) 38 = .ok (.if_icmp .ge 17, 3) := by decide +kernel
theorem k134_41 : decode (q_mB 134) 41 = .ok (.aload_n 0, 1) := by decide +kernel
theorem k134_42 : decode (q_mB 134) 42 = .ok (.getfield 31, 3) := by decide +kernel
theorem k134_45 : decode (q_mB 134) 45 = .ok (.iload 4, 2) := by decide +kernel
theorem k134_47 : decode (q_mB 134) 47 = .ok (.iaload, 1) := by decide +kernel
theorem k134_48 : decode (q_mB 134) 48 = .ok (.iload_n 3, 1) := by decide +kernel
theorem k134_49 : decode (q_mB 134) 49 = .ok (.ishr, 1) := by decide +kernel
theorem k134_50 : decode (q_mB 134) 50 = .ok (.iconst 1, 1) := by decide +kernel
theorem k134_51 : decode (q_mB 134) 51 = .ok (.iand, 1) := by decide +kernel
theorem k134_52 : decode (q_mB 134) 52 = .ok (.goto 5, 3) := by decide +kernel
theorem k134_55 : decode (q_mB 134) 55 = .ok (.bipush (-9), 2) := by decide +kernel
theorem k134_57 : decode (q_mB 134) 57 = .ok (.ireturn, 1) := by decide +kernel
theorem k135_0 : decode (q_mB 135) 0 = .ok (.aload_n 0, 1) := by decide +kernel
theorem k135_1 : decode (q_mB 135) 1 = .ok (.iload_n 2, 1) := by decide +kernel
theorem k135_2 : decode (q_mB 135) 2 = .ok (.invokevirtual 126, 3) := by decide +kernel
theorem k135_5 : decode (q_mB 135) 5 = .ok (.ifCond .ne 7, 3) := by decide +kernel
theorem k135_8 : decode (q_mB 135) 8 = .ok (.iconst (-1), 1) := by decide +kernel
theorem k135_9 : decode (q_mB 135) 9 = .ok (.goto 17, 3) := by decide +kernel
theorem k135_12 : decode (q_mB 135) 12 = .ok (.iload_n 1, 1) := by decide +kernel
theorem k135_13 : decode (q_mB 135) 13 = .ok (.ifCond .lt 7, 3) := by decide +kernel
theorem k135_16 : decode (q_mB 135) 16 = .ok (.iload_n 3, 1) := by decide +kernel
theorem k135_17 : decode (q_mB 135) 17 = .ok (.ifCond .ge 8, 3) := by decide +kernel
theorem k135_20 : decode (q_mB 135) 20 = .ok (.bipush (-4), 2) := by decide +kernel
theorem k135_22 : decode (q_mB 135) 22 = .ok (.goto 4, 3) := by decide +kernel
theorem k135_25 : decode (q_mB 135) 25 = .ok (.iconst 0, 1) := by decide +kernel
theorem k135_26 : decode (q_mB 135) 26 = .ok (.istore 4, 2) := by decide +kernel
theorem k135_28 : decode (q_mB 135) 28 = .ok (.iload 4, 2) := by decide +kernel
theorem k135_30 : decode (q_mB 135) 30 = .ok (.ifCond .eq 12, 3) := by decide +kernel
theorem k135_33 : decode (q_mB 135) 33 = .ok (.aload_n 0, 1) := by decide +kernel
theorem k135_34 : decode (q_mB 135) 34 = .ok (.iload 4, 2) := by decide +kernel
theorem k135_36 : decode (q_mB 135) 36 = .ok (.invokevirtual 80, 3) := by decide +kernel
theorem k135_39 : decode (q_mB 135) 39 = .ok (.goto 10, 3) := by decide +kernel
theorem k135_42 : decode (q_mB 135) 42 = .ok (.aload_n 0, 1) := by decide +kernel
theorem k135_43 : decode (q_mB 135) 43 = .ok (.iload_n 1, 1) := by decide +kernel
theorem k135_44 : decode (q_mB 135) 44 = .ok (.iload_n 2, 1) := by decide +kernel
theorem k135_45 : decode (q_mB 135) 45 = .ok (.iload_n 3, 1) := by decide +kernel
theorem k135_46 : decode (q_mB 135) 46 = .ok (.invokevirtual 190, 3) := by decide +kernel
theorem k135_49 : decode (q_mB 135) 49 = .ok (.ireturn, 1) := by decide +kernel
theorem k136_0 : decode (q_mB 136) 0 = .ok (.aload_n 0, 1) := by decide +kernel
theorem k136_1 : decode (q_mB 136) 1 = .ok (.iload_n 2, 1) := by decide +kernel
theorem k136_2 : decode (q_mB 136) 2 = .ok (.invokevirtual 126, 3) := by decide +kernel
theorem k136_5 : decode (q_mB 136) 5 = .ok (.ifCond .ne 7, 3) := by decide +kernel
theorem k136_8 : decode (q_mB 136) 8 = .ok (.iconst (-1), 1) := by decide +kernel
theorem k136_9 : decode (q_mB 136) 9 = .ok (.goto 13, 3) := by decide +kernel
theorem k136_12 : decode (q_mB 136) 12 = .ok (.iload_n 3, 1) := by decide +kernel
theorem k136_13 : decode (q_mB 136) 13 = .ok (.ifCond .ge 8, 3) := by decide +kernel
theorem k136_16 : decode (q_mB 136) 16 = .ok (.bipush (-4), 2) := by decide +kernel
theorem k136_18 : decode (q_mB 136) 18 = .ok (.goto 4, 3) := by decide +kernel
theorem k136_21 : decode (q_mB 136) 21 = .ok (.iconst 0, 1) := by decide +kernel
theorem k136_22 : decode (q_mB 136) 22 = .ok (.istore 4, 2) := by decide +kernel
theorem k136_24 : decode (q_mB 136) 24 = .ok (.iload 4, 2) := by decide +kernel
theorem k136_26 : decode (q_mB 136) 26 = .ok (.ifCond .eq 10, 3) := by decide +kernel
theorem k136_29 : decode (q_mB 136) 29 = .ok (.aload_n 0, 1) := by decide +kernel
theorem k136_30 : decode (q_mB 136) 30 = .ok (.iload 4, 2) := by decide +kernel
theorem k136_32 : decode (q_mB 136) 32 = .ok (.invokevirtual 80, 3) := by decide +kernel
theorem k136_35 : decode (q_mB 136) 35 = .ok (.ireturn, 1) := by decide +kernel
theorem k136_36 : decode (q_mB 136) 36 = .ok (.aload_n 0, 1) := by decide +kernel
theorem k136_37 : decode (q_mB 136) 37 = .ok (.invokevirtual 177, 3) := by decide +kernel
theorem k136_40 : decode (q_mB 136) 40 = .ok (.istore 5, 2) := by decide +kernel
theorem k136_42 : decode (q_mB 136) 42 = .ok (.iload 5, 2) := by decide +kernel
theorem k136_44 : decode (q_mB 136) 44 = .ok (.ifCond .ne 6, 3) := by decide +kernel
theorem k136_47 : decode (q_mB 136) 47 = .ok (.bipush (-9), 2) := by decide +kernel
theorem k136_49 : decode (q_mB 136) 49 = .ok (.ireturn, 1) := by decide +kernel
theorem k136_50 : decode (q_mB 136) 50 = .ok (.iload_n 1, 1) := by decide +kernel
theorem k136_51 : decode (q_mB 136) 51 = .ok (.ldc 193, 2) := by decide +kernel
theorem k136_53 : decode (q_mB 136) 53 = .ok (.imul, 1) := by decide +kernel
theorem k136_54 : decode (q_mB 136) 54 = .ok (.ldc 194, 2) := by decide +kernel
theorem k136_56 : decode (q_mB 136) 56 = .ok (.iadd, 1) := by decide +kernel
theorem k136_57 : decode (q_mB 136) 57 = .ok (.istore 6, 2) := by decide +kernel
theorem k136_59 : decode (q_mB 136) 59 = .ok (.aload_n 0, 1) := by decide +kernel
theorem k136_60 : decode (q_mB 136) 60 = .ok (.iload 6, 2) := by decide +kernel
theorem k136_62 : decode (q_mB 136) 62 = .ok (.ldc 195, 2) := by decide +kernel
theorem k136_64 : decode (q_mB 136) 64 = .ok (.iand, 1) := by decide +kernel
theorem k136_65 : decode (q_mB 136) 65 = .ok (.sipush 256, 3) := by decide +kernel
theorem k136_68 : decode (q_mB 136) 68 = .ok (.idiv, 1) := by decide +kernel
theorem k136_69 : decode (q_mB 136) 69 = .ok (.iload 5, 2) := by decide +kernel
theorem k136_71 : decode (q_mB 136) 71 = .ok (.irem, 1) := by decide +kernel
theorem k136_72 : decode (q_mB 136) 72 = .ok (.iload_n 2, 1) := by decide +kernel
theorem k136_73 : decode (q_mB 136) 73 = .ok (.iload_n 3, 1) := by decide +kernel
theorem k136_74 : decode (q_mB 136) 74 = .ok (.invokevirtual 190, 3) := by decide +kernel
theorem k136_77 : decode (q_mB 136) 77 = .ok (.ireturn, 1) := by decide +kernel
theorem k137_0 : decode (q_mB 137) 0 = .ok (.iload_n 1, 1) := by decide +kernel
theorem k137_1 : decode (q_mB 137) 1 = .ok (.aload_n 0, 1) := by decide +kernel
theorem k137_2 : decode (q_mB 137) 2 = .ok (.getfield 13, 3) := by decide +kernel
theorem k137_5 : decode (q_mB 137) 5 = .ok (.iconst 2, 1) := by decide +kernel
theorem k137_6 : decode (q_mB 137) 6 = .ok (.iaload, 1) := by decide +kernel
theorem k137_7 : decode (q_mB 137) 7 = .ok (.if_icmp .ne 5, 3) := by decide +kernel
theorem k137_10 : decode (q_mB 137) 10 = .ok (.iconst 0, 1) := by decide +kernel
theorem k137_11 : decode (q_mB 137) 11 = .ok (.ireturn, 1) := by decide +kernel
theorem k137_12 : decode (q_mB 137) 12 = .ok (.aload_n 0, 1) := by decide +kernel
theorem k137_13 : decode (q_mB 137) 13 = .ok (.iload_n 1, 1) := by decide +kernel
theorem k137_14 : decode (q_mB 137) 14 = .ok (.iconst 1, 1) := by decide +kernel
theorem k137_15 : decode (q_mB 137) 15 = .ok (.iadd, 1) := by decide +kernel
theorem k137_16 : decode (q_mB 137) 16 = .ok (.iload_n 2, 1) := by decide +kernel
theorem k137_17 : decode (q_mB 137) 17 = .ok (.invokevirtual 196, 3) := by decide +kernel
theorem k137_20 : decode (q_mB 137) 20 = .ok (.istore_n 3, 1) := by decide +kernel
theorem k137_21 : decode (q_mB 137) 21 = .ok (.iconst 0, 1) := by decide +kernel
theorem k137_22 : decode (q_mB 137) 22 = .ok (.istore 4, 2) := by decide +kernel
theorem k137_24 : decode (q_mB 137) 24 = .ok (.iload 4, 2) := by decide +kernel
theorem k137_26 : decode (q_mB 137) 26 = .ok (.aload_n 0, 1) := by decide +kernel
theorem k137_27 : decode (q_mB 137) 27 = .ok (.getfield 40, 3) := by decide +kernel
theorem k137_30 : decode (q_mB 137) 30 = .ok (.iload_n 1, 1) := by decide +kernel
theorem k137_31 : decode (q_mB 137) 31 = .ok (.iaload, 1) := by decide +kernel
theorem k137_32 : decode (q_mB 137) 32 = .ok (.if_icmp .ge 79, 3) := by decide +kernel
theorem k137_35 : decode (q_mB 137) 35 = .ok (.iload_n 3, 1) := by decide +kernel
theorem k137_36 : decode (q_mB 137) 36 = .ok (.aload_n 0, 1) := by decide +kernel
theorem k137_37 : decode (q_mB 137) 37 = .ok (.getfield 13, 3) := by decide +kernel
theorem k137_40 : decode (q_mB 137) 40 = .ok (.iconst 2, 1) := by decide +kernel
theorem k137_41 : decode (q_mB 137) 41 = .ok (.iaload, 1) := by decide +kernel
theorem k137_42 : decode (q_mB 137) 42 = .ok (.iload_n 1, 1) := by decide +kernel
theorem k137_43 : decode (q_mB 137) 43 = .ok (.isub, 1) := by decide +kernel
theorem k137_44 : decode (q_mB 137) 44 = .ok (.if_icmp .ge 67, 3) := by decide +kernel
theorem k137_47 : decode (q_mB 137) 47 = .ok (.sipush 400, 3) := by decide +kernel
theorem k137_50 : decode (q_mB 137) 50 = .ok (.iload_n 1, 1) := by decide +kernel
theorem k137_51 : decode (q_mB 137) 51 = .ok (.imul, 1) := by decide +kernel
theorem k137_52 : decode (q_mB 137) 52 = .ok (.iload 4, 2) := by decide +kernel
theorem k137_54 : decode (q_mB 137) 54 = .ok (.iadd, 1) := by decide +kernel
theorem k137_55 : decode (q_mB 137) 55 = .ok (.istore 5, 2) := by decide +kernel
theorem k137_57 : decode (q_mB 137) 57 = .ok (.aload_n 0, 1) := by decide +kernel
theorem k137_58 : decode (q_mB 137) 58 = .ok (.getfield 28, 3) := by decide +kernel
theorem k137_61 : decode (q_mB 137) 61 = .ok (.iload 5, 2) := by decide +kernel
theorem k137_63 : decode (q_mB 137) 63 = .ok (.iaload, 1) := by decide +kernel
theorem k137_64 : decode (q_mB 137) 64 = .ok (.iload_n 2, 1) := by decide +kernel
theorem k137_65 : decode (q_mB 137) 65 = .ok (.iand, 1) := by decide +kernel
theorem k137_66 : decode (q_mB 137) 66 = .ok (.ifCond .eq 6, 3) := by decide +kernel
theorem k137_69 : decode (q_mB 137) 69 = .ok (.goto 36, 3) := by decide +kernel
theorem k137_72 : decode (q_mB 137) 72 = .ok (.iconst 1, 1) := by decide +kernel
theorem k137_73 : decode (q_mB 137) 73 = .ok (.aload_n 0, 1) := by decide +kernel
theorem k137_74 : decode (q_mB 137) 74 = .ok (.iload_n 1, 1) := by decide +kernel
theorem k137_75 : decode (q_mB 137) 75 = .ok (.iconst 1, 1) := by decide +kernel
theorem k137_76 : decode (q_mB 137) 76 = .ok (.iadd, 1) := by decide +kernel
theorem k137_77 : decode (q_mB 137) 77 = .ok (.iload_n 2, 1) := by decide +kernel
theorem k137_78 : decode (q_mB 137) 78 = .ok (.aload_n 0, 1) := by decide +kernel
theorem k137_79 : decode (q_mB 137) 79 = .ok (.getfield 28, 3) := by decide +kernel
theorem k137_82 : decode (q_mB 137) 82 = .ok (.iload 5, 2) := by decide +kernel
theorem k137_84 : decode (q_mB 137) 84 = .ok (.iaload, 1) := by decide +kernel
theorem k137_85 : decode (q_mB 137) 85 = .ok (.ior, 1) := by decide +kernel
theorem k137_86 : decode (q_mB 137) 86 = .ok (.invokevirtual 196, 3) := by decide +kernel
theorem k137_89 : decode (q_mB 137) 89 = .ok (.iadd, 1) := by decide +kernel
theorem k137_90 : decode (q_mB 137) 90 = .ok (.istore 6, 2) := by decide +kernel
theorem k137_92 : decode (q_mB 137) 92 = .ok (.iload 6, 2) := by decide +kernel
theorem k137_94 : decode (q_mB 137) 94 = .ok (.iload_n 3, 1) := by decide +kernel
theorem k137_95 : decode (q_mB 137) 95 = .ok (.if_icmp .le 8, 3) := by decide +kernel
theorem k137_98 : decode (q_mB 137) 98 = .ok (.iload 6, 2) := by decide +kernel
theorem k137_100 : decode (q_mB 137) 100 = .ok (.goto 4, 3) := by decide +kernel
theorem k137_103 : decode (q_mB 137) 103 = .ok (.iload_n 3, 1) := by decide +kernel
theorem k137_104 : decode (q_mB 137) 104 = .ok (.istore_n 3, 1) := by decide +kernel
theorem k137_105 : decode (q_mB 137) 105 = .ok (.iinc 4 1, 3) := by decide +kernel
theorem k137_108 : decode (q_mB 137) 108 = .ok (.goto (-84), 3) := by decide +kernel
theorem k137_111 : decode (q_mB 137) 111 = .ok (.iload_n 3, 1) := by decide +kernel
theorem k137_112 : decode (q_mB 137) 112 = .ok (.ireturn, 1) := by decide +kernel
theorem k138_0 : decode (q_mB 138) 0 = .ok (.aload_n 0, 1) := by decide +kernel
theorem k138_1 : decode (q_mB 138) 1 = .ok (.invokevirtual 161, 3) := by decide +kernel
theorem k138_4 : decode (q_mB 138) 4 = .ok (.aload_n 0, 1) := by decide +kernel
theorem k138_5 : decode (q_mB 138) 5 = .ok (.iconst 0, 1) := by decide +kernel
theorem k138_6 : decode (q_mB 138) 6 = .ok (.iconst 0, 1) := by decide +kernel
theorem k138_7 : decode (q_mB 138) 7 = .ok (.invokevirtual 196, 3) := by decide +kernel
theorem k138_10 : decode (q_mB 138) 10 = .ok (.ireturn, 1) := by decide +kernel
theorem k139_0 : decode (q_mB 139) 0 = .ok (.aload_n 0, 1) := by decide +kernel
theorem k139_1 : decode (q_mB 139) 1 = .ok (.invokevirtual 199, 3) := by decide +kernel
theorem k139_4 : decode (q_mB 139) 4 = .ok (.ireturn, 1) := by decide +kernel
theorem k140_0 : decode (q_mB 140) 0 = .ok (.aload_n 0, 1) := by decide +kernel
theorem k140_1 : decode (q_mB 140) 1 = .ok (.invokevirtual 199, 3) := by decide +kernel
theorem k140_4 : decode (q_mB 140) 4 = .ok (.istore_n 1, 1) := by decide +kernel
theorem k140_5 : decode (q_mB 140) 5 = .ok (.iconst 0, 1) := by decide +kernel
theorem k140_6 : decode (q_mB 140) 6 = .ok (.istore_n 2, 1) := by decide +kernel
theorem k140_7 : decode (q_mB 140) 7 = .ok (.iconst 0, 1) := by decide +kernel
theorem k140_8 : decode (q_mB 140) 8 = .ok (.istore_n 3, 1) := by decide +kernel
theorem k140_9 : decode (q_mB 140) 9 = .ok (.iload_n 3, 1) := by decide +kernel
theorem k140_10 : decode (q_mB 140) 10 = .ok (.aload_n 0, 1) := by decide +kernel
theorem k140_11 : decode (q_mB 140) 11 = .ok (.invokevirtual 64, 3) := by decide +kernel
theorem k140_14 : decode (q_mB 140) 14 = .ok (.if_icmp .ge 62, 3) := by decide +kernel
theorem k140_17 : decode (q_mB 140) 17 = .ok (.aload_n 0, 1) := by decide +kernel
theorem k140_18 : decode (q_mB 140) 18 = .ok (.iload_n 3, 1) := by decide +kernel
theorem k140_19 : decode (q_mB 140) 19 = .ok (.invokevirtual 106, 3) := by decide +kernel
theorem k140_22 : decode (q_mB 140) 22 = .ok (.ifCond .eq 6, 3) := by decide +kernel
theorem k140_25 : decode (q_mB 140) 25 = .ok (.goto 45, 3) := by decide +kernel
theorem k140_28 : decode (q_mB 140) 28 = .ok (.aload_n 0, 1) := by decide +kernel
theorem k140_29 : decode (q_mB 140) 29 = .ok (.getfield 13, 3) := by decide +kernel
theorem k140_32 : decode (q_mB 140) 32 = .ok (.bipush 45, 2) := by decide +kernel
theorem k140_34 : decode (q_mB 140) 34 = .ok (.iconst 3, 1) := by decide +kernel
theorem k140_35 : decode (q_mB 140) 35 = .ok (.iload_n 3, 1) := by decide +kernel
theorem k140_36 : decode (q_mB 140) 36 = .ok (.imul, 1) := by decide +kernel
theorem k140_37 : decode (q_mB 140) 37 = .ok (.iadd, 1) := by decide +kernel
theorem k140_38 : decode (q_mB 140) 38 = .ok (.iconst 1, 1) := by decide +kernel
theorem k140_39 : decode (q_mB 140) 39 = .ok (.iastore, 1) := by decide +kernel
theorem k140_40 : decode (q_mB 140) 40 = .ok (.iload_n 2, 1) := by decide +kernel
theorem k140_41 : decode (q_mB 140) 41 = .ok (.aload_n 0, 1) := by decide +kernel
theorem k140_42 : decode (q_mB 140) 42 = .ok (.invokevirtual 199, 3) := by decide +kernel
theorem k140_45 : decode (q_mB 140) 45 = .ok (.iload_n 1, 1) := by decide +kernel
theorem k140_46 : decode (q_mB 140) 46 = .ok (.if_icmp .ge 9, 3) := by decide +kernel
theorem k140_49 : decode (q_mB 140) 49 = .ok (.iconst 1, 1) := by decide +kernel
theorem k140_50 : decode (q_mB 140) 50 = .ok (.iload_n 3, 1) := by decide +kernel
theorem k140_51 : decode (q_mB 140) 51 = .ok (.ishl, 1) := by decide +kernel
theorem k140_52 : decode (q_mB 140) 52 = .ok (.goto 4, 3) := by decide +kernel
theorem k140_55 : decode (q_mB 140) 55 = .ok (.iconst 0, 1) := by decide +kernel
theorem k140_56 : decode (q_mB 140) 56 = .ok (.ior, 1) := by decide +kernel
theorem k140_57 : decode (q_mB 140) 57 = .ok (.istore_n 2, 1) := by decide +kernel
theorem k140_58 : decode (q_mB 140) 58 = .ok (.aload_n 0, 1) := by decide +kernel
theorem k140_59 : decode (q_mB 140) 59 = .ok (.getfield 13, 3) := by decide +kernel
theorem k140_62 : decode (q_mB 140) 62 = .ok (.bipush 45, 2) := by decide +kernel
theorem k140_64 : decode (q_mB 140) 64 = .ok (.iconst 3, 1) := by decide +kernel
theorem k140_65 : decode (q_mB 140) 65 = .ok (.iload_n 3, 1) := by decide +kernel
theorem k140_66 : decode (q_mB 140) 66 = .ok (.imul, 1) := by decide +kernel
theorem k140_67 : decode (q_mB 140) 67 = .ok (.iadd, 1) := by decide +kernel
theorem k140_68 : decode (q_mB 140) 68 = .ok (.iconst 0, 1) := by decide +kernel
theorem k140_69 : decode (q_mB 140) 69 = .ok (.iastore, 1) := by decide +kernel
theorem k140_70 : decode (q_mB 140) 70 = .ok (.iinc 3 1, 3) := by decide +kernel
theorem k140_73 : decode (q_mB 140) 73 = .ok (.goto (-64), 3) := by decide +kernel
theorem k140_76 : decode (q_mB 140) 76 = .ok (.iload_n 2, 1) := by decide +kernel
theorem k140_77 : decode (q_mB 140) 77 = .ok (.ireturn, 1) := by decide +kernel
theorem k141_0 : decode (q_mB 141) 0 = .ok (.aload_n 0, 1) := by decide +kernel
theorem k141_1 : decode (q_mB 141) 1 = .ok (.iload_n 1, 1) := by decide +kernel
theorem k141_2 : decode (q_mB 141) 2 = .ok (.invokevirtual 96, 3) := by decide +kernel
theorem k141_5 : decode (q_mB 141) 5 = .ok (.ifCond .ne 7, 3) := by decide +kernel
theorem k141_8 : decode (q_mB 141) 8 = .ok (.iconst (-1), 1) := by decide +kernel
theorem k141_9 : decode (q_mB 141) 9 = .ok (.goto 20, 3) := by decide +kernel
theorem k141_12 : decode (q_mB 141) 12 = .ok (.aload_n 0, 1) := by decide +kernel
theorem k141_13 : decode (q_mB 141) 13 = .ok (.getfield 13, 3) := by decide +kernel
theorem k141_16 : decode (q_mB 141) 16 = .ok (.bipush 7, 2) := by decide +kernel
theorem k141_18 : decode (q_mB 141) 18 = .ok (.iaload, 1) := by decide +kernel
theorem k141_19 : decode (q_mB 141) 19 = .ok (.iconst 4, 1) := by decide +kernel
theorem k141_20 : decode (q_mB 141) 20 = .ok (.if_icmp .ne 8, 3) := by decide +kernel
theorem k141_23 : decode (q_mB 141) 23 = .ok (.bipush (-6), 2) := by decide +kernel
theorem k141_25 : decode (q_mB 141) 25 = .ok (.goto 4, 3) := by decide +kernel
theorem k141_28 : decode (q_mB 141) 28 = .ok (.iconst 0, 1) := by decide +kernel
theorem k141_29 : decode (q_mB 141) 29 = .ok (.istore_n 2, 1) := by decide +kernel
theorem k141_30 : decode (q_mB 141) 30 = .ok (.iload_n 2, 1) := by decide +kernel
theorem k141_31 : decode (q_mB 141) 31 = .ok (.ifCond .eq 9, 3) := by decide +kernel
theorem k141_34 : decode (q_mB 141) 34 = .ok (.aload_n 0, 1) := by decide +kernel
theorem k141_35 : decode (q_mB 141) 35 = .ok (.iload_n 2, 1) := by decide +kernel
theorem k141_36 : decode (q_mB 141) 36 = .ok (.invokevirtual 80, 3) := by decide +kernel
theorem k141_39 : decode (q_mB 141) 39 = .ok (.ireturn, 1) := by decide +kernel
theorem k141_40 : decode (q_mB 141) 40 = .ok (.aload_n 0, 1) := by decide +kernel
theorem k141_41 : decode (q_mB 141) 41 = .ok (.getfield 13, 3) := by decide +kernel
theorem k141_44 : decode (q_mB 141) 44 = .ok (.bipush 8, 2) := by decide +kernel
theorem k141_46 : decode (q_mB 141) 46 = .ok (.aload_n 0, 1) := by decide +kernel
theorem k141_47 : decode (q_mB 141) 47 = .ok (.getfield 13, 3) := by decide +kernel
theorem k141_50 : decode (q_mB 141) 50 = .ok (.bipush 7, 2) := by decide +kernel
theorem k141_52 : decode (q_mB 141) 52 = .ok (.iaload, 1) := by decide +kernel
theorem k141_53 : decode (q_mB 141) 53 = .ok (.iadd, 1) := by decide +kernel
theorem k141_54 : decode (q_mB 141) 54 = .ok (.iload_n 1, 1) := by decide +kernel
theorem k141_55 : decode (q_mB 141) 55 = .ok (.iastore, 1) := by decide +kernel
theorem k141_56 : decode (q_mB 141) 56 = .ok (.aload_n 0, 1) := by decide +kernel
theorem k141_57 : decode (q_mB 141) 57 = .ok (.getfield 13, 3) := by decide +kernel
theorem k141_60 : decode (q_mB 141) 60 = .ok (.bipush 7, 2) := by decide +kernel
theorem k141_62 : decode (q_mB 141) 62 = .ok (.dup2, 1) := by decide +kernel
theorem k141_63 : decode (q_mB 141) 63 = .ok (.iaload, 1) := by decide +kernel
theorem k141_64 : decode (q_mB 141) 64 = .ok (.iconst 1, 1) := by decide +kernel
theorem k141_65 : decode (q_mB 141) 65 = .ok (.iadd, 1) := by decide +kernel
theorem k141_66 : decode (q_mB 141) 66 = .ok (.iastore, 1) := by decide +kernel
theorem k141_67 : decode (q_mB 141) 67 = .ok (.aload_n 0, 1) := by decide +kernel
theorem k141_68 : decode (q_mB 141) 68 = .ok (.getfield 13, 3) := by decide +kernel
theorem k141_71 : decode (q_mB 141) 71 = .ok (.bipush 7, 2) := by decide +kernel
theorem k141_73 : decode (q_mB 141) 73 = .ok (.iaload, 1) := by decide +kernel
theorem k141_74 : decode (q_mB 141) 74 = .ok (.ireturn, 1) := by decide +kernel
