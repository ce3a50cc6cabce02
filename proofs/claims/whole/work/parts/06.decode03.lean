theorem k88_0 : decode (q_mB 88) 0 = .ok (.getstatic 274, 3) := by decide +kernel
theorem k88_3 : decode (q_mB 88) 3 = .ok (.iload_n 0, 1) := by decide +kernel
theorem k88_4 : decode (q_mB 88) 4 = .ok (.invokestatic 165, 3) := by decide +kernel
theorem k88_7 : decode (q_mB 88) 7 = .ok (.iaload, 1) := by decide +kernel
theorem k88_8 : decode (q_mB 88) 8 = .ok (.ireturn, 1) := by decide +kernel
theorem k89_0 : decode (q_mB 89) 0 = .ok (.iload_n 1, 1) := by decide +kernel
theorem k89_1 : decode (q_mB 89) 1 = .ok (.ifCond .lt 11, 3) := by decide +kernel
theorem k89_4 : decode (q_mB 89) 4 = .ok (.iload_n 1, 1) := by decide +kernel
theorem k89_5 : decode (q_mB 89) 5 = .ok (.getstatic 310, 3) := by decide +kernel
theorem k89_8 : decode (q_mB 89) 8 = .ok (.arraylength, 1) := by decide +kernel
theorem k89_9 : decode (q_mB 89) 9 = .ok (.if_icmp .lt 7, 3) := by decide +kernel
theorem k89_12 : decode (q_mB 89) 12 = .ok (.iconst 0, 1) := by decide +kernel
theorem k89_13 : decode (q_mB 89) 13 = .ok (.goto 13, 3) := by decide +kernel
theorem k89_16 : decode (q_mB 89) 16 = .ok (.iload_n 0, 1) := by decide +kernel
theorem k89_17 : decode (q_mB 89) 17 = .ok (.getstatic 310, 3) := by decide +kernel
theorem k89_20 : decode (q_mB 89) 20 = .ok (.iload_n 1, 1) := by decide +kernel
theorem k89_21 : decode (q_mB 89) 21 = .ok (.iaload, 1) := by decide +kernel
theorem k89_22 : decode (q_mB 89) 22 = .ok (.idiv, 1) := by decide +kernel
theorem k89_23 : decode (q_mB 89) 23 = .ok (.bipush 10, 2) := by decide +kernel
theorem k89_25 : decode (q_mB 89) 25 = .ok (.irem, 1) := by decide +kernel
theorem k89_26 : decode (q_mB 89) 26 = .ok (.ireturn, 1) := by decide +kernel
theorem k90_0 : decode (q_mB 90) 0 = .ok (.iload_n 1, 1) := by decide +kernel
theorem k90_1 : decode (q_mB 90) 1 = .ok (.ifCond .lt 21, 3) := by decide +kernel
theorem k90_4 : decode (q_mB 90) 4 = .ok (.iload_n 1, 1) := by decide +kernel
theorem k90_5 : decode (q_mB 90) 5 = .ok (.bipush 30, 2) := by decide +kernel
theorem k90_7 : decode (q_mB 90) 7 = .ok (.if_icmp .ge 15, 3) := by decide +kernel
theorem k90_10 : decode (q_mB 90) 10 = .ok (.iload_n 0, 1) := by decide +kernel
theorem k90_11 : decode (q_mB 90) 11 = .ok (.iload_n 1, 1) := by decide +kernel
theorem k90_12 : decode (q_mB 90) 12 = .ok (.ishr, 1) := by decide +kernel
theorem k90_13 : decode (q_mB 90) 13 = .ok (.iconst 1, 1) := by decide +kernel
theorem k90_14 : decode (q_mB 90) 14 = .ok (.iand, 1) := by decide +kernel
theorem k90_15 : decode (q_mB 90) 15 = .ok (.ifCond .eq 7, 3) := by decide +kernel
theorem k90_18 : decode (q_mB 90) 18 = .ok (.iconst 1, 1) := by decide +kernel
theorem k90_19 : decode (q_mB 90) 19 = .ok (.goto 4, 3) := by decide +kernel
theorem k90_22 : decode (q_mB 90) 22 = .ok (.iconst 0, 1) := by decide +kernel
theorem k90_23 : decode (q_mB 90) 23 = .ok (.ireturn, 1) := by decide +kernel
theorem k91_0 : decode (q_mB 91) 0 = .ok (.aload_n 0, 1) := by decide +kernel
theorem k91_1 : decode (q_mB 91) 1 = .ok (.getfield 7, 3) := by decide +kernel
theorem k91_4 : decode (q_mB 91) 4 = .ok (.iload_n 1, 1) := by decide +kernel
theorem k91_5 : decode (q_mB 91) 5 = .ok (.ineg, 1) := by decide +kernel
theorem k91_6 : decode (q_mB 91) 6 = .ok (.dup2, 1) := by decide +kernel
theorem k91_7 : decode (q_mB 91) 7 = .ok (.iaload, 1) := by decide +kernel
theorem k91_8 : decode (q_mB 91) 8 = .ok (.iconst 1, 1) := by decide +kernel
theorem k91_9 : decode (q_mB 91) 9 = .ok (.iadd, 1) := by decide +kernel
theorem k91_10 : decode (q_mB 91) 10 = .ok (.iastore, 1) := by decide +kernel
theorem k91_11 : decode (q_mB 91) 11 = .ok (.iload_n 1, 1) := by decide +kernel
theorem k91_12 : decode (q_mB 91) 12 = .ok (.ireturn, 1) := by decide +kernel
theorem k92_0 : decode (q_mB 92) 0 = .ok (.iload_n 0, 1) := by decide +kernel
theorem k92_1 : decode (q_mB 92) 1 = .ok (.ifCond .lt 12, 3) := by decide +kernel
theorem k92_4 : decode (q_mB 92) 4 = .ok (.iload_n 0, 1) := by decide +kernel
theorem k92_5 : decode (q_mB 92) 5 = .ok (.iload_n 1, 1) := by decide +kernel
theorem k92_6 : decode (q_mB 92) 6 = .ok (.if_icmp .ge 7, 3) := by decide +kernel
theorem k92_9 : decode (q_mB 92) 9 = .ok (.iconst 1, 1) := by decide +kernel
theorem k92_10 : decode (q_mB 92) 10 = .ok (.goto 4, 3) := by decide +kernel
theorem k92_13 : decode (q_mB 92) 13 = .ok (.iconst 0, 1) := by decide +kernel
theorem k92_14 : decode (q_mB 92) 14 = .ok (.ireturn, 1) := by decide +kernel
theorem k93_0 : decode (q_mB 93) 0 = .ok (.iload_n 0, 1) := by decide +kernel
theorem k93_1 : decode (q_mB 93) 1 = .ok (.iload_n 1, 1) := by decide +kernel
theorem k93_2 : decode (q_mB 93) 2 = .ok (.if_icmp .ge 8, 3) := by decide +kernel
theorem k93_5 : decode (q_mB 93) 5 = .ok (.bipush (-4), 2) := by decide +kernel
theorem k93_7 : decode (q_mB 93) 7 = .ok (.goto 14, 3) := by decide +kernel
theorem k93_10 : decode (q_mB 93) 10 = .ok (.iload_n 0, 1) := by decide +kernel
theorem k93_11 : decode (q_mB 93) 11 = .ok (.iload_n 2, 1) := by decide +kernel
theorem k93_12 : decode (q_mB 93) 12 = .ok (.if_icmp .le 8, 3) := by decide +kernel
theorem k93_15 : decode (q_mB 93) 15 = .ok (.bipush (-6), 2) := by decide +kernel
theorem k93_17 : decode (q_mB 93) 17 = .ok (.goto 4, 3) := by decide +kernel
theorem k93_20 : decode (q_mB 93) 20 = .ok (.iconst 0, 1) := by decide +kernel
theorem k93_21 : decode (q_mB 93) 21 = .ok (.ireturn, 1) := by decide +kernel
theorem k94_0 : decode (q_mB 94) 0 = .ok (.iconst 0, 1) := by decide +kernel
theorem k94_1 : decode (q_mB 94) 1 = .ok (.istore_n 2, 1) := by decide +kernel
theorem k94_2 : decode (q_mB 94) 2 = .ok (.iload_n 2, 1) := by decide +kernel
theorem k94_3 : decode (q_mB 94) 3 = .ok (.sipush 135, 3) := by decide +kernel
theorem k94_6 : decode (q_mB 94) 6 = .ok (.if_icmp .ge 15, 3) := by decide +kernel
theorem k94_9 : decode (q_mB 94) 9 = .ok (.aload_n 1, 1) := by decide +kernel
theorem k94_10 : decode (q_mB 94) 10 = .ok (.iload_n 2, 1) := by decide +kernel
theorem k94_11 : decode (q_mB 94) 11 = .ok (.aload_n 0, 1) := by decide +kernel
theorem k94_12 : decode (q_mB 94) 12 = .ok (.iload_n 2, 1) := by decide +kernel
theorem k94_13 : decode (q_mB 94) 13 = .ok (.iaload, 1) := by decide +kernel
theorem k94_14 : decode (q_mB 94) 14 = .ok (.iastore, 1) := by decide +kernel
theorem k94_15 : decode (q_mB 94) 15 = .ok (.iinc 2 1, 3) := by decide +kernel
theorem k94_18 : decode (q_mB 94) 18 = .ok (.goto (-16), 3) := by decide +kernel
theorem k94_21 : decode (q_mB 94) 21 = .ok (.return_, 1) := by decide +kernel
theorem k95_0 : decode (q_mB 95) 0 = .ok (.aload_n 0, 1) := by decide +kernel
theorem k95_1 : decode (q_mB 95) 1 = .ok (.getfield 13, 3) := by decide +kernel
theorem k95_4 : decode (q_mB 95) 4 = .ok (.iconst 0, 1) := by decide +kernel
theorem k95_5 : decode (q_mB 95) 5 = .ok (.iaload, 1) := by decide +kernel
theorem k95_6 : decode (q_mB 95) 6 = .ok (.aload_n 0, 1) := by decide +kernel
theorem k95_7 : decode (q_mB 95) 7 = .ok (.getfield 13, 3) := by decide +kernel
theorem k95_10 : decode (q_mB 95) 10 = .ok (.iconst 1, 1) := by decide +kernel
theorem k95_11 : decode (q_mB 95) 11 = .ok (.iaload, 1) := by decide +kernel
theorem k95_12 : decode (q_mB 95) 12 = .ok (.imul, 1) := by decide +kernel
theorem k95_13 : decode (q_mB 95) 13 = .ok (.ireturn, 1) := by decide +kernel
theorem k96_0 : decode (q_mB 96) 0 = .ok (.iload_n 1, 1) := by decide +kernel
theorem k96_1 : decode (q_mB 96) 1 = .ok (.aload_n 0, 1) := by decide +kernel
theorem k96_2 : decode (q_mB 96) 2 = .ok (.invokevirtual 64, 3) := by decide +kernel
theorem k96_5 : decode (q_mB 96) 5 = .ok (.invokestatic 68, 3) := by decide +kernel
theorem k96_8 : decode (q_mB 96) 8 = .ok (.ireturn, 1) := by decide +kernel
theorem k97_0 : decode (q_mB 97) 0 = .ok (.iload_n 1, 1) := by decide +kernel
theorem k97_1 : decode (q_mB 97) 1 = .ok (.aload_n 0, 1) := by decide +kernel
theorem k97_2 : decode (q_mB 97) 2 = .ok (.getfield 13, 3) := by decide +kernel
theorem k97_5 : decode (q_mB 97) 5 = .ok (.iconst 2, 1) := by decide +kernel
theorem k97_6 : decode (q_mB 97) 6 = .ok (.iaload, 1) := by decide +kernel
theorem k97_7 : decode (q_mB 97) 7 = .ok (.invokestatic 68, 3) := by decide +kernel
theorem k97_10 : decode (q_mB 97) 10 = .ok (.ireturn, 1) := by decide +kernel
theorem k98_0 : decode (q_mB 98) 0 = .ok (.aload_n 0, 1) := by decide +kernel
theorem k98_1 : decode (q_mB 98) 1 = .ok (.getfield 13, 3) := by decide +kernel
theorem k98_4 : decode (q_mB 98) 4 = .ok (.bipush 45, 2) := by decide +kernel
theorem k98_6 : decode (q_mB 98) 6 = .ok (.iconst 3, 1) := by decide +kernel
theorem k98_7 : decode (q_mB 98) 7 = .ok (.iload_n 1, 1) := by decide +kernel
theorem k98_8 : decode (q_mB 98) 8 = .ok (.imul, 1) := by decide +kernel
theorem k98_9 : decode (q_mB 98) 9 = .ok (.iadd, 1) := by decide +kernel
theorem k98_10 : decode (q_mB 98) 10 = .ok (.iaload, 1) := by decide +kernel
theorem k98_11 : decode (q_mB 98) 11 = .ok (.ireturn, 1) := by decide +kernel
theorem k99_0 : decode (q_mB 99) 0 = .ok (.aload_n 0, 1) := by decide +kernel
theorem k99_1 : decode (q_mB 99) 1 = .ok (.getfield 13, 3) := by decide +kernel
theorem k99_4 : decode (q_mB 99) 4 = .ok (.bipush 45, 2) := by decide +kernel
theorem k99_6 : decode (q_mB 99) 6 = .ok (.iconst 3, 1) := by decide +kernel
theorem k99_7 : decode (q_mB 99) 7 = .ok (.iload_n 1, 1) := by decide +kernel
theorem k99_8 : decode (q_mB 99) 8 = .ok (.imul, 1) := by decide +kernel
theorem k99_9 : decode (q_mB 99) 9 = .ok (.iadd, 1) := by decide +kernel
theorem k99_10 : decode (q_mB 99) 10 = .ok (.iconst 1, 1) := by decide +kernel
theorem k99_11 : decode (q_mB 99) 11 = .ok (.iadd, 1) := by decide +kernel
theorem k99_12 : decode (q_mB 99) 12 = .ok (.iaload, 1) := by decide +kernel
theorem k99_13 : decode (q_mB 99) 13 = .ok (.ireturn, 1) := by decide +kernel
theorem k100_0 : decode (q_mB 100) 0 = .ok (.aload_n 0, 1) := by decide +kernel
theorem k100_1 : decode (q_mB 100) 1 = .ok (.getfield 13, 3) := by decide +kernel
theorem k100_4 : decode (q_mB 100) 4 = .ok (.bipush 45, 2) := by decide +kernel
theorem k100_6 : decode (q_mB 100) 6 = .ok (.iconst 3, 1) := by decide +kernel
theorem k100_7 : decode (q_mB 100) 7 = .ok (.iload_n 1, 1) := by decide +kernel
theorem k100_8 : decode (q_mB 100) 8 = .ok (.imul, 1) := by decide +kernel
theorem k100_9 : decode (q_mB 100) 9 = .ok (.iadd, 1) := by decide +kernel
theorem k100_10 : decode (q_mB 100) 10 = .ok (.iconst 2, 1) := by decide +kernel
theorem k100_11 : decode (q_mB 100) 11 = .ok (.iadd, 1) := by decide +kernel
theorem k100_12 : decode (q_mB 100) 12 = .ok (.iaload, 1) := by decide +kernel
theorem k100_13 : decode (q_mB 100) 13 = .ok (.ireturn, 1) := by decide +kernel
theorem k101_0 : decode (q_mB 101) 0 = .ok (.iload_n 1, 1) := by decide +kernel
theorem k101_1 : decode (q_mB 101) 1 = .ok (.iconst 0, 1) := by decide +kernel
theorem k101_2 : decode (q_mB 101) 2 = .ok (.sipush 255, 3) := by decide +kernel
theorem k101_5 : decode (q_mB 101) 5 = .ok (.invokestatic 72, 3) := by decide +kernel
theorem k101_8 : decode (q_mB 101) 8 = .ok (.istore_n 2, 1) := by decide +kernel
theorem k101_9 : decode (q_mB 101) 9 = .ok (.iload_n 2, 1) := by decide +kernel
theorem k101_10 : decode (q_mB 101) 10 = .ok (.ifCond .ne 15, 3) := by decide +kernel
theorem k101_13 : decode (q_mB 101) 13 = .ok (.aload_n 0, 1) := by decide +kernel
theorem k101_14 : decode (q_mB 101) 14 = .ok (.getfield 76, 3) := by decide +kernel
theorem k101_17 : decode (q_mB 101) 17 = .ok (.bipush 48, 2) := by decide +kernel
theorem k101_19 : decode (q_mB 101) 19 = .ok (.if_icmp .ne 6, 3) := by decide +kernel
theorem k101_22 : decode (q_mB 101) 22 = .ok (.bipush (-6), 2) := by decide +kernel
theorem k101_24 : decode (q_mB 101) 24 = .ok (.istore_n 2, 1) := by decide +kernel
theorem k101_25 : decode (q_mB 101) 25 = .ok (.iload_n 2, 1) := by decide +kernel
theorem k101_26 : decode (q_mB 101) 26 = .ok (.ifCond .eq 9, 3) := by decide +kernel
theorem k101_29 : decode (q_mB 101) 29 = .ok (.aload_n 0, 1) := by decide +kernel
theorem k101_30 : decode (q_mB 101) 30 = .ok (.iload_n 2, 1) := by decide +kernel
theorem k101_31 : decode (q_mB 101) 31 = .ok (.invokevirtual 80, 3) := by decide +kernel
theorem k101_34 : decode (q_mB 101) 34 = .ok (.ireturn, 1) := by decide +kernel
theorem k101_35 : decode (q_mB 101) 35 = .ok (.aload_n 0, 1) := by decide +kernel
theorem k101_36 : decode (q_mB 101) 36 = .ok (.getfield 22, 3) := by decide +kernel
theorem k101_39 : decode (q_mB 101) 39 = .ok (.aload_n 0, 1) := by decide +kernel
theorem k101_40 : decode (q_mB 101) 40 = .ok (.getfield 76, 3) := by decide +kernel
theorem k101_43 : decode (q_mB 101) 43 = .ok (.iload_n 1, 1) := by decide +kernel
theorem k101_44 : decode (q_mB 101) 44 = .ok (.iastore, 1) := by decide +kernel
theorem k101_45 : decode (q_mB 101) 45 = .ok (.aload_n 0, 1) := by decide +kernel
theorem k101_46 : decode (q_mB 101) 46 = .ok (.dup, 1) := by decide +kernel
theorem k101_47 : decode (q_mB 101) 47 = .ok (.getfield 76, 3) := by decide +kernel
theorem k101_50 : decode (q_mB 101) 50 = .ok (.iconst 1, 1) := by decide +kernel
theorem k101_51 : decode (q_mB 101) 51 = .ok (.iadd, 1) := by decide +kernel
theorem k101_52 : decode (q_mB 101) 52 = .ok (.putfield 76, 3) := by decide +kernel
theorem k101_55 : decode (q_mB 101) 55 = .ok (.aload_n 0, 1) := by decide +kernel
theorem k101_56 : decode (q_mB 101) 56 = .ok (.getfield 76, 3) := by decide +kernel
theorem k101_59 : decode (q_mB 101) 59 = .ok (.ireturn, 1) := by decide +kernel
theorem k102_0 : decode (q_mB 102) 0 = .ok (.bipush 45, 2) := by decide +kernel
theorem k102_2 : decode (q_mB 102) 2 = .ok (.iconst 3, 1) := by decide +kernel
theorem k102_3 : decode (q_mB 102) 3 = .ok (.iload_n 2, 1) := by decide +kernel
theorem k102_4 : decode (q_mB 102) 4 = .ok (.imul, 1) := by decide +kernel
theorem k102_5 : decode (q_mB 102) 5 = .ok (.iadd, 1) := by decide +kernel
theorem k102_6 : decode (q_mB 102) 6 = .ok (.istore_n 3, 1) := by decide +kernel
theorem k102_7 : decode (q_mB 102) 7 = .ok (.aload_n 0, 1) := by decide +kernel
theorem k102_8 : decode (q_mB 102) 8 = .ok (.getfield 19, 3) := by decide +kernel
theorem k102_11 : decode (q_mB 102) 11 = .ok (.iload_n 3, 1) := by decide +kernel
theorem k102_12 : decode (q_mB 102) 12 = .ok (.iconst 0, 1) := by decide +kernel
theorem k102_13 : decode (q_mB 102) 13 = .ok (.iastore, 1) := by decide +kernel
theorem k102_14 : decode (q_mB 102) 14 = .ok (.aload_n 0, 1) := by decide +kernel
theorem k102_15 : decode (q_mB 102) 15 = .ok (.getfield 19, 3) := by decide +kernel
theorem k102_18 : decode (q_mB 102) 18 = .ok (.iload_n 3, 1) := by decide +kernel
theorem k102_19 : decode (q_mB 102) 19 = .ok (.iconst 1, 1) := by decide +kernel
theorem k102_20 : decode (q_mB 102) 20 = .ok (.iadd, 1) := by decide +kernel
theorem k102_21 : decode (q_mB 102) 21 = .ok (.iconst 0, 1) := by decide +kernel
theorem k102_22 : decode (q_mB 102) 22 = .ok (.iastore, 1) := by decide +kernel
theorem k102_23 : decode (q_mB 102) 23 = .ok (.aload_n 0, 1) := by decide +kernel
theorem k102_24 : decode (q_mB 102) 24 = .ok (.getfield 19, 3) := by decide +kernel
theorem k102_27 : decode (q_mB 102) 27 = .ok (.iload_n 3, 1) := by decide +kernel
theorem k102_28 : decode (q_mB 102) 28 = .ok (.iconst 2, 1) := by decide +kernel
theorem k102_29 : decode (q_mB 102) 29 = .ok (.iadd, 1) := by decide +kernel
theorem k102_30 : decode (q_mB 102) 30 = .ok (.bipush (-9), 2) := by decide +kernel
theorem k102_32 : decode (q_mB 102) 32 = .ok (.iastore, 1) := by decide +kernel
theorem k102_33 : decode (q_mB 102) 33 = .ok (.iload_n 1, 1) := by decide +kernel
theorem k102_34 : decode (q_mB 102) 34 = .ok (.bipush 46, 2) := by decide +kernel
theorem k102_36 : decode (q_mB 102) 36 = .ok (.if_icmp .ne 5, 3) := by decide +kernel
theorem k102_39 : decode (q_mB 102) 39 = .ok (.iconst 1, 1) := by decide +kernel
theorem k102_40 : decode (q_mB 102) 40 = .ok (.ireturn, 1) := by decide +kernel
theorem k102_41 : decode (q_mB 102) 41 = .ok (.iload_n 1, 1) := by decide +kernel
theorem k102_42 : decode (q_mB 102) 42 = .ok (.bipush 35, 2) := by decide +kernel
theorem k102_44 : decode (q_mB 102) 44 = .ok (.if_icmp .ne 12, 3) := by decide +kernel
theorem k102_47 : decode (q_mB 102) 47 = .ok (.aload_n 0, 1) := by decide +kernel
theorem k102_48 : decode (q_mB 102) 48 = .ok (.getfield 19, 3) := by decide +kernel
theorem k102_51 : decode (q_mB 102) 51 = .ok (.iload_n 3, 1) := by decide +kernel
theorem k102_52 : decode (q_mB 102) 52 = .ok (.iconst 1, 1) := by decide +kernel
theorem k102_53 : decode (q_mB 102) 53 = .ok (.iastore, 1) := by decide +kernel
theorem k102_54 : decode (q_mB 102) 54 = .ok (.iconst 1, 1) := by decide +kernel
theorem k102_55 : decode (q_mB 102) 55 = .ok (.ireturn, 1) := by decide +kernel
theorem k102_56 : decode (q_mB 102) 56 = .ok (.iload_n 1, 1) := by decide +kernel
theorem k102_57 : decode (q_mB 102) 57 = .ok (.bipush 49, 2) := by decide +kernel
theorem k102_59 : decode (q_mB 102) 59 = .ok (.if_icmp .lt 23, 3) := by decide +kernel
theorem k102_62 : decode (q_mB 102) 62 = .ok (.iload_n 1, 1) := by decide +kernel
theorem k102_63 : decode (q_mB 102) 63 = .ok (.bipush 57, 2) := by decide +kernel
theorem k102_65 : decode (q_mB 102) 65 = .ok (.if_icmp .gt 17, 3) := by decide +kernel
theorem k102_68 : decode (q_mB 102) 68 = .ok (.aload_n 0, 1) := by decide +kernel
theorem k102_69 : decode (q_mB 102) 69 = .ok (.getfield 19, 3) := by decide +kernel
theorem k102_72 : decode (q_mB 102) 72 = .ok (.iload_n 3, 1) := by decide +kernel
theorem k102_73 : decode (q_mB 102) 73 = .ok (.iconst 1, 1) := by decide +kernel
theorem k102_74 : decode (q_mB 102) 74 = .ok (.iadd, 1) := by decide +kernel
theorem k102_75 : decode (q_mB 102) 75 = .ok (.iload_n 1, 1) := by decide +kernel
theorem k102_76 : decode (q_mB 102) 76 = .ok (.bipush 48, 2) := by decide +kernel
theorem k102_78 : decode (q_mB 102) 78 = .ok (.isub, 1) := by decide +kernel
theorem k102_79 : decode (q_mB 102) 79 = .ok (.iastore, 1) := by decide +kernel
theorem k102_80 : decode (q_mB 102) 80 = .ok (.iconst 1, 1) := by decide +kernel
theorem k102_81 : decode (q_mB 102) 81 = .ok (.ireturn, 1) := by decide +kernel
theorem k102_82 : decode (q_mB 102) 82 = .ok (.iload_n 1, 1) := by decide +kernel
theorem k102_83 : decode (q_mB 102) 83 = .ok (.bipush 97, 2) := by decide +kernel
theorem k102_85 : decode (q_mB 102) 85 = .ok (.if_icmp .lt 13, 3) := by decide +kernel
theorem k102_88 : decode (q_mB 102) 88 = .ok (.iload_n 1, 1) := by decide +kernel
theorem k102_89 : decode (q_mB 102) 89 = .ok (.bipush 99, 2) := by decide +kernel
theorem k102_91 : decode (q_mB 102) 91 = .ok (.if_icmp .gt 7, 3) := by decide +kernel
theorem k102_94 : decode (q_mB 102) 94 = .ok (.iconst 1, 1) := by decide +kernel
theorem k102_95 : decode (q_mB 102) 95 = .ok (.goto 4, 3) := by decide +kernel
theorem k102_98 : decode (q_mB 102) 98 = .ok (.iconst 0, 1) := by decide +kernel
theorem k102_99 : decode (q_mB 102) 99 = .ok (.istore 4, 2) := by decide +kernel
theorem k102_101 : decode (q_mB 102) 101 = .ok (.iload 4, 2) := by decide +kernel
theorem k102_103 : decode (q_mB 102) 103 = .ok (.ifCond .ne 17, 3) := by decide +kernel
theorem k102_106 : decode (q_mB 102) 106 = .ok (.iload_n 1, 1) := by decide +kernel
theorem k102_107 : decode (q_mB 102) 107 = .ok (.bipush 120, 2) := by decide +kernel
theorem k102_109 : decode (q_mB 102) 109 = .ok (.if_icmp .lt 9, 3) := by decide +kernel
theorem k102_112 : decode (q_mB 102) 112 = .ok (.iload_n 1, 1) := by decide +kernel
theorem k102_113 : decode (q_mB 102) 113 = .ok (.bipush 122, 2) := by decide +kernel
theorem k102_115 : decode (q_mB 102) 115 = .ok (.if_icmp .le 5, 3) := by decide +kernel
theorem k102_118 : decode (q_mB 102) 118 = .ok (.iconst 0, 1) := by decide +kernel
theorem k102_119 : decode (q_mB 102) 119 = .ok (.ireturn, 1) := by decide +kernel
theorem k102_120 : decode (q_mB 102) 120 = .ok (.iload 4, 2) := by decide +kernel
theorem k102_122 : decode (q_mB 102) 122 = .ok (.ifCond .eq 10, 3) := by decide +kernel
theorem k102_125 : decode (q_mB 102) 125 = .ok (.iload_n 1, 1) := by decide +kernel
theorem k102_126 : decode (q_mB 102) 126 = .ok (.bipush 97, 2) := by decide +kernel
theorem k102_128 : decode (q_mB 102) 128 = .ok (.isub, 1) := by decide +kernel
theorem k102_129 : decode (q_mB 102) 129 = .ok (.goto 7, 3) := by decide +kernel
theorem k102_132 : decode (q_mB 102) 132 = .ok (.iload_n 1, 1) := by decide +kernel
theorem k102_133 : decode (q_mB 102) 133 = .ok (.bipush 120, 2) := by decide +kernel
theorem k102_135 : decode (q_mB 102) 135 = .ok (.isub, 1) := by decide +kernel
theorem k102_136 : decode (q_mB 102) 136 = .ok (.istore 5, 2) := by decide +kernel
theorem k102_138 : decode (q_mB 102) 138 = .ok (.iload 4, 2) := by decide +kernel
theorem k102_140 : decode (q_mB 102) 140 = .ok (.ifCond .eq 10, 3) := by decide +kernel
theorem k102_143 : decode (q_mB 102) 143 = .ok (.aload_n 0, 1) := by decide +kernel
theorem k102_144 : decode (q_mB 102) 144 = .ok (.getfield 84, 3) := by decide +kernel
theorem k102_147 : decode (q_mB 102) 147 = .ok (.goto 7, 3) := by decide +kernel
theorem k102_150 : decode (q_mB 102) 150 = .ok (.aload_n 0, 1) := by decide +kernel
theorem k102_151 : decode (q_mB 102) 151 = .ok (.getfield 87, 3) := by decide +kernel
theorem k102_154 : decode (q_mB 102) 154 = .ok (.iload 5, 2) := by decide +kernel
theorem k102_156 : decode (q_mB 102) 156 = .ok (.ishr, 1) := by decide +kernel
theorem k102_157 : decode (q_mB 102) 157 = .ok (.iconst 1, 1) := by decide +kernel
theorem k102_158 : decode (q_mB 102) 158 = .ok (.iand, 1) := by decide +kernel
theorem k102_159 : decode (q_mB 102) 159 = .ok (.iconst 1, 1) := by decide +kernel
theorem k102_160 : decode (q_mB 102) 160 = .ok (.if_icmp .ne 5, 3) := by decide +kernel
theorem k102_163 : decode (q_mB 102) 163 = .ok (.iconst 0, 1) := by decide +kernel
theorem k102_164 : decode (q_mB 102) 164 = .ok (.ireturn, 1) := by decide +kernel
theorem k102_165 : decode (q_mB 102) 165 = .ok (.aload_n 0, 1) := by decide +kernel
theorem k102_166 : decode (q_mB 102) 166 = .ok (.getfield 19, 3) := by decide +kernel
theorem k102_169 : decode (q_mB 102) 169 = .ok (.iload_n 3, 1) := by decide +kernel
theorem k102_170 : decode (q_mB 102) 170 = .ok (.iload 4, 2) := by decide +kernel
theorem k102_172 : decode (q_mB 102) 172 = .ok (.ifCond .eq 7, 3) := by decide +kernel
theorem k102_175 : decode (q_mB 102) 175 = .ok (.iconst 2, 1) := by decide +kernel
theorem k102_176 : decode (q_mB 102) 176 = .ok (.goto 4, 3) := by decide +kernel
theorem k102_179 : decode (q_mB 102) 179 = .ok (.iconst 3, 1) := by decide +kernel
theorem k102_180 : decode (q_mB 102) 180 = .ok (.iastore, 1) := by decide +kernel
theorem k102_181 : decode (q_mB 102) 181 = .ok (.aload_n 0, 1) := by decide +kernel
theorem k102_182 : decode (q_mB 102) 182 = .ok (.getfield 19, 3) := by decide +kernel
theorem k102_185 : decode (q_mB 102) 185 = .ok (.iload_n 3, 1) := by decide +kernel
theorem k102_186 : decode (q_mB 102) 186 = .ok (.iconst 2, 1) := by decide +kernel
theorem k102_187 : decode (q_mB 102) 187 = .ok (.iadd, 1) := by decide +kernel
theorem k102_188 : decode (q_mB 102) 188 = .ok (.iload 5, 2) := by decide +kernel
theorem k102_190 : decode (q_mB 102) 190 = .ok (.iastore, 1) := by decide +kernel
theorem k102_191 : decode (q_mB 102) 191 = .ok (.iload 4, 2) := by decide +kernel
theorem k102_193 : decode (q_mB 102) 193 = .ok (.ifCond .eq 19, 3) := by decide +kernel
theorem k102_196 : decode (q_mB 102) 196 = .ok (.aload_n 0, 1) := by decide +kernel
theorem k102_197 : decode (q_mB 102) 197 = .ok (.dup, 1) := by decide +kernel
theorem k102_198 : decode (q_mB 102) 198 = .ok (.getfield 84, 3) := by decide +kernel
theorem k102_201 : decode (q_mB 102) 201 = .ok (.iconst 1, 1) := by decide +kernel
theorem k102_202 : decode (q_mB 102) 202 = .ok (.iload 5, 2) := by decide +kernel
theorem k102_204 : decode (q_mB 102) 204 = .ok (.ishl, 1) := by decide +kernel
theorem k102_205 : decode (q_mB 102) 205 = .ok (.ior, 1) := by decide +kernel
theorem k102_206 : decode (q_mB 102) 206 = .ok (.putfield 84, 3) := by decide +kernel
theorem k102_209 : decode (q_mB 102) 209 = .ok (.goto 16, 3) := by decide +kernel
theorem k102_212 : decode (q_mB 102) 212 = .ok (.aload_n 0, 1) := by decide +kernel
theorem k102_213 : decode (q_mB 102) 213 = .ok (.dup, 1) := by decide +kernel
theorem k102_214 : decode (q_mB 102) 214 = .ok (.getfield 87, 3) := by decide +kernel
theorem k102_217 : decode (q_mB 102) 217 = .ok (.iconst 1, 1) := by decide +kernel
theorem k102_218 : decode (q_mB 102) 218 = .ok (.iload 5, 2) := by decide +kernel
theorem k102_220 : decode (q_mB 102) 220 = .ok (.ishl, 1) := by decide +kernel
theorem k102_221 : decode (q_mB 102) 221 = .ok (.ior, 1) := by decide +kernel
theorem k102_222 : decode (q_mB 102) 222 = .ok (.putfield 87, 3) := by decide +kernel
theorem k102_225 : decode (q_mB 102) 225 = .ok (.iconst 1, 1) := by decide +kernel
theorem k102_226 : decode (q_mB 102) 226 = .ok (.ireturn, 1) := by decide +kernel
theorem k103_0 : decode (q_mB 103) 0 = .ok (.aload_n 0, 1) := by decide +kernel
theorem k103_1 : decode (q_mB 103) 1 = .ok (.iconst 0, 1) := by decide +kernel
theorem k103_2 : decode (q_mB 103) 2 = .ok (.putfield 84, 3) := by decide +kernel
theorem k103_5 : decode (q_mB 103) 5 = .ok (.aload_n 0, 1) := by decide +kernel
theorem k103_6 : decode (q_mB 103) 6 = .ok (.iconst 0, 1) := by decide +kernel
theorem k103_7 : decode (q_mB 103) 7 = .ok (.putfield 87, 3) := by decide +kernel
theorem k103_10 : decode (q_mB 103) 10 = .ok (.iconst 1, 1) := by decide +kernel
theorem k103_11 : decode (q_mB 103) 11 = .ok (.istore_n 1, 1) := by decide +kernel
theorem k103_12 : decode (q_mB 103) 12 = .ok (.iconst 0, 1) := by decide +kernel
theorem k103_13 : decode (q_mB 103) 13 = .ok (.istore_n 2, 1) := by decide +kernel
theorem k103_14 : decode (q_mB 103) 14 = .ok (.iconst 0, 1) := by decide +kernel
theorem k103_15 : decode (q_mB 103) 15 = .ok (.istore_n 3, 1) := by decide +kernel
theorem k103_16 : decode (q_mB 103) 16 = .ok (.iconst 0, 1) := by decide +kernel
theorem k103_17 : decode (q_mB 103) 17 = .ok (.istore 4, 2) := by decide +kernel
theorem k103_19 : decode (q_mB 103) 19 = .ok (.iconst 0, 1) := by decide +kernel
theorem k103_20 : decode (q_mB 103) 20 = .ok (.istore 5, 2) := by decide +kernel
theorem k103_22 : decode (q_mB 103) 22 = .ok (.iload 5, 2) := by decide +kernel
theorem k103_24 : decode (q_mB 103) 24 = .ok (.aload_n 0, 1) := by decide +kernel
theorem k103_25 : decode (q_mB 103) 25 = .ok (.getfield 76, 3) := by decide +kernel
theorem k103_28 : decode (q_mB 103) 28 = .ok (.if_icmp .ge 122, 3) := by decide +kernel
theorem k103_31 : decode (q_mB 103) 31 = .ok (.aload_n 0, 1) := by decide +kernel
theorem k103_32 : decode (q_mB 103) 32 = .ok (.getfield 22, 3) := by decide +kernel
theorem k103_35 : decode (q_mB 103) 35 = .ok (.iload 5, 2) := by decide +kernel
theorem k103_37 : decode (q_mB 103) 37 = .ok (.iaload, 1) := by decide +kernel
theorem k103_38 : decode (q_mB 103) 38 = .ok (.bipush 47, 2) := by decide +kernel
theorem k103_40 : decode (q_mB 103) 40 = .ok (.if_icmp .ne 61, 3) := by decide +kernel
theorem k103_43 : decode (q_mB 103) 43 = .ok (.iload_n 1, 1) := by decide +kernel
theorem k103_44 : decode (q_mB 103) 44 = .ok (.iconst 1, 1) := by decide +kernel
theorem k103_45 : decode (q_mB 103) 45 = .ok (.if_icmp .ne 16, 3) := by decide +kernel
theorem k103_48 : decode (q_mB 103) 48 = .ok (.iload_n 3, 1) := by decide +kernel
theorem k103_49 : decode (q_mB 103) 49 = .ok (.iconst 2, 1) := by decide +kernel
theorem k103_50 : decode (q_mB 103) 50 = .ok (.if_icmp .lt 7, 3) := by decide +kernel
theorem k103_53 : decode (q_mB 103) 53 = .ok (.iconst 1, 1) := by decide +kernel
theorem k103_54 : decode (q_mB 103) 54 = .ok (.goto 23, 3) := by decide +kernel
theorem k103_57 : decode (q_mB 103) 57 = .ok (.iconst 0, 1) := by decide +kernel
theorem k103_58 : decode (q_mB 103) 58 = .ok (.goto 19, 3) := by decide +kernel
theorem k103_61 : decode (q_mB 103) 61 = .ok (.iload_n 3, 1) := by decide +kernel
theorem k103_62 : decode (q_mB 103) 62 = .ok (.iload_n 2, 1) := by decide +kernel
theorem k103_63 : decode (q_mB 103) 63 = .ok (.if_icmp .ne 13, 3) := by decide +kernel
theorem k103_66 : decode (q_mB 103) 66 = .ok (.iload_n 1, 1) := by decide +kernel
theorem k103_67 : decode (q_mB 103) 67 = .ok (.bipush 6, 2) := by decide +kernel
theorem k103_69 : decode (q_mB 103) 69 = .ok (.if_icmp .ge 7, 3) := by decide +kernel
theorem k103_72 : decode (q_mB 103) 72 = .ok (.iconst 1, 1) := by decide +kernel
theorem k103_73 : decode (q_mB 103) 73 = .ok (.goto 4, 3) := by decide +kernel
theorem k103_76 : decode (q_mB 103) 76 = .ok (.iconst 0, 1) := by decide +kernel
theorem k103_77 : decode (q_mB 103) 77 = .ok (.istore 6, 2) := by decide +kernel
theorem k103_79 : decode (q_mB 103) 79 = .ok (.iload 6, 2) := by decide +kernel
theorem k103_81 : decode (q_mB 103) 81 = .ok (.ifCond .ne 10, 3) := by decide +kernel
theorem k103_84 : decode (q_mB 103) 84 = .ok (.sipush (-1000), 3) := by decide +kernel
theorem k103_87 : decode (q_mB 103) 87 = .ok (.iload 5, 2) := by decide +kernel
theorem k103_89 : decode (q_mB 103) 89 = .ok (.isub, 1) := by decide +kernel
theorem k103_90 : decode (q_mB 103) 90 = .ok (.ireturn, 1) := by decide +kernel
theorem k103_91 : decode (q_mB 103) 91 = .ok (.iload_n 3, 1) := by decide +kernel
theorem k103_92 : decode (q_mB 103) 92 = .ok (.istore_n 2, 1) := by decide +kernel
theorem k103_93 : decode (q_mB 103) 93 = .ok (.iconst 0, 1) := by decide +kernel
theorem k103_94 : decode (q_mB 103) 94 = .ok (.istore_n 3, 1) := by decide +kernel
theorem k103_95 : decode (q_mB 103) 95 = .ok (.iinc 1 1, 3) := by decide +kernel
theorem k103_98 : decode (q_mB 103) 98 = .ok (.goto 46, 3) := by decide +kernel
theorem k103_101 : decode (q_mB 103) 101 = .ok (.iload_n 3, 1) := by decide +kernel
theorem k103_102 : decode (q_mB 103) 102 = .ok (.iload_n 1, 1) := by decide +kernel
theorem k103_103 : decode (q_mB 103) 103 = .ok (.iconst 1, 1) := by decide +kernel
theorem k103_104 : decode (q_mB 103) 104 = .ok (.if_icmp .ne 7, 3) := by decide +kernel
theorem k103_107 : decode (q_mB 103) 107 = .ok (.iconst 5, 1) := by decide +kernel
theorem k103_108 : decode (q_mB 103) 108 = .ok (.goto 4, 3) := by decide +kernel
theorem k103_111 : decode (q_mB 103) 111 = .ok (.iload_n 2, 1) := by decide +kernel
theorem k103_112 : decode (q_mB 103) 112 = .ok (.if_icmp .eq 19, 3) := by decide +kernel
theorem k103_115 : decode (q_mB 103) 115 = .ok (.aload_n 0, 1) := by decide +kernel
theorem k103_116 : decode (q_mB 103) 116 = .ok (.aload_n 0, 1) := by decide +kernel
theorem k103_117 : decode (q_mB 103) 117 = .ok (.getfield 22, 3) := by decide +kernel
theorem k103_120 : decode (q_mB 103) 120 = .ok (.iload 5, 2) := by decide +kernel
theorem k103_122 : decode (q_mB 103) 122 = .ok (.iaload, 1) := by decide +kernel
theorem k103_123 : decode (q_mB 103) 123 = .ok (.iload 4, 2) := by decide +kernel
theorem k103_125 : decode (q_mB 103) 125 = .ok (.invokevirtual 90, 3) := by decide +kernel
theorem k103_128 : decode (q_mB 103) 128 = .ok (.ifCond .ne 10, 3) := by decide +kernel
theorem k103_131 : decode (q_mB 103) 131 = .ok (.sipush (-1000), 3) := by decide +kernel
theorem k103_134 : decode (q_mB 103) 134 = .ok (.iload 5, 2) := by decide +kernel
theorem k103_136 : decode (q_mB 103) 136 = .ok (.isub, 1) := by decide +kernel
theorem k103_137 : decode (q_mB 103) 137 = .ok (.ireturn, 1) := by decide +kernel
theorem k103_138 : decode (q_mB 103) 138 = .ok (.iinc 3 1, 3) := by decide +kernel
theorem k103_141 : decode (q_mB 103) 141 = .ok (.iinc 4 1, 3) := by decide +kernel
theorem k103_144 : decode (q_mB 103) 144 = .ok (.iinc 5 1, 3) := by decide +kernel
theorem k103_147 : decode (q_mB 103) 147 = .ok (.goto (-125), 3) := by decide +kernel
theorem k103_150 : decode (q_mB 103) 150 = .ok (.iload_n 1, 1) := by decide +kernel
theorem k103_151 : decode (q_mB 103) 151 = .ok (.iconst 2, 1) := by decide +kernel
theorem k103_152 : decode (q_mB 103) 152 = .ok (.if_icmp .lt 8, 3) := by decide +kernel
theorem k103_155 : decode (q_mB 103) 155 = .ok (.iload_n 3, 1) := by decide +kernel
theorem k103_156 : decode (q_mB 103) 156 = .ok (.iload_n 2, 1) := by decide +kernel
theorem k103_157 : decode (q_mB 103) 157 = .ok (.if_icmp .ge 12, 3) := by decide +kernel
theorem k103_160 : decode (q_mB 103) 160 = .ok (.sipush (-1000), 3) := by decide +kernel
theorem k103_163 : decode (q_mB 103) 163 = .ok (.aload_n 0, 1) := by decide +kernel
theorem k103_164 : decode (q_mB 103) 164 = .ok (.getfield 76, 3) := by decide +kernel
theorem k103_167 : decode (q_mB 103) 167 = .ok (.isub, 1) := by decide +kernel
theorem k103_168 : decode (q_mB 103) 168 = .ok (.ireturn, 1) := by decide +kernel
theorem k103_169 : decode (q_mB 103) 169 = .ok (.aload_n 0, 1) := by decide +kernel
theorem k103_170 : decode (q_mB 103) 170 = .ok (.getfield 84, 3) := by decide +kernel
theorem k103_173 : decode (q_mB 103) 173 = .ok (.aload_n 0, 1) := by decide +kernel
theorem k103_174 : decode (q_mB 103) 174 = .ok (.getfield 87, 3) := by decide +kernel
theorem k103_177 : decode (q_mB 103) 177 = .ok (.if_icmp .ne 28, 3) := by decide +kernel
theorem k103_180 : decode (q_mB 103) 180 = .ok (.aload_n 0, 1) := by decide +kernel
theorem k103_181 : decode (q_mB 103) 181 = .ok (.getfield 84, 3) := by decide +kernel
theorem k103_184 : decode (q_mB 103) 184 = .ok (.iconst 1, 1) := by decide +kernel
theorem k103_185 : decode (q_mB 103) 185 = .ok (.if_icmp .eq 24, 3) := by decide +kernel
theorem k103_188 : decode (q_mB 103) 188 = .ok (.aload_n 0, 1) := by decide +kernel
theorem k103_189 : decode (q_mB 103) 189 = .ok (.getfield 84, 3) := by decide +kernel
theorem k103_192 : decode (q_mB 103) 192 = .ok (.iconst 3, 1) := by decide +kernel
theorem k103_193 : decode (q_mB 103) 193 = .ok (.if_icmp .eq 16, 3) := by decide +kernel
theorem k103_196 : decode (q_mB 103) 196 = .ok (.aload_n 0, 1) := by decide +kernel
theorem k103_197 : decode (q_mB 103) 197 = .ok (.getfield 84, 3) := by decide +kernel
theorem k103_200 : decode (q_mB 103) 200 = .ok (.bipush 7, 2) := by decide +kernel
theorem k103_202 : decode (q_mB 103) 202 = .ok (.if_icmp .eq 7, 3) := by decide +kernel
theorem k103_205 : decode (q_mB 103) 205 = .ok (.sipush (-2000), 3) := by decide +kernel
theorem k103_208 : decode (q_mB 103) 208 = .ok (.ireturn, 1) := by decide +kernel
theorem k103_209 : decode (q_mB 103) 209 = .ok (.bipush 45, 2) := by decide +kernel
theorem k103_211 : decode (q_mB 103) 211 = .ok (.istore 5, 2) := by decide +kernel
theorem k103_213 : decode (q_mB 103) 213 = .ok (.iload 5, 2) := by decide +kernel
theorem k103_215 : decode (q_mB 103) 215 = .ok (.bipush 45, 2) := by decide +kernel
theorem k103_217 : decode (q_mB 103) 217 = .ok (.iconst 3, 1) := by decide +kernel
theorem k103_218 : decode (q_mB 103) 218 = .ok (.iload 4, 2) := by decide +kernel
theorem k103_220 : decode (q_mB 103) 220 = .ok (.imul, 1) := by decide +kernel
theorem k103_221 : decode (q_mB 103) 221 = .ok (.iadd, 1) := by decide +kernel
theorem k103_222 : decode (q_mB 103) 222 = .ok (.if_icmp .ge 23, 3) := by decide +kernel
theorem k103_225 : decode (q_mB 103) 225 = .ok (.aload_n 0, 1) := by decide +kernel
theorem k103_226 : decode (q_mB 103) 226 = .ok (.getfield 13, 3) := by decide +kernel
theorem k103_229 : decode (q_mB 103) 229 = .ok (.iload 5, 2) := by decide +kernel
theorem k103_231 : decode (q_mB 103) 231 = .ok (.aload_n 0, 1) := by decide +kernel
theorem k103_232 : decode (q_mB 103) 232 = .ok (.getfield 19, 3) := by decide +kernel
theorem k103_235 : decode (q_mB 103) 235 = .ok (.iload 5, 2) := by decide +kernel
theorem k103_237 : decode (q_mB 103) 237 = .ok (.iaload, 1) := by decide +kernel
theorem k103_238 : decode (q_mB 103) 238 = .ok (.iastore, 1) := by decide +kernel
theorem k103_239 : decode (q_mB 103) 239 = .ok (.iinc 5 1, 3) := by decide +kernel
theorem k103_242 : decode (q_mB 103) 242 = .ok (.goto (-29), 3) := by decide +kernel
theorem k103_245 : decode (q_mB 103) 245 = .ok (.aload_n 0, 1) := by decide +kernel
theorem k103_246 : decode (q_mB 103) 246 = .ok (.getfield 13, 3) := by decide +kernel
theorem k103_249 : decode (q_mB 103) 249 = .ok (.iconst 0, 1) := by decide +kernel
theorem k103_250 : decode (q_mB 103) 250 = .ok (.iload_n 1, 1) := by decide +kernel
theorem k103_251 : decode (q_mB 103) 251 = .ok (.iastore, 1) := by decide +kernel
theorem k103_252 : decode (q_mB 103) 252 = .ok (.aload_n 0, 1) := by decide +kernel
theorem k103_253 : decode (q_mB 103) 253 = .ok (.getfield 13, 3) := by decide +kernel
theorem k103_256 : decode (q_mB 103) 256 = .ok (.iconst 1, 1) := by decide +kernel
theorem k103_257 : decode (q_mB 103) 257 = .ok (.iload_n 2, 1) := by decide +kernel
theorem k103_258 : decode (q_mB 103) 258 = .ok (.iastore, 1) := by decide +kernel
theorem k103_259 : decode (q_mB 103) 259 = .ok (.aload_n 0, 1) := by decide +kernel
theorem k103_260 : decode (q_mB 103) 260 = .ok (.getfield 13, 3) := by decide +kernel
theorem k103_263 : decode (q_mB 103) 263 = .ok (.iconst 2, 1) := by decide +kernel
theorem k103_264 : decode (q_mB 103) 264 = .ok (.aload_n 0, 1) := by decide +kernel
theorem k103_265 : decode (q_mB 103) 265 = .ok (.getfield 84, 3) := by decide +kernel
theorem k103_268 : decode (q_mB 103) 268 = .ok (.iconst 1, 1) := by decide +kernel
theorem k103_269 : decode (q_mB 103) 269 = .ok (.if_icmp .ne 7, 3) := by decide +kernel
theorem k103_272 : decode (q_mB 103) 272 = .ok (.iconst 1, 1) := by decide +kernel
theorem k103_273 : decode (q_mB 103) 273 = .ok (.goto 16, 3) := by decide +kernel
theorem k103_276 : decode (q_mB 103) 276 = .ok (.aload_n 0, 1) := by decide +kernel
theorem k103_277 : decode (q_mB 103) 277 = .ok (.getfield 84, 3) := by decide +kernel
theorem k103_280 : decode (q_mB 103) 280 = .ok (.iconst 3, 1) := by decide +kernel
theorem k103_281 : decode (q_mB 103) 281 = .ok (.if_icmp .ne 7, 3) := by decide +kernel
theorem k103_284 : decode (q_mB 103) 284 = .ok (.iconst 2, 1) := by decide +kernel
theorem k103_285 : decode (q_mB 103) 285 = .ok (.goto 4, 3) := by decide +kernel
theorem k103_288 : decode (q_mB 103) 288 = .ok (.iconst 3, 1) := by decide +kernel
theorem k103_289 : decode (q_mB 103) 289 = .ok (.iastore, 1) := by decide +kernel
theorem k103_290 : decode (q_mB 103) 290 = .ok (.aload_n 0, 1) := by decide +kernel
theorem k103_291 : decode (q_mB 103) 291 = .ok (.getfield 13, 3) := by decide +kernel
theorem k103_294 : decode (q_mB 103) 294 = .ok (.bipush 7, 2) := by decide +kernel
theorem k103_296 : decode (q_mB 103) 296 = .ok (.iconst 0, 1) := by decide +kernel
theorem k103_297 : decode (q_mB 103) 297 = .ok (.iastore, 1) := by decide +kernel
theorem k103_298 : decode (q_mB 103) 298 = .ok (.iconst 0, 1) := by decide +kernel
theorem k103_299 : decode (q_mB 103) 299 = .ok (.istore 5, 2) := by decide +kernel
theorem k103_301 : decode (q_mB 103) 301 = .ok (.iload 5, 2) := by decide +kernel
theorem k103_303 : decode (q_mB 103) 303 = .ok (.iconst 3, 1) := by decide +kernel
theorem k103_304 : decode (q_mB 103) 304 = .ok (.if_icmp .ge 31, 3) := by decide +kernel
theorem k103_307 : decode (q_mB 103) 307 = .ok (.aload_n 0, 1) := by decide +kernel
theorem k103_308 : decode (q_mB 103) 308 = .ok (.getfield 13, 3) := by decide +kernel
theorem k103_311 : decode (q_mB 103) 311 = .ok (.iconst 4, 1) := by decide +kernel
theorem k103_312 : decode (q_mB 103) 312 = .ok (.iload 5, 2) := by decide +kernel
theorem k103_314 : decode (q_mB 103) 314 = .ok (.iadd, 1) := by decide +kernel
theorem k103_315 : decode (q_mB 103) 315 = .ok (.iload 5, 2) := by decide +kernel
theorem k103_317 : decode (q_mB 103) 317 = .ok (.iastore, 1) := by decide +kernel
theorem k103_318 : decode (q_mB 103) 318 = .ok (.aload_n 0, 1) := by decide +kernel
theorem k103_319 : decode (q_mB 103) 319 = .ok (.getfield 13, 3) := by decide +kernel
theorem k103_322 : decode (q_mB 103) 322 = .ok (.bipush 12, 2) := by decide +kernel
theorem k103_324 : decode (q_mB 103) 324 = .ok (.iload 5, 2) := by decide +kernel
theorem k103_326 : decode (q_mB 103) 326 = .ok (.iadd, 1) := by decide +kernel
theorem k103_327 : decode (q_mB 103) 327 = .ok (.iconst 0, 1) := by decide +kernel
theorem k103_328 : decode (q_mB 103) 328 = .ok (.iastore, 1) := by decide +kernel
theorem k103_329 : decode (q_mB 103) 329 = .ok (.iinc 5 1, 3) := by decide +kernel
theorem k103_332 : decode (q_mB 103) 332 = .ok (.goto (-31), 3) := by decide +kernel
theorem k103_335 : decode (q_mB 103) 335 = .ok (.iload 4, 2) := by decide +kernel
theorem k103_337 : decode (q_mB 103) 337 = .ok (.ireturn, 1) := by decide +kernel
theorem k104_0 : decode (q_mB 104) 0 = .ok (.aload_n 0, 1) := by decide +kernel
theorem k104_1 : decode (q_mB 104) 1 = .ok (.invokevirtual 93, 3) := by decide +kernel
theorem k104_4 : decode (q_mB 104) 4 = .ok (.istore_n 1, 1) := by decide +kernel
theorem k104_5 : decode (q_mB 104) 5 = .ok (.aload_n 0, 1) := by decide +kernel
theorem k104_6 : decode (q_mB 104) 6 = .ok (.iconst 0, 1) := by decide +kernel
theorem k104_7 : decode (q_mB 104) 7 = .ok (.putfield 76, 3) := by decide +kernel
theorem k104_10 : decode (q_mB 104) 10 = .ok (.iload_n 1, 1) := by decide +kernel
theorem k104_11 : decode (q_mB 104) 11 = .ok (.ireturn, 1) := by decide +kernel
theorem k105_0 : decode (q_mB 105) 0 = .ok (.aload_n 0, 1) := by decide +kernel
theorem k105_1 : decode (q_mB 105) 1 = .ok (.iload_n 1, 1) := by decide +kernel
theorem k105_2 : decode (q_mB 105) 2 = .ok (.invokevirtual 96, 3) := by decide +kernel
theorem k105_5 : decode (q_mB 105) 5 = .ok (.ifCond .ne 11, 3) := by decide +kernel
theorem k105_8 : decode (q_mB 105) 8 = .ok (.aload_n 0, 1) := by decide +kernel
theorem k105_9 : decode (q_mB 105) 9 = .ok (.iconst (-1), 1) := by decide +kernel
theorem k105_10 : decode (q_mB 105) 10 = .ok (.invokevirtual 80, 3) := by decide +kernel
theorem k105_13 : decode (q_mB 105) 13 = .ok (.goto 33, 3) := by decide +kernel
theorem k105_16 : decode (q_mB 105) 16 = .ok (.iload_n 2, 1) := by decide +kernel
theorem k105_17 : decode (q_mB 105) 17 = .ok (.iconst 3, 1) := by decide +kernel
theorem k105_18 : decode (q_mB 105) 18 = .ok (.invokestatic 68, 3) := by decide +kernel
theorem k105_21 : decode (q_mB 105) 21 = .ok (.ifCond .eq 19, 3) := by decide +kernel
theorem k105_24 : decode (q_mB 105) 24 = .ok (.aload_n 0, 1) := by decide +kernel
theorem k105_25 : decode (q_mB 105) 25 = .ok (.getfield 13, 3) := by decide +kernel
theorem k105_28 : decode (q_mB 105) 28 = .ok (.bipush 45, 2) := by decide +kernel
theorem k105_30 : decode (q_mB 105) 30 = .ok (.iconst 3, 1) := by decide +kernel
theorem k105_31 : decode (q_mB 105) 31 = .ok (.iload_n 1, 1) := by decide +kernel
theorem k105_32 : decode (q_mB 105) 32 = .ok (.imul, 1) := by decide +kernel
theorem k105_33 : decode (q_mB 105) 33 = .ok (.iadd, 1) := by decide +kernel
theorem k105_34 : decode (q_mB 105) 34 = .ok (.iload_n 2, 1) := by decide +kernel
theorem k105_35 : decode (q_mB 105) 35 = .ok (.iadd, 1) := by decide +kernel
theorem k105_36 : decode (q_mB 105) 36 = .ok (.iaload, 1) := by decide +kernel
theorem k105_37 : decode (q_mB 105) 37 = .ok (.goto 9, 3) := by decide +kernel
theorem k105_40 : decode (q_mB 105) 40 = .ok (.aload_n 0, 1) := by decide +kernel
theorem k105_41 : decode (q_mB 105) 41 = .ok (.bipush (-2), 2) := by decide +kernel
theorem k105_43 : decode (q_mB 105) 43 = .ok (.invokevirtual 80, 3) := by decide +kernel
theorem k105_46 : decode (q_mB 105) 46 = .ok (.ireturn, 1) := by decide +kernel
theorem k106_0 : decode (q_mB 106) 0 = .ok (.iload_n 1, 1) := by decide +kernel
theorem k106_1 : decode (q_mB 106) 1 = .ok (.iconst 5, 1) := by decide +kernel
theorem k106_2 : decode (q_mB 106) 2 = .ok (.invokestatic 68, 3) := by decide +kernel
theorem k106_5 : decode (q_mB 106) 5 = .ok (.ifCond .ne 10, 3) := by decide +kernel
theorem k106_8 : decode (q_mB 106) 8 = .ok (.aload_n 0, 1) := by decide +kernel
theorem k106_9 : decode (q_mB 106) 9 = .ok (.bipush (-2), 2) := by decide +kernel
theorem k106_11 : decode (q_mB 106) 11 = .ok (.invokevirtual 80, 3) := by decide +kernel
theorem k106_14 : decode (q_mB 106) 14 = .ok (.ireturn, 1) := by decide +kernel
theorem k106_15 : decode (q_mB 106) 15 = .ok (.aload_n 0, 1) := by decide +kernel
theorem k106_16 : decode (q_mB 106) 16 = .ok (.getfield 13, 3) := by decide +kernel
theorem k106_19 : decode (q_mB 106) 19 = .ok (.iconst 3, 1) := by decide +kernel
theorem k106_20 : decode (q_mB 106) 20 = .ok (.iaload, 1) := by decide +kernel
theorem k106_21 : decode (q_mB 106) 21 = .ok (.istore_n 2, 1) := by decide +kernel
theorem k106_22 : decode (q_mB 106) 22 = .ok (.aload_n 0, 1) := by decide +kernel
theorem k106_23 : decode (q_mB 106) 23 = .ok (.getfield 13, 3) := by decide +kernel
theorem k106_26 : decode (q_mB 106) 26 = .ok (.iconst 3, 1) := by decide +kernel
theorem k106_27 : decode (q_mB 106) 27 = .ok (.iload_n 1, 1) := by decide +kernel
theorem k106_28 : decode (q_mB 106) 28 = .ok (.iastore, 1) := by decide +kernel
theorem k106_29 : decode (q_mB 106) 29 = .ok (.iload_n 2, 1) := by decide +kernel
theorem k106_30 : decode (q_mB 106) 30 = .ok (.ireturn, 1) := by decide +kernel
theorem k107_0 : decode (q_mB 107) 0 = .ok (.iconst 0, 1) := by decide +kernel
theorem k107_1 : decode (q_mB 107) 1 = .ok (.istore_n 1, 1) := by decide +kernel
theorem k107_2 : decode (q_mB 107) 2 = .ok (.aload_n 0, 1) := by decide +kernel
theorem k107_3 : decode (q_mB 107) 3 = .ok (.getfield 13, 3) := by decide +kernel
theorem k107_6 : decode (q_mB 107) 6 = .ok (.iconst 2, 1) := by decide +kernel
theorem k107_7 : decode (q_mB 107) 7 = .ok (.iaload, 1) := by decide +kernel
theorem k107_8 : decode (q_mB 107) 8 = .ok (.iconst 1, 1) := by decide +kernel
theorem k107_9 : decode (q_mB 107) 9 = .ok (.isub, 1) := by decide +kernel
theorem k107_10 : decode (q_mB 107) 10 = .ok (.istore_n 2, 1) := by decide +kernel
theorem k107_11 : decode (q_mB 107) 11 = .ok (.iload_n 2, 1) := by decide +kernel
theorem k107_12 : decode (q_mB 107) 12 = .ok (.ifCond .lt 23, 3) := by decide +kernel
theorem k107_15 : decode (q_mB 107) 15 = .ok (.bipush 10, 2) := by decide +kernel
theorem k107_17 : decode (q_mB 107) 17 = .ok (.iload_n 1, 1) := by decide +kernel
theorem k107_18 : decode (q_mB 107) 18 = .ok (.imul, 1) := by decide +kernel
theorem k107_19 : decode (q_mB 107) 19 = .ok (.aload_n 0, 1) := by decide +kernel
theorem k107_20 : decode (q_mB 107) 20 = .ok (.getfield 13, 3) := by decide +kernel
theorem k107_23 : decode (q_mB 107) 23 = .ok (.iconst 4, 1) := by decide +kernel
theorem k107_24 : decode (q_mB 107) 24 = .ok (.iload_n 2, 1) := by decide +kernel
theorem k107_25 : decode (q_mB 107) 25 = .ok (.iadd, 1) := by decide +kernel
theorem k107_26 : decode (q_mB 107) 26 = .ok (.iaload, 1) := by decide +kernel
theorem k107_27 : decode (q_mB 107) 27 = .ok (.iadd, 1) := by decide +kernel
theorem k107_28 : decode (q_mB 107) 28 = .ok (.istore_n 1, 1) := by decide +kernel
theorem k107_29 : decode (q_mB 107) 29 = .ok (.iinc 2 (-1), 3) := by decide +kernel
theorem k107_32 : decode (q_mB 107) 32 = .ok (.goto (-21), 3) := by decide +kernel
theorem k107_35 : decode (q_mB 107) 35 = .ok (.iload_n 1, 1) := by decide +kernel
theorem k107_36 : decode (q_mB 107) 36 = .ok (.ireturn, 1) := by decide +kernel
theorem k108_0 : decode (q_mB 108) 0 = .ok (.iload_n 1, 1) := by decide +kernel
theorem k108_1 : decode (q_mB 108) 1 = .ok (.istore_n 2, 1) := by decide +kernel
theorem k108_2 : decode (q_mB 108) 2 = .ok (.iconst 0, 1) := by decide +kernel
theorem k108_3 : decode (q_mB 108) 3 = .ok (.istore_n 3, 1) := by decide +kernel
theorem k108_4 : decode (q_mB 108) 4 = .ok (.iconst 0, 1) := by decide +kernel
theorem k108_5 : decode (q_mB 108) 5 = .ok (.istore 4, 2) := by decide +kernel
theorem k108_7 : decode (q_mB 108) 7 = .ok (.iload 4, 2) := by decide +kernel
theorem k108_9 : decode (q_mB 108) 9 = .ok (.aload_n 0, 1) := by decide +kernel
theorem k108_10 : decode (q_mB 108) 10 = .ok (.getfield 13, 3) := by decide +kernel
theorem k108_13 : decode (q_mB 108) 13 = .ok (.iconst 2, 1) := by decide +kernel
theorem k108_14 : decode (q_mB 108) 14 = .ok (.iaload, 1) := by decide +kernel
theorem k108_15 : decode (q_mB 108) 15 = .ok (.if_icmp .ge 38, 3) := by decide +kernel
theorem k108_18 : decode (q_mB 108) 18 = .ok (.iload_n 1, 1) := by decide +kernel
theorem k108_19 : decode (q_mB 108) 19 = .ok (.ifCond .lt 34, 3) := by decide +kernel
theorem k108_22 : decode (q_mB 108) 22 = .ok (.aload_n 0, 1) := by decide +kernel
theorem k108_23 : decode (q_mB 108) 23 = .ok (.getfield 25, 3) := by decide +kernel
theorem k108_26 : decode (q_mB 108) 26 = .ok (.iload 4, 2) := by decide +kernel
theorem k108_28 : decode (q_mB 108) 28 = .ok (.iload_n 2, 1) := by decide +kernel
theorem k108_29 : decode (q_mB 108) 29 = .ok (.bipush 10, 2) := by decide +kernel
theorem k108_31 : decode (q_mB 108) 31 = .ok (.irem, 1) := by decide +kernel
theorem k108_32 : decode (q_mB 108) 32 = .ok (.iastore, 1) := by decide +kernel
theorem k108_33 : decode (q_mB 108) 33 = .ok (.iload_n 3, 1) := by decide +kernel
theorem k108_34 : decode (q_mB 108) 34 = .ok (.iconst 1, 1) := by decide +kernel
theorem k108_35 : decode (q_mB 108) 35 = .ok (.iload_n 2, 1) := by decide +kernel
theorem k108_36 : decode (q_mB 108) 36 = .ok (.bipush 10, 2) := by decide +kernel
theorem k108_38 : decode (q_mB 108) 38 = .ok (.irem, 1) := by decide +kernel
theorem k108_39 : decode (q_mB 108) 39 = .ok (.ishl, 1) := by decide +kernel
theorem k108_40 : decode (q_mB 108) 40 = .ok (.ior, 1) := by decide +kernel
theorem k108_41 : decode (q_mB 108) 41 = .ok (.istore_n 3, 1) := by decide +kernel
theorem k108_42 : decode (q_mB 108) 42 = .ok (.iload_n 2, 1) := by decide +kernel
theorem k108_43 : decode (q_mB 108) 43 = .ok (.bipush 10, 2) := by decide +kernel
theorem k108_45 : decode (q_mB 108) 45 = .ok (.idiv, 1) := by decide +kernel
theorem k108_46 : decode (q_mB 108) 46 = .ok (.istore_n 2, 1) := by decide +kernel
theorem k108_47 : decode (q_mB 108) 47 = .ok (.iinc 4 1, 3) := by decide +kernel
theorem k108_50 : decode (q_mB 108) 50 = .ok (.goto (-43), 3) := by decide +kernel
theorem k108_53 : decode (q_mB 108) 53 = .ok (.iload_n 1, 1) := by decide +kernel
theorem k108_54 : decode (q_mB 108) 54 = .ok (.ifCond .lt 25, 3) := by decide +kernel
theorem k108_57 : decode (q_mB 108) 57 = .ok (.iload_n 2, 1) := by decide +kernel
theorem k108_58 : decode (q_mB 108) 58 = .ok (.ifCond .ne 21, 3) := by decide +kernel
theorem k108_61 : decode (q_mB 108) 61 = .ok (.iload_n 3, 1) := by decide +kernel
theorem k108_62 : decode (q_mB 108) 62 = .ok (.iconst 1, 1) := by decide +kernel
theorem k108_63 : decode (q_mB 108) 63 = .ok (.aload_n 0, 1) := by decide +kernel
theorem k108_64 : decode (q_mB 108) 64 = .ok (.getfield 13, 3) := by decide +kernel
theorem k108_67 : decode (q_mB 108) 67 = .ok (.iconst 2, 1) := by decide +kernel
theorem k108_68 : decode (q_mB 108) 68 = .ok (.iaload, 1) := by decide +kernel
theorem k108_69 : decode (q_mB 108) 69 = .ok (.ishl, 1) := by decide +kernel
theorem k108_70 : decode (q_mB 108) 70 = .ok (.iconst 1, 1) := by decide +kernel
theorem k108_71 : decode (q_mB 108) 71 = .ok (.isub, 1) := by decide +kernel
theorem k108_72 : decode (q_mB 108) 72 = .ok (.if_icmp .ne 7, 3) := by decide +kernel
theorem k108_75 : decode (q_mB 108) 75 = .ok (.iconst 1, 1) := by decide +kernel
theorem k108_76 : decode (q_mB 108) 76 = .ok (.goto 4, 3) := by decide +kernel
theorem k108_79 : decode (q_mB 108) 79 = .ok (.iconst 0, 1) := by decide +kernel
theorem k108_80 : decode (q_mB 108) 80 = .ok (.ireturn, 1) := by decide +kernel
theorem k109_0 : decode (q_mB 109) 0 = .ok (.aload_n 0, 1) := by decide +kernel
theorem k109_1 : decode (q_mB 109) 1 = .ok (.getfield 13, 3) := by decide +kernel
theorem k109_4 : decode (q_mB 109) 4 = .ok (.iconst 0, 1) := by decide +kernel
theorem k109_5 : decode (q_mB 109) 5 = .ok (.iaload, 1) := by decide +kernel
theorem k109_6 : decode (q_mB 109) 6 = .ok (.ifCond .ne 8, 3) := by decide +kernel
theorem k109_9 : decode (q_mB 109) 9 = .ok (.bipush (-3), 2) := by decide +kernel
theorem k109_11 : decode (q_mB 109) 11 = .ok (.goto 16, 3) := by decide +kernel
theorem k109_14 : decode (q_mB 109) 14 = .ok (.aload_n 0, 1) := by decide +kernel
theorem k109_15 : decode (q_mB 109) 15 = .ok (.iload_n 1, 1) := by decide +kernel
theorem k109_16 : decode (q_mB 109) 16 = .ok (.invokevirtual 100, 3) := by decide +kernel
theorem k109_19 : decode (q_mB 109) 19 = .ok (.ifCond .eq 7, 3) := by decide +kernel
theorem k109_22 : decode (q_mB 109) 22 = .ok (.iconst 0, 1) := by decide +kernel
theorem k109_23 : decode (q_mB 109) 23 = .ok (.goto 4, 3) := by decide +kernel
theorem k109_26 : decode (q_mB 109) 26 = .ok (.iconst (-1), 1) := by decide +kernel
theorem k109_27 : decode (q_mB 109) 27 = .ok (.istore_n 2, 1) := by decide +kernel
theorem k109_28 : decode (q_mB 109) 28 = .ok (.iload_n 2, 1) := by decide +kernel
theorem k109_29 : decode (q_mB 109) 29 = .ok (.ifCond .eq 9, 3) := by decide +kernel
theorem k109_32 : decode (q_mB 109) 32 = .ok (.aload_n 0, 1) := by decide +kernel
theorem k109_33 : decode (q_mB 109) 33 = .ok (.iload_n 2, 1) := by decide +kernel
theorem k109_34 : decode (q_mB 109) 34 = .ok (.invokevirtual 80, 3) := by decide +kernel
theorem k109_37 : decode (q_mB 109) 37 = .ok (.ireturn, 1) := by decide +kernel
theorem k109_38 : decode (q_mB 109) 38 = .ok (.aload_n 0, 1) := by decide +kernel
theorem k109_39 : decode (q_mB 109) 39 = .ok (.invokevirtual 103, 3) := by decide +kernel
theorem k109_42 : decode (q_mB 109) 42 = .ok (.istore_n 3, 1) := by decide +kernel
theorem k109_43 : decode (q_mB 109) 43 = .ok (.iconst 0, 1) := by decide +kernel
theorem k109_44 : decode (q_mB 109) 44 = .ok (.istore 4, 2) := by decide +kernel
theorem k109_46 : decode (q_mB 109) 46 = .ok (.iload 4, 2) := by decide +kernel
theorem k109_48 : decode (q_mB 109) 48 = .ok (.aload_n 0, 1) := by decide +kernel
theorem k109_49 : decode (q_mB 109) 49 = .ok (.getfield 13, 3) := by decide +kernel
theorem k109_52 : decode (q_mB 109) 52 = .ok (.iconst 2, 1) := by decide +kernel
theorem k109_53 : decode (q_mB 109) 53 = .ok (.iaload, 1) := by decide +kernel
theorem k109_54 : decode (q_mB 109) 54 = .ok (.if_icmp .ge 25, 3) := by decide +kernel
theorem k109_57 : decode (q_mB 109) 57 = .ok (.aload_n 0, 1) := by decide +kernel
theorem k109_58 : decode (q_mB 109) 58 = .ok (.getfield 13, 3) := by decide +kernel
theorem k109_61 : decode (q_mB 109) 61 = .ok (.iconst 4, 1) := by decide +kernel
theorem k109_62 : decode (q_mB 109) 62 = .ok (.iload 4, 2) := by decide +kernel
theorem k109_64 : decode (q_mB 109) 64 = .ok (.iadd, 1) := by decide +kernel
theorem k109_65 : decode (q_mB 109) 65 = .ok (.aload_n 0, 1) := by decide +kernel
theorem k109_66 : decode (q_mB 109) 66 = .ok (.getfield 25, 3) := by decide +kernel
theorem k109_69 : decode (q_mB 109) 69 = .ok (.iload 4, 2) := by decide +kernel
theorem k109_71 : decode (q_mB 109) 71 = .ok (.iaload, 1) := by decide +kernel
theorem k109_72 : decode (q_mB 109) 72 = .ok (.iastore, 1) := by decide +kernel
theorem k109_73 : decode (q_mB 109) 73 = .ok (.iinc 4 1, 3) := by decide +kernel
theorem k109_76 : decode (q_mB 109) 76 = .ok (.goto (-30), 3) := by decide +kernel
theorem k109_79 : decode (q_mB 109) 79 = .ok (.iload_n 3, 1) := by decide +kernel
theorem k109_80 : decode (q_mB 109) 80 = .ok (.ireturn, 1) := by decide +kernel
theorem k110_0 : decode (q_mB 110) 0 = .ok (.iconst 0, 1) := by decide +kernel
theorem k110_1 : decode (q_mB 110) 1 = .ok (.istore_n 3, 1) := by decide +kernel
theorem k110_2 : decode (q_mB 110) 2 = .ok (.aload_n 0, 1) := by decide +kernel
theorem k110_3 : decode (q_mB 110) 3 = .ok (.iload_n 3, 1) := by decide +kernel
theorem k110_4 : decode (q_mB 110) 4 = .ok (.invokevirtual 106, 3) := by decide +kernel
theorem k110_7 : decode (q_mB 110) 7 = .ok (.iload_n 1, 1) := by decide +kernel
theorem k110_8 : decode (q_mB 110) 8 = .ok (.if_icmp .ne 12, 3) := by decide +kernel
theorem k110_11 : decode (q_mB 110) 11 = .ok (.aload_n 0, 1) := by decide +kernel
theorem k110_12 : decode (q_mB 110) 12 = .ok (.iload_n 3, 1) := by decide +kernel
theorem k110_13 : decode (q_mB 110) 13 = .ok (.invokevirtual 109, 3) := by decide +kernel
theorem k110_16 : decode (q_mB 110) 16 = .ok (.iload_n 2, 1) := by decide +kernel
theorem k110_17 : decode (q_mB 110) 17 = .ok (.if_icmp .eq 9, 3) := by decide +kernel
theorem k110_20 : decode (q_mB 110) 20 = .ok (.iinc 3 1, 3) := by decide +kernel
theorem k110_23 : decode (q_mB 110) 23 = .ok (.goto (-21), 3) := by decide +kernel
theorem k110_26 : decode (q_mB 110) 26 = .ok (.iload_n 3, 1) := by decide +kernel
theorem k110_27 : decode (q_mB 110) 27 = .ok (.ireturn, 1) := by decide +kernel
theorem k111_0 : decode (q_mB 111) 0 = .ok (.iload_n 2, 1) := by decide +kernel
theorem k111_1 : decode (q_mB 111) 1 = .ok (.ifCond .ne 30, 3) := by decide +kernel
theorem k111_4 : decode (q_mB 111) 4 = .ok (.iload_n 1, 1) := by decide +kernel
theorem k111_5 : decode (q_mB 111) 5 = .ok (.aload_n 0, 1) := by decide +kernel
theorem k111_6 : decode (q_mB 111) 6 = .ok (.getfield 13, 3) := by decide +kernel
theorem k111_9 : decode (q_mB 111) 9 = .ok (.iconst 1, 1) := by decide +kernel
theorem k111_10 : decode (q_mB 111) 10 = .ok (.iaload, 1) := by decide +kernel
theorem k111_11 : decode (q_mB 111) 11 = .ok (.idiv, 1) := by decide +kernel
theorem k111_12 : decode (q_mB 111) 12 = .ok (.aload_n 0, 1) := by decide +kernel
theorem k111_13 : decode (q_mB 111) 13 = .ok (.getfield 13, 3) := by decide +kernel
theorem k111_16 : decode (q_mB 111) 16 = .ok (.iconst 0, 1) := by decide +kernel
theorem k111_17 : decode (q_mB 111) 17 = .ok (.iaload, 1) := by decide +kernel
theorem k111_18 : decode (q_mB 111) 18 = .ok (.iconst 1, 1) := by decide +kernel
theorem k111_19 : decode (q_mB 111) 19 = .ok (.isub, 1) := by decide +kernel
theorem k111_20 : decode (q_mB 111) 20 = .ok (.if_icmp .ge 7, 3) := by decide +kernel
theorem k111_23 : decode (q_mB 111) 23 = .ok (.iconst 1, 1) := by decide +kernel
theorem k111_24 : decode (q_mB 111) 24 = .ok (.goto 31, 3) := by decide +kernel
theorem k111_27 : decode (q_mB 111) 27 = .ok (.iconst 0, 1) := by decide +kernel
theorem k111_28 : decode (q_mB 111) 28 = .ok (.goto 27, 3) := by decide +kernel
theorem k111_31 : decode (q_mB 111) 31 = .ok (.iload_n 1, 1) := by decide +kernel
theorem k111_32 : decode (q_mB 111) 32 = .ok (.aload_n 0, 1) := by decide +kernel
theorem k111_33 : decode (q_mB 111) 33 = .ok (.getfield 13, 3) := by decide +kernel
theorem k111_36 : decode (q_mB 111) 36 = .ok (.iconst 1, 1) := by decide +kernel
theorem k111_37 : decode (q_mB 111) 37 = .ok (.iaload, 1) := by decide +kernel
theorem k111_38 : decode (q_mB 111) 38 = .ok (.irem, 1) := by decide +kernel
theorem k111_39 : decode (q_mB 111) 39 = .ok (.aload_n 0, 1) := by decide +kernel
theorem k111_40 : decode (q_mB 111) 40 = .ok (.getfield 13, 3) := by decide +kernel
theorem k111_43 : decode (q_mB 111) 43 = .ok (.iconst 1, 1) := by decide +kernel
theorem k111_44 : decode (q_mB 111) 44 = .ok (.iaload, 1) := by decide +kernel
theorem k111_45 : decode (q_mB 111) 45 = .ok (.iconst 1, 1) := by decide +kernel
theorem k111_46 : decode (q_mB 111) 46 = .ok (.isub, 1) := by decide +kernel
theorem k111_47 : decode (q_mB 111) 47 = .ok (.if_icmp .ge 7, 3) := by decide +kernel
theorem k111_50 : decode (q_mB 111) 50 = .ok (.iconst 1, 1) := by decide +kernel
theorem k111_51 : decode (q_mB 111) 51 = .ok (.goto 4, 3) := by decide +kernel
theorem k111_54 : decode (q_mB 111) 54 = .ok (.iconst 0, 1) := by decide +kernel
theorem k111_55 : decode (q_mB 111) 55 = .ok (.istore_n 3, 1) := by decide +kernel
theorem k111_56 : decode (q_mB 111) 56 = .ok (.iload_n 3, 1) := by decide +kernel
theorem k111_57 : decode (q_mB 111) 57 = .ok (.ifCond .ne 6, 3) := by decide +kernel
theorem k111_60 : decode (q_mB 111) 60 = .ok (.bipush (-9), 2) := by decide +kernel
theorem k111_62 : decode (q_mB 111) 62 = .ok (.ireturn, 1) := by decide +kernel
theorem k111_63 : decode (q_mB 111) 63 = .ok (.iload_n 2, 1) := by decide +kernel
theorem k111_64 : decode (q_mB 111) 64 = .ok (.ifCond .ne 14, 3) := by decide +kernel
theorem k111_67 : decode (q_mB 111) 67 = .ok (.iload_n 1, 1) := by decide +kernel
theorem k111_68 : decode (q_mB 111) 68 = .ok (.aload_n 0, 1) := by decide +kernel
theorem k111_69 : decode (q_mB 111) 69 = .ok (.getfield 13, 3) := by decide +kernel
theorem k111_72 : decode (q_mB 111) 72 = .ok (.iconst 1, 1) := by decide +kernel
theorem k111_73 : decode (q_mB 111) 73 = .ok (.iaload, 1) := by decide +kernel
theorem k111_74 : decode (q_mB 111) 74 = .ok (.iadd, 1) := by decide +kernel
theorem k111_75 : decode (q_mB 111) 75 = .ok (.goto 6, 3) := by decide +kernel
theorem k111_78 : decode (q_mB 111) 78 = .ok (.iload_n 1, 1) := by decide +kernel
theorem k111_79 : decode (q_mB 111) 79 = .ok (.iconst 1, 1) := by decide +kernel
theorem k111_80 : decode (q_mB 111) 80 = .ok (.iadd, 1) := by decide +kernel
theorem k111_81 : decode (q_mB 111) 81 = .ok (.istore 4, 2) := by decide +kernel
theorem k111_83 : decode (q_mB 111) 83 = .ok (.aload_n 0, 1) := by decide +kernel
theorem k111_84 : decode (q_mB 111) 84 = .ok (.iload 4, 2) := by decide +kernel
theorem k111_86 : decode (q_mB 111) 86 = .ok (.invokevirtual 106, 3) := by decide +kernel
theorem k111_89 : decode (q_mB 111) 89 = .ok (.iconst 1, 1) := by decide +kernel
theorem k111_90 : decode (q_mB 111) 90 = .ok (.if_icmp .ne 8, 3) := by decide +kernel
theorem k111_93 : decode (q_mB 111) 93 = .ok (.bipush (-9), 2) := by decide +kernel
theorem k111_95 : decode (q_mB 111) 95 = .ok (.goto 5, 3) := by decide +kernel
theorem k111_98 : decode (q_mB 111) 98 = .ok (.iload 4, 2) := by decide +kernel
theorem k111_100 : decode (q_mB 111) 100 = .ok (.ireturn, 1) := by decide +kernel
theorem k112_0 : decode (q_mB 112) 0 = .ok (.aload_n 0, 1) := by decide +kernel
theorem k112_1 : decode (q_mB 112) 1 = .ok (.iload_n 2, 1) := by decide +kernel
theorem k112_2 : decode (q_mB 112) 2 = .ok (.invokevirtual 106, 3) := by decide +kernel
theorem k112_5 : decode (q_mB 112) 5 = .ok (.iconst 3, 1) := by decide +kernel
theorem k112_6 : decode (q_mB 112) 6 = .ok (.if_icmp .ne 66, 3) := by decide +kernel
theorem k112_9 : decode (q_mB 112) 9 = .ok (.sipush 400, 3) := by decide +kernel
theorem k112_12 : decode (q_mB 112) 12 = .ok (.iload_n 1, 1) := by decide +kernel
theorem k112_13 : decode (q_mB 112) 13 = .ok (.imul, 1) := by decide +kernel
theorem k112_14 : decode (q_mB 112) 14 = .ok (.aload_n 0, 1) := by decide +kernel
theorem k112_15 : decode (q_mB 112) 15 = .ok (.getfield 40, 3) := by decide +kernel
theorem k112_18 : decode (q_mB 112) 18 = .ok (.iload_n 1, 1) := by decide +kernel
theorem k112_19 : decode (q_mB 112) 19 = .ok (.iaload, 1) := by decide +kernel
theorem k112_20 : decode (q_mB 112) 20 = .ok (.iadd, 1) := by decide +kernel
theorem k112_21 : decode (q_mB 112) 21 = .ok (.istore 6, 2) := by decide +kernel
theorem k112_23 : decode (q_mB 112) 23 = .ok (.aload_n 0, 1) := by decide +kernel
theorem k112_24 : decode (q_mB 112) 24 = .ok (.getfield 28, 3) := by decide +kernel
theorem k112_27 : decode (q_mB 112) 27 = .ok (.iload 6, 2) := by decide +kernel
theorem k112_29 : decode (q_mB 112) 29 = .ok (.iload_n 3, 1) := by decide +kernel
theorem k112_30 : decode (q_mB 112) 30 = .ok (.iastore, 1) := by decide +kernel
theorem k112_31 : decode (q_mB 112) 31 = .ok (.aload_n 0, 1) := by decide +kernel
theorem k112_32 : decode (q_mB 112) 32 = .ok (.getfield 31, 3) := by decide +kernel
theorem k112_35 : decode (q_mB 112) 35 = .ok (.iload 6, 2) := by decide +kernel
theorem k112_37 : decode (q_mB 112) 37 = .ok (.iload 4, 2) := by decide +kernel
theorem k112_39 : decode (q_mB 112) 39 = .ok (.iastore, 1) := by decide +kernel
theorem k112_40 : decode (q_mB 112) 40 = .ok (.aload_n 0, 1) := by decide +kernel
theorem k112_41 : decode (q_mB 112) 41 = .ok (.getfield 34, 3) := by decide +kernel
theorem k112_44 : decode (q_mB 112) 44 = .ok (.iload 6, 2) := by decide +kernel
theorem k112_46 : decode (q_mB 112) 46 = .ok (.iload 5, 2) := by decide +kernel
theorem k112_48 : decode (q_mB 112) 48 = .ok (.iastore, 1) := by decide +kernel
theorem k112_49 : decode (q_mB 112) 49 = .ok (.aload_n 0, 1) := by decide +kernel
theorem k112_50 : decode (q_mB 112) 50 = .ok (.getfield 37, 3) := by decide +kernel
theorem k112_53 : decode (q_mB 112) 53 = .ok (.iload 6, 2) := by decide +kernel
theorem k112_55 : decode (q_mB 112) 55 = .ok (.aload_n 0, 1) := by decide +kernel
theorem k112_56 : decode (q_mB 112) 56 = .ok (.iload_n 2, 1) := by decide +kernel
theorem k112_57 : decode (q_mB 112) 57 = .ok (.invokevirtual 109, 3) := by decide +kernel
theorem k112_60 : decode (q_mB 112) 60 = .ok (.iastore, 1) := by decide +kernel
theorem k112_61 : decode (q_mB 112) 61 = .ok (.aload_n 0, 1) := by decide +kernel
theorem k112_62 : decode (q_mB 112) 62 = .ok (.getfield 40, 3) := by decide +kernel
theorem k112_65 : decode (q_mB 112) 65 = .ok (.iload_n 1, 1) := by decide +kernel
theorem k112_66 : decode (q_mB 112) 66 = .ok (.dup2, 1) := by decide +kernel
theorem k112_67 : decode (q_mB 112) 67 = .ok (.iaload, 1) := by decide +kernel
theorem k112_68 : decode (q_mB 112) 68 = .ok (.iconst 1, 1) := by decide +kernel
theorem k112_69 : decode (q_mB 112) 69 = .ok (.iadd, 1) := by decide +kernel
theorem k112_70 : decode (q_mB 112) 70 = .ok (.iastore, 1) := by decide +kernel
theorem k112_71 : decode (q_mB 112) 71 = .ok (.return_, 1) := by decide +kernel
theorem k112_72 : decode (q_mB 112) 72 = .ok (.iload 5, 2) := by decide +kernel
theorem k112_74 : decode (q_mB 112) 74 = .ok (.ifCond .le 13, 3) := by decide +kernel
theorem k112_77 : decode (q_mB 112) 77 = .ok (.aload_n 0, 1) := by decide +kernel
theorem k112_78 : decode (q_mB 112) 78 = .ok (.iload_n 2, 1) := by decide +kernel
theorem k112_79 : decode (q_mB 112) 79 = .ok (.invokevirtual 106, 3) := by decide +kernel
theorem k112_82 : decode (q_mB 112) 82 = .ok (.iconst 2, 1) := by decide +kernel
theorem k112_83 : decode (q_mB 112) 83 = .ok (.if_icmp .ne 4, 3) := by decide +kernel
theorem k112_86 : decode (q_mB 112) 86 = .ok (.return_, 1) := by decide +kernel
theorem k112_87 : decode (q_mB 112) 87 = .ok (.iconst 0, 1) := by decide +kernel
theorem k112_88 : decode (q_mB 112) 88 = .ok (.istore 6, 2) := by decide +kernel
theorem k112_90 : decode (q_mB 112) 90 = .ok (.iload 6, 2) := by decide +kernel
theorem k112_92 : decode (q_mB 112) 92 = .ok (.iconst 2, 1) := by decide +kernel
theorem k112_93 : decode (q_mB 112) 93 = .ok (.if_icmp .ge 48, 3) := by decide +kernel
theorem k112_96 : decode (q_mB 112) 96 = .ok (.aload_n 0, 1) := by decide +kernel
theorem k112_97 : decode (q_mB 112) 97 = .ok (.iload_n 2, 1) := by decide +kernel
theorem k112_98 : decode (q_mB 112) 98 = .ok (.iload 6, 2) := by decide +kernel
theorem k112_100 : decode (q_mB 112) 100 = .ok (.invokevirtual 112, 3) := by decide +kernel
theorem k112_103 : decode (q_mB 112) 103 = .ok (.istore 7, 2) := by decide +kernel
theorem k112_105 : decode (q_mB 112) 105 = .ok (.iload 7, 2) := by decide +kernel
theorem k112_107 : decode (q_mB 112) 107 = .ok (.ifCond .lt 28, 3) := by decide +kernel
theorem k112_110 : decode (q_mB 112) 110 = .ok (.aload_n 0, 1) := by decide +kernel
theorem k112_111 : decode (q_mB 112) 111 = .ok (.iload_n 1, 1) := by decide +kernel
theorem k112_112 : decode (q_mB 112) 112 = .ok (.iload 7, 2) := by decide +kernel
theorem k112_114 : decode (q_mB 112) 114 = .ok (.iload_n 3, 1) := by decide +kernel
theorem k112_115 : decode (q_mB 112) 115 = .ok (.iconst 1, 1) := by decide +kernel
theorem k112_116 : decode (q_mB 112) 116 = .ok (.iload 7, 2) := by decide +kernel
theorem k112_118 : decode (q_mB 112) 118 = .ok (.ishl, 1) := by decide +kernel
theorem k112_119 : decode (q_mB 112) 119 = .ok (.ior, 1) := by decide +kernel
theorem k112_120 : decode (q_mB 112) 120 = .ok (.iload 4, 2) := by decide +kernel
theorem k112_122 : decode (q_mB 112) 122 = .ok (.iload 6, 2) := by decide +kernel
theorem k112_124 : decode (q_mB 112) 124 = .ok (.iload 5, 2) := by decide +kernel
theorem k112_126 : decode (q_mB 112) 126 = .ok (.ishl, 1) := by decide +kernel
theorem k112_127 : decode (q_mB 112) 127 = .ok (.ior, 1) := by decide +kernel
theorem k112_128 : decode (q_mB 112) 128 = .ok (.iload 5, 2) := by decide +kernel
theorem k112_130 : decode (q_mB 112) 130 = .ok (.iconst 1, 1) := by decide +kernel
theorem k112_131 : decode (q_mB 112) 131 = .ok (.iadd, 1) := by decide +kernel
theorem k112_132 : decode (q_mB 112) 132 = .ok (.invokevirtual 116, 3) := by decide +kernel
theorem k112_135 : decode (q_mB 112) 135 = .ok (.iinc 6 1, 3) := by decide +kernel
theorem k112_138 : decode (q_mB 112) 138 = .ok (.goto (-48), 3) := by decide +kernel
theorem k112_141 : decode (q_mB 112) 141 = .ok (.return_, 1) := by decide +kernel
theorem k113_0 : decode (q_mB 113) 0 = .ok (.iconst 0, 1) := by decide +kernel
theorem k113_1 : decode (q_mB 113) 1 = .ok (.istore_n 1, 1) := by decide +kernel
theorem k113_2 : decode (q_mB 113) 2 = .ok (.iload_n 1, 1) := by decide +kernel
theorem k113_3 : decode (q_mB 113) 3 = .ok (.aload_n 0, 1) := by decide +kernel
theorem k113_4 : decode (q_mB 113) 4 = .ok (.getfield 13, 3) := by decide +kernel
theorem k113_7 : decode (q_mB 113) 7 = .ok (.iconst 2, 1) := by decide +kernel
theorem k113_8 : decode (q_mB 113) 8 = .ok (.iaload, 1) := by decide +kernel
theorem k113_9 : decode (q_mB 113) 9 = .ok (.if_icmp .ge 34, 3) := by decide +kernel
theorem k113_12 : decode (q_mB 113) 12 = .ok (.aload_n 0, 1) := by decide +kernel
theorem k113_13 : decode (q_mB 113) 13 = .ok (.getfield 40, 3) := by decide +kernel
theorem k113_16 : decode (q_mB 113) 16 = .ok (.iload_n 1, 1) := by decide +kernel
theorem k113_17 : decode (q_mB 113) 17 = .ok (.iconst 0, 1) := by decide +kernel
theorem k113_18 : decode (q_mB 113) 18 = .ok (.iastore, 1) := by decide +kernel
theorem k113_19 : decode (q_mB 113) 19 = .ok (.aload_n 0, 1) := by decide +kernel
theorem k113_20 : decode (q_mB 113) 20 = .ok (.iconst 2, 1) := by decide +kernel
theorem k113_21 : decode (q_mB 113) 21 = .ok (.iload_n 1, 1) := by decide +kernel
theorem k113_22 : decode (q_mB 113) 22 = .ok (.invokevirtual 120, 3) := by decide +kernel
theorem k113_25 : decode (q_mB 113) 25 = .ok (.istore_n 2, 1) := by decide +kernel
theorem k113_26 : decode (q_mB 113) 26 = .ok (.aload_n 0, 1) := by decide +kernel
theorem k113_27 : decode (q_mB 113) 27 = .ok (.iload_n 1, 1) := by decide +kernel
theorem k113_28 : decode (q_mB 113) 28 = .ok (.iload_n 2, 1) := by decide +kernel
theorem k113_29 : decode (q_mB 113) 29 = .ok (.iconst 1, 1) := by decide +kernel
theorem k113_30 : decode (q_mB 113) 30 = .ok (.iload_n 2, 1) := by decide +kernel
theorem k113_31 : decode (q_mB 113) 31 = .ok (.ishl, 1) := by decide +kernel
theorem k113_32 : decode (q_mB 113) 32 = .ok (.iconst 0, 1) := by decide +kernel
theorem k113_33 : decode (q_mB 113) 33 = .ok (.iconst 0, 1) := by decide +kernel
theorem k113_34 : decode (q_mB 113) 34 = .ok (.invokevirtual 116, 3) := by decide +kernel
theorem k113_37 : decode (q_mB 113) 37 = .ok (.iinc 1 1, 3) := by decide +kernel
theorem k113_40 : decode (q_mB 113) 40 = .ok (.goto (-38), 3) := by decide +kernel
theorem k113_43 : decode (q_mB 113) 43 = .ok (.return_, 1) := by decide +kernel
theorem k114_0 : decode (q_mB 114) 0 = .ok (.iload_n 1, 1) := by decide +kernel
theorem k114_1 : decode (q_mB 114) 1 = .ok (.iload_n 2, 1) := by decide +kernel
theorem k114_2 : decode (q_mB 114) 2 = .ok (.if_icmp .ne 5, 3) := by decide +kernel
theorem k114_5 : decode (q_mB 114) 5 = .ok (.iconst 1, 1) := by decide +kernel
theorem k114_6 : decode (q_mB 114) 6 = .ok (.ireturn, 1) := by decide +kernel
theorem k114_7 : decode (q_mB 114) 7 = .ok (.iconst 0, 1) := by decide +kernel
theorem k114_8 : decode (q_mB 114) 8 = .ok (.istore_n 3, 1) := by decide +kernel
theorem k114_9 : decode (q_mB 114) 9 = .ok (.iconst 0, 1) := by decide +kernel
theorem k114_10 : decode (q_mB 114) 10 = .ok (.istore 4, 2) := by decide +kernel
theorem k114_12 : decode (q_mB 114) 12 = .ok (.iload 4, 2) := by decide +kernel
theorem k114_14 : decode (q_mB 114) 14 = .ok (.iconst 2, 1) := by decide +kernel
theorem k114_15 : decode (q_mB 114) 15 = .ok (.if_icmp .ge 33, 3) := by decide +kernel
theorem k114_18 : decode (q_mB 114) 18 = .ok (.aload_n 0, 1) := by decide +kernel
theorem k114_19 : decode (q_mB 114) 19 = .ok (.iload_n 1, 1) := by decide +kernel
theorem k114_20 : decode (q_mB 114) 20 = .ok (.iload 4, 2) := by decide +kernel
theorem k114_22 : decode (q_mB 114) 22 = .ok (.invokevirtual 112, 3) := by decide +kernel
theorem k114_25 : decode (q_mB 114) 25 = .ok (.istore 5, 2) := by decide +kernel
theorem k114_27 : decode (q_mB 114) 27 = .ok (.iload 5, 2) := by decide +kernel
theorem k114_29 : decode (q_mB 114) 29 = .ok (.ifCond .lt 13, 3) := by decide +kernel
theorem k114_32 : decode (q_mB 114) 32 = .ok (.iload_n 3, 1) := by decide +kernel
theorem k114_33 : decode (q_mB 114) 33 = .ok (.aload_n 0, 1) := by decide +kernel
theorem k114_34 : decode (q_mB 114) 34 = .ok (.iload 5, 2) := by decide +kernel
theorem k114_36 : decode (q_mB 114) 36 = .ok (.iload_n 2, 1) := by decide +kernel
theorem k114_37 : decode (q_mB 114) 37 = .ok (.invokevirtual 123, 3) := by decide +kernel
theorem k114_40 : decode (q_mB 114) 40 = .ok (.iadd, 1) := by decide +kernel
theorem k114_41 : decode (q_mB 114) 41 = .ok (.istore_n 3, 1) := by decide +kernel
theorem k114_42 : decode (q_mB 114) 42 = .ok (.iinc 4 1, 3) := by decide +kernel
theorem k114_45 : decode (q_mB 114) 45 = .ok (.goto (-33), 3) := by decide +kernel
theorem k114_48 : decode (q_mB 114) 48 = .ok (.iload_n 3, 1) := by decide +kernel
theorem k114_49 : decode (q_mB 114) 49 = .ok (.ireturn, 1) := by decide +kernel
theorem k115_0 : decode (q_mB 115) 0 = .ok (.aload_n 0, 1) := by decide +kernel
theorem k115_1 : decode (q_mB 115) 1 = .ok (.aload_n 0, 1) := by decide +kernel
theorem k115_2 : decode (q_mB 115) 2 = .ok (.iconst 2, 1) := by decide +kernel
theorem k115_3 : decode (q_mB 115) 3 = .ok (.iload_n 1, 1) := by decide +kernel
theorem k115_4 : decode (q_mB 115) 4 = .ok (.invokevirtual 120, 3) := by decide +kernel
theorem k115_7 : decode (q_mB 115) 7 = .ok (.aload_n 0, 1) := by decide +kernel
theorem k115_8 : decode (q_mB 115) 8 = .ok (.iconst 3, 1) := by decide +kernel
theorem k115_9 : decode (q_mB 115) 9 = .ok (.iload_n 2, 1) := by decide +kernel
theorem k115_10 : decode (q_mB 115) 10 = .ok (.invokevirtual 120, 3) := by decide +kernel
theorem k115_13 : decode (q_mB 115) 13 = .ok (.invokevirtual 123, 3) := by decide +kernel
theorem k115_16 : decode (q_mB 115) 16 = .ok (.ireturn, 1) := by decide +kernel
