theorem k53_0 : decode (q_mB 53) 0 = .ok (.aload_n 0, 1) := by decide +kernel
theorem k53_1 : decode (q_mB 53) 1 = .ok (.invokevirtual 137, 3) := by decide +kernel
theorem k53_4 : decode (q_mB 53) 4 = .ok (.ifCond .ne 10, 3) := by decide +kernel
theorem k53_7 : decode (q_mB 53) 7 = .ok (.aload_n 0, 1) := by decide +kernel
theorem k53_8 : decode (q_mB 53) 8 = .ok (.bipush (-3), 2) := by decide +kernel
theorem k53_10 : decode (q_mB 53) 10 = .ok (.invokevirtual 100, 3) := by decide +kernel
theorem k53_13 : decode (q_mB 53) 13 = .ok (.ireturn, 1) := by decide +kernel
theorem k53_14 : decode (q_mB 53) 14 = .ok (.iload_n 1, 1) := by decide +kernel
theorem k53_15 : decode (q_mB 53) 15 = .ok (.aload_n 0, 1) := by decide +kernel
theorem k53_16 : decode (q_mB 53) 16 = .ok (.getfield 26, 3) := by decide +kernel
theorem k53_19 : decode (q_mB 53) 19 = .ok (.getfield 63, 3) := by decide +kernel
theorem k53_22 : decode (q_mB 53) 22 = .ok (.getfield 141, 3) := by decide +kernel
theorem k53_25 : decode (q_mB 53) 25 = .ok (.invokestatic 144, 3) := by decide +kernel
theorem k53_28 : decode (q_mB 53) 28 = .ok (.istore_n 2, 1) := by decide +kernel
theorem k53_29 : decode (q_mB 53) 29 = .ok (.iload_n 2, 1) := by decide +kernel
theorem k53_30 : decode (q_mB 53) 30 = .ok (.ifCond .ge 9, 3) := by decide +kernel
theorem k53_33 : decode (q_mB 53) 33 = .ok (.aload_n 0, 1) := by decide +kernel
theorem k53_34 : decode (q_mB 53) 34 = .ok (.iconst (-1), 1) := by decide +kernel
theorem k53_35 : decode (q_mB 53) 35 = .ok (.invokevirtual 100, 3) := by decide +kernel
theorem k53_38 : decode (q_mB 53) 38 = .ok (.ireturn, 1) := by decide +kernel
theorem k53_39 : decode (q_mB 53) 39 = .ok (.aload_n 0, 1) := by decide +kernel
theorem k53_40 : decode (q_mB 53) 40 = .ok (.invokevirtual 171, 3) := by decide +kernel
theorem k53_43 : decode (q_mB 53) 43 = .ok (.iconst 1, 1) := by decide +kernel
theorem k53_44 : decode (q_mB 53) 44 = .ok (.iload_n 2, 1) := by decide +kernel
theorem k53_45 : decode (q_mB 53) 45 = .ok (.ishl, 1) := by decide +kernel
theorem k53_46 : decode (q_mB 53) 46 = .ok (.invokevirtual 175, 3) := by decide +kernel
theorem k53_49 : decode (q_mB 53) 49 = .ok (.ireturn, 1) := by decide +kernel
theorem k54_0 : decode (q_mB 54) 0 = .ok (.aload_n 0, 1) := by decide +kernel
theorem k54_1 : decode (q_mB 54) 1 = .ok (.invokevirtual 137, 3) := by decide +kernel
theorem k54_4 : decode (q_mB 54) 4 = .ok (.ifCond .ne 10, 3) := by decide +kernel
theorem k54_7 : decode (q_mB 54) 7 = .ok (.aload_n 0, 1) := by decide +kernel
theorem k54_8 : decode (q_mB 54) 8 = .ok (.bipush (-3), 2) := by decide +kernel
theorem k54_10 : decode (q_mB 54) 10 = .ok (.invokevirtual 100, 3) := by decide +kernel
theorem k54_13 : decode (q_mB 54) 13 = .ok (.ireturn, 1) := by decide +kernel
theorem k54_14 : decode (q_mB 54) 14 = .ok (.aload_n 0, 1) := by decide +kernel
theorem k54_15 : decode (q_mB 54) 15 = .ok (.invokevirtual 171, 3) := by decide +kernel
theorem k54_18 : decode (q_mB 54) 18 = .ok (.aload_n 0, 1) := by decide +kernel
theorem k54_19 : decode (q_mB 54) 19 = .ok (.invokevirtual 178, 3) := by decide +kernel
theorem k54_22 : decode (q_mB 54) 22 = .ok (.invokevirtual 181, 3) := by decide +kernel
theorem k54_25 : decode (q_mB 54) 25 = .ok (.ireturn, 1) := by decide +kernel
theorem k55_0 : decode (q_mB 55) 0 = .ok (.aload_n 0, 1) := by decide +kernel
theorem k55_1 : decode (q_mB 55) 1 = .ok (.getfield 26, 3) := by decide +kernel
theorem k55_4 : decode (q_mB 55) 4 = .ok (.getfield 63, 3) := by decide +kernel
theorem k55_7 : decode (q_mB 55) 7 = .ok (.iload_n 1, 1) := by decide +kernel
theorem k55_8 : decode (q_mB 55) 8 = .ok (.invokevirtual 121, 3) := by decide +kernel
theorem k55_11 : decode (q_mB 55) 11 = .ok (.ifCond .ne 9, 3) := by decide +kernel
theorem k55_14 : decode (q_mB 55) 14 = .ok (.aload_n 0, 1) := by decide +kernel
theorem k55_15 : decode (q_mB 55) 15 = .ok (.iconst (-1), 1) := by decide +kernel
theorem k55_16 : decode (q_mB 55) 16 = .ok (.invokevirtual 100, 3) := by decide +kernel
theorem k55_19 : decode (q_mB 55) 19 = .ok (.ireturn, 1) := by decide +kernel
theorem k55_20 : decode (q_mB 55) 20 = .ok (.iload_n 2, 1) := by decide +kernel
theorem k55_21 : decode (q_mB 55) 21 = .ok (.ifCond .lt 8, 3) := by decide +kernel
theorem k55_24 : decode (q_mB 55) 24 = .ok (.iload_n 2, 1) := by decide +kernel
theorem k55_25 : decode (q_mB 55) 25 = .ok (.iconst 1, 1) := by decide +kernel
theorem k55_26 : decode (q_mB 55) 26 = .ok (.if_icmp .le 10, 3) := by decide +kernel
theorem k55_29 : decode (q_mB 55) 29 = .ok (.aload_n 0, 1) := by decide +kernel
theorem k55_30 : decode (q_mB 55) 30 = .ok (.bipush (-2), 2) := by decide +kernel
theorem k55_32 : decode (q_mB 55) 32 = .ok (.invokevirtual 100, 3) := by decide +kernel
theorem k55_35 : decode (q_mB 55) 35 = .ok (.ireturn, 1) := by decide +kernel
theorem k55_36 : decode (q_mB 55) 36 = .ok (.aload_n 0, 1) := by decide +kernel
theorem k55_37 : decode (q_mB 55) 37 = .ok (.iload_n 1, 1) := by decide +kernel
theorem k55_38 : decode (q_mB 55) 38 = .ok (.invokevirtual 184, 3) := by decide +kernel
theorem k55_41 : decode (q_mB 55) 41 = .ok (.istore_n 3, 1) := by decide +kernel
theorem k55_42 : decode (q_mB 55) 42 = .ok (.iload_n 3, 1) := by decide +kernel
theorem k55_43 : decode (q_mB 55) 43 = .ok (.ifCond .ne 7, 3) := by decide +kernel
theorem k55_46 : decode (q_mB 55) 46 = .ok (.iconst 1, 1) := by decide +kernel
theorem k55_47 : decode (q_mB 55) 47 = .ok (.goto 7, 3) := by decide +kernel
theorem k55_50 : decode (q_mB 55) 50 = .ok (.aload_n 0, 1) := by decide +kernel
theorem k55_51 : decode (q_mB 55) 51 = .ok (.invokevirtual 157, 3) := by decide +kernel
theorem k55_54 : decode (q_mB 55) 54 = .ok (.istore 4, 2) := by decide +kernel
theorem k55_56 : decode (q_mB 55) 56 = .ok (.iload 4, 2) := by decide +kernel
theorem k55_58 : decode (q_mB 55) 58 = .ok (.iload_n 3, 1) := by decide +kernel
theorem k55_59 : decode (q_mB 55) 59 = .ok (.invokestatic 187, 3) := by decide +kernel
theorem k55_62 : decode (q_mB 55) 62 = .ok (.istore 5, 2) := by decide +kernel
theorem k55_64 : decode (q_mB 55) 64 = .ok (.iload_n 2, 1) := by decide +kernel
theorem k55_65 : decode (q_mB 55) 65 = .ok (.ifCond .ne 7, 3) := by decide +kernel
theorem k55_68 : decode (q_mB 55) 68 = .ok (.iload_n 3, 1) := by decide +kernel
theorem k55_69 : decode (q_mB 55) 69 = .ok (.goto 5, 3) := by decide +kernel
theorem k55_72 : decode (q_mB 55) 72 = .ok (.iload 4, 2) := by decide +kernel
theorem k55_74 : decode (q_mB 55) 74 = .ok (.iload 5, 2) := by decide +kernel
theorem k55_76 : decode (q_mB 55) 76 = .ok (.idiv, 1) := by decide +kernel
theorem k55_77 : decode (q_mB 55) 77 = .ok (.ireturn, 1) := by decide +kernel
theorem k56_0 : decode (q_mB 56) 0 = .ok (.aload_n 0, 1) := by decide +kernel
theorem k56_1 : decode (q_mB 56) 1 = .ok (.getfield 26, 3) := by decide +kernel
theorem k56_4 : decode (q_mB 56) 4 = .ok (.getfield 63, 3) := by decide +kernel
theorem k56_7 : decode (q_mB 56) 7 = .ok (.iload_n 2, 1) := by decide +kernel
theorem k56_8 : decode (q_mB 56) 8 = .ok (.invokevirtual 151, 3) := by decide +kernel
theorem k56_11 : decode (q_mB 56) 11 = .ok (.ifCond .ne 9, 3) := by decide +kernel
theorem k56_14 : decode (q_mB 56) 14 = .ok (.aload_n 0, 1) := by decide +kernel
theorem k56_15 : decode (q_mB 56) 15 = .ok (.iconst (-1), 1) := by decide +kernel
theorem k56_16 : decode (q_mB 56) 16 = .ok (.invokevirtual 100, 3) := by decide +kernel
theorem k56_19 : decode (q_mB 56) 19 = .ok (.ireturn, 1) := by decide +kernel
theorem k56_20 : decode (q_mB 56) 20 = .ok (.iload_n 1, 1) := by decide +kernel
theorem k56_21 : decode (q_mB 56) 21 = .ok (.ifCond .lt 7, 3) := by decide +kernel
theorem k56_24 : decode (q_mB 56) 24 = .ok (.iload_n 3, 1) := by decide +kernel
theorem k56_25 : decode (q_mB 56) 25 = .ok (.ifCond .ge 10, 3) := by decide +kernel
theorem k56_28 : decode (q_mB 56) 28 = .ok (.aload_n 0, 1) := by decide +kernel
theorem k56_29 : decode (q_mB 56) 29 = .ok (.bipush (-4), 2) := by decide +kernel
theorem k56_31 : decode (q_mB 56) 31 = .ok (.invokevirtual 100, 3) := by decide +kernel
theorem k56_34 : decode (q_mB 56) 34 = .ok (.ireturn, 1) := by decide +kernel
theorem k56_35 : decode (q_mB 56) 35 = .ok (.aload_n 0, 1) := by decide +kernel
theorem k56_36 : decode (q_mB 56) 36 = .ok (.iload_n 1, 1) := by decide +kernel
theorem k56_37 : decode (q_mB 56) 37 = .ok (.aload_n 0, 1) := by decide +kernel
theorem k56_38 : decode (q_mB 56) 38 = .ok (.invokevirtual 157, 3) := by decide +kernel
theorem k56_41 : decode (q_mB 56) 41 = .ok (.iload_n 2, 1) := by decide +kernel
theorem k56_42 : decode (q_mB 56) 42 = .ok (.iload_n 3, 1) := by decide +kernel
theorem k56_43 : decode (q_mB 56) 43 = .ok (.invokevirtual 190, 3) := by decide +kernel
theorem k56_46 : decode (q_mB 56) 46 = .ok (.ireturn, 1) := by decide +kernel
theorem k57_0 : decode (q_mB 57) 0 = .ok (.aload_n 0, 1) := by decide +kernel
theorem k57_1 : decode (q_mB 57) 1 = .ok (.getfield 26, 3) := by decide +kernel
theorem k57_4 : decode (q_mB 57) 4 = .ok (.getfield 63, 3) := by decide +kernel
theorem k57_7 : decode (q_mB 57) 7 = .ok (.iload_n 2, 1) := by decide +kernel
theorem k57_8 : decode (q_mB 57) 8 = .ok (.invokevirtual 151, 3) := by decide +kernel
theorem k57_11 : decode (q_mB 57) 11 = .ok (.ifCond .ne 9, 3) := by decide +kernel
theorem k57_14 : decode (q_mB 57) 14 = .ok (.aload_n 0, 1) := by decide +kernel
theorem k57_15 : decode (q_mB 57) 15 = .ok (.iconst (-1), 1) := by decide +kernel
theorem k57_16 : decode (q_mB 57) 16 = .ok (.invokevirtual 100, 3) := by decide +kernel
theorem k57_19 : decode (q_mB 57) 19 = .ok (.ireturn, 1) := by decide +kernel
theorem k57_20 : decode (q_mB 57) 20 = .ok (.iload_n 3, 1) := by decide +kernel
theorem k57_21 : decode (q_mB 57) 21 = .ok (.ifCond .ge 10, 3) := by decide +kernel
theorem k57_24 : decode (q_mB 57) 24 = .ok (.aload_n 0, 1) := by decide +kernel
theorem k57_25 : decode (q_mB 57) 25 = .ok (.bipush (-4), 2) := by decide +kernel
theorem k57_27 : decode (q_mB 57) 27 = .ok (.invokevirtual 100, 3) := by decide +kernel
theorem k57_30 : decode (q_mB 57) 30 = .ok (.ireturn, 1) := by decide +kernel
theorem k57_31 : decode (q_mB 57) 31 = .ok (.aload_n 0, 1) := by decide +kernel
theorem k57_32 : decode (q_mB 57) 32 = .ok (.invokevirtual 157, 3) := by decide +kernel
theorem k57_35 : decode (q_mB 57) 35 = .ok (.istore 4, 2) := by decide +kernel
theorem k57_37 : decode (q_mB 57) 37 = .ok (.iload 4, 2) := by decide +kernel
theorem k57_39 : decode (q_mB 57) 39 = .ok (.iconst 1, 1) := by decide +kernel
theorem k57_40 : decode (q_mB 57) 40 = .ok (.if_icmp .ge 6, 3) := by decide +kernel
theorem k57_43 : decode (q_mB 57) 43 = .ok (.bipush (-9), 2) := by decide +kernel
theorem k57_45 : decode (q_mB 57) 45 = .ok (.ireturn, 1) := by decide +kernel
theorem k57_46 : decode (q_mB 57) 46 = .ok (.aload_n 0, 1) := by decide +kernel
theorem k57_47 : decode (q_mB 57) 47 = .ok (.iload 4, 2) := by decide +kernel
theorem k57_49 : decode (q_mB 57) 49 = .ok (.iload_n 1, 1) := by decide +kernel
theorem k57_50 : decode (q_mB 57) 50 = .ok (.invokestatic 194, 3) := by decide +kernel
theorem k57_53 : decode (q_mB 57) 53 = .ok (.iload 4, 2) := by decide +kernel
theorem k57_55 : decode (q_mB 57) 55 = .ok (.iload_n 2, 1) := by decide +kernel
theorem k57_56 : decode (q_mB 57) 56 = .ok (.iload_n 3, 1) := by decide +kernel
theorem k57_57 : decode (q_mB 57) 57 = .ok (.invokevirtual 190, 3) := by decide +kernel
theorem k57_60 : decode (q_mB 57) 60 = .ok (.ireturn, 1) := by decide +kernel
theorem k58_0 : decode (q_mB 58) 0 = .ok (.aload_n 0, 1) := by decide +kernel
theorem k58_1 : decode (q_mB 58) 1 = .ok (.invokevirtual 171, 3) := by decide +kernel
theorem k58_4 : decode (q_mB 58) 4 = .ok (.getfield 197, 3) := by decide +kernel
theorem k58_7 : decode (q_mB 58) 7 = .ok (.ireturn, 1) := by decide +kernel
theorem k59_0 : decode (q_mB 59) 0 = .ok (.aload_n 0, 1) := by decide +kernel
theorem k59_1 : decode (q_mB 59) 1 = .ok (.invokevirtual 171, 3) := by decide +kernel
theorem k59_4 : decode (q_mB 59) 4 = .ok (.getfield 200, 3) := by decide +kernel
theorem k59_7 : decode (q_mB 59) 7 = .ok (.ireturn, 1) := by decide +kernel
theorem k60_0 : decode (q_mB 60) 0 = .ok (.aload_n 0, 1) := by decide +kernel
theorem k60_1 : decode (q_mB 60) 1 = .ok (.getfield 26, 3) := by decide +kernel
theorem k60_4 : decode (q_mB 60) 4 = .ok (.getfield 63, 3) := by decide +kernel
theorem k60_7 : decode (q_mB 60) 7 = .ok (.iload_n 1, 1) := by decide +kernel
theorem k60_8 : decode (q_mB 60) 8 = .ok (.invokevirtual 121, 3) := by decide +kernel
theorem k60_11 : decode (q_mB 60) 11 = .ok (.ifCond .ne 9, 3) := by decide +kernel
theorem k60_14 : decode (q_mB 60) 14 = .ok (.aload_n 0, 1) := by decide +kernel
theorem k60_15 : decode (q_mB 60) 15 = .ok (.iconst (-1), 1) := by decide +kernel
theorem k60_16 : decode (q_mB 60) 16 = .ok (.invokevirtual 100, 3) := by decide +kernel
theorem k60_19 : decode (q_mB 60) 19 = .ok (.ireturn, 1) := by decide +kernel
theorem k60_20 : decode (q_mB 60) 20 = .ok (.aload_n 0, 1) := by decide +kernel
theorem k60_21 : decode (q_mB 60) 21 = .ok (.getfield 26, 3) := by decide +kernel
theorem k60_24 : decode (q_mB 60) 24 = .ok (.getfield 203, 3) := by decide +kernel
theorem k60_27 : decode (q_mB 60) 27 = .ok (.iconst 4, 1) := by decide +kernel
theorem k60_28 : decode (q_mB 60) 28 = .ok (.if_icmp .lt 10, 3) := by decide +kernel
theorem k60_31 : decode (q_mB 60) 31 = .ok (.aload_n 0, 1) := by decide +kernel
theorem k60_32 : decode (q_mB 60) 32 = .ok (.bipush (-6), 2) := by decide +kernel
theorem k60_34 : decode (q_mB 60) 34 = .ok (.invokevirtual 100, 3) := by decide +kernel
theorem k60_37 : decode (q_mB 60) 37 = .ok (.ireturn, 1) := by decide +kernel
theorem k60_38 : decode (q_mB 60) 38 = .ok (.aload_n 0, 1) := by decide +kernel
theorem k60_39 : decode (q_mB 60) 39 = .ok (.getfield 26, 3) := by decide +kernel
theorem k60_42 : decode (q_mB 60) 42 = .ok (.getfield 206, 3) := by decide +kernel
theorem k60_45 : decode (q_mB 60) 45 = .ok (.aload_n 0, 1) := by decide +kernel
theorem k60_46 : decode (q_mB 60) 46 = .ok (.getfield 26, 3) := by decide +kernel
theorem k60_49 : decode (q_mB 60) 49 = .ok (.getfield 203, 3) := by decide +kernel
theorem k60_52 : decode (q_mB 60) 52 = .ok (.iload_n 1, 1) := by decide +kernel
theorem k60_53 : decode (q_mB 60) 53 = .ok (.iastore, 1) := by decide +kernel
theorem k60_54 : decode (q_mB 60) 54 = .ok (.aload_n 0, 1) := by decide +kernel
theorem k60_55 : decode (q_mB 60) 55 = .ok (.getfield 26, 3) := by decide +kernel
theorem k60_58 : decode (q_mB 60) 58 = .ok (.dup, 1) := by decide +kernel
theorem k60_59 : decode (q_mB 60) 59 = .ok (.getfield 203, 3) := by decide +kernel
theorem k60_62 : decode (q_mB 60) 62 = .ok (.iconst 1, 1) := by decide +kernel
theorem k60_63 : decode (q_mB 60) 63 = .ok (.iadd, 1) := by decide +kernel
theorem k60_64 : decode (q_mB 60) 64 = .ok (.putfield 203, 3) := by decide +kernel
theorem k60_67 : decode (q_mB 60) 67 = .ok (.aload_n 0, 1) := by decide +kernel
theorem k60_68 : decode (q_mB 60) 68 = .ok (.getfield 26, 3) := by decide +kernel
theorem k60_71 : decode (q_mB 60) 71 = .ok (.getfield 203, 3) := by decide +kernel
theorem k60_74 : decode (q_mB 60) 74 = .ok (.ireturn, 1) := by decide +kernel
theorem k61_0 : decode (q_mB 61) 0 = .ok (.aload_n 0, 1) := by decide +kernel
theorem k61_1 : decode (q_mB 61) 1 = .ok (.invokevirtual 137, 3) := by decide +kernel
theorem k61_4 : decode (q_mB 61) 4 = .ok (.ifCond .ne 10, 3) := by decide +kernel
theorem k61_7 : decode (q_mB 61) 7 = .ok (.aload_n 0, 1) := by decide +kernel
theorem k61_8 : decode (q_mB 61) 8 = .ok (.bipush (-3), 2) := by decide +kernel
theorem k61_10 : decode (q_mB 61) 10 = .ok (.invokevirtual 100, 3) := by decide +kernel
theorem k61_13 : decode (q_mB 61) 13 = .ok (.ireturn, 1) := by decide +kernel
theorem k61_14 : decode (q_mB 61) 14 = .ok (.aload_n 0, 1) := by decide +kernel
theorem k61_15 : decode (q_mB 61) 15 = .ok (.getfield 26, 3) := by decide +kernel
theorem k61_18 : decode (q_mB 61) 18 = .ok (.invokevirtual 209, 3) := by decide +kernel
theorem k61_21 : decode (q_mB 61) 21 = .ok (.istore_n 1, 1) := by decide +kernel
theorem k61_22 : decode (q_mB 61) 22 = .ok (.iload_n 1, 1) := by decide +kernel
theorem k61_23 : decode (q_mB 61) 23 = .ok (.ifCond .ne 8, 3) := by decide +kernel
theorem k61_26 : decode (q_mB 61) 26 = .ok (.aload_n 0, 1) := by decide +kernel
theorem k61_27 : decode (q_mB 61) 27 = .ok (.invokevirtual 157, 3) := by decide +kernel
theorem k61_30 : decode (q_mB 61) 30 = .ok (.ireturn, 1) := by decide +kernel
theorem k61_31 : decode (q_mB 61) 31 = .ok (.aload_n 0, 1) := by decide +kernel
theorem k61_32 : decode (q_mB 61) 32 = .ok (.invokevirtual 171, 3) := by decide +kernel
theorem k61_35 : decode (q_mB 61) 35 = .ok (.pop, 1) := by decide +kernel
theorem k61_36 : decode (q_mB 61) 36 = .ok (.aload_n 0, 1) := by decide +kernel
theorem k61_37 : decode (q_mB 61) 37 = .ok (.getfield 94, 3) := by decide +kernel
theorem k61_40 : decode (q_mB 61) 40 = .ok (.aload_n 0, 1) := by decide +kernel
theorem k61_41 : decode (q_mB 61) 41 = .ok (.invokevirtual 212, 3) := by decide +kernel
theorem k61_44 : decode (q_mB 61) 44 = .ok (.aload_n 0, 1) := by decide +kernel
theorem k61_45 : decode (q_mB 61) 45 = .ok (.getfield 26, 3) := by decide +kernel
theorem k61_48 : decode (q_mB 61) 48 = .ok (.getfield 148, 3) := by decide +kernel
theorem k61_51 : decode (q_mB 61) 51 = .ok (.iload_n 1, 1) := by decide +kernel
theorem k61_52 : decode (q_mB 61) 52 = .ok (.ldc 216, 2) := by decide +kernel
theorem k61_54 : decode (q_mB 61) 54 = .ok (.invokevirtual 217, 3) := by decide +kernel
theorem k61_57 : decode (q_mB 61) 57 = .ok (.ireturn, 1) := by decide +kernel
theorem k62_0 : decode (q_mB 62) 0 = .ok (.aload_n 0, 1) := by decide +kernel
theorem k62_1 : decode (q_mB 62) 1 = .ok (.getfield 26, 3) := by decide +kernel
theorem k62_4 : decode (q_mB 62) 4 = .ok (.getfield 63, 3) := by decide +kernel
theorem k62_7 : decode (q_mB 62) 7 = .ok (.iload_n 1, 1) := by decide +kernel
theorem k62_8 : decode (q_mB 62) 8 = .ok (.invokevirtual 121, 3) := by decide +kernel
theorem k62_11 : decode (q_mB 62) 11 = .ok (.ifCond .ne 9, 3) := by decide +kernel
theorem k62_14 : decode (q_mB 62) 14 = .ok (.aload_n 0, 1) := by decide +kernel
theorem k62_15 : decode (q_mB 62) 15 = .ok (.iconst (-1), 1) := by decide +kernel
theorem k62_16 : decode (q_mB 62) 16 = .ok (.invokevirtual 100, 3) := by decide +kernel
theorem k62_19 : decode (q_mB 62) 19 = .ok (.ireturn, 1) := by decide +kernel
theorem k62_20 : decode (q_mB 62) 20 = .ok (.aload_n 0, 1) := by decide +kernel
theorem k62_21 : decode (q_mB 62) 21 = .ok (.invokevirtual 171, 3) := by decide +kernel
theorem k62_24 : decode (q_mB 62) 24 = .ok (.iload_n 1, 1) := by decide +kernel
theorem k62_25 : decode (q_mB 62) 25 = .ok (.aload_n 0, 1) := by decide +kernel
theorem k62_26 : decode (q_mB 62) 26 = .ok (.invokevirtual 178, 3) := by decide +kernel
theorem k62_29 : decode (q_mB 62) 29 = .ok (.invokevirtual 221, 3) := by decide +kernel
theorem k62_32 : decode (q_mB 62) 32 = .ok (.ireturn, 1) := by decide +kernel
theorem k63_0 : decode (q_mB 63) 0 = .ok (.aload_n 0, 1) := by decide +kernel
theorem k63_1 : decode (q_mB 63) 1 = .ok (.getfield 26, 3) := by decide +kernel
theorem k63_4 : decode (q_mB 63) 4 = .ok (.getfield 63, 3) := by decide +kernel
theorem k63_7 : decode (q_mB 63) 7 = .ok (.iload_n 1, 1) := by decide +kernel
theorem k63_8 : decode (q_mB 63) 8 = .ok (.invokevirtual 121, 3) := by decide +kernel
theorem k63_11 : decode (q_mB 63) 11 = .ok (.ifCond .ne 9, 3) := by decide +kernel
theorem k63_14 : decode (q_mB 63) 14 = .ok (.aload_n 0, 1) := by decide +kernel
theorem k63_15 : decode (q_mB 63) 15 = .ok (.iconst (-1), 1) := by decide +kernel
theorem k63_16 : decode (q_mB 63) 16 = .ok (.invokevirtual 100, 3) := by decide +kernel
theorem k63_19 : decode (q_mB 63) 19 = .ok (.ireturn, 1) := by decide +kernel
theorem k63_20 : decode (q_mB 63) 20 = .ok (.aload_n 0, 1) := by decide +kernel
theorem k63_21 : decode (q_mB 63) 21 = .ok (.getfield 26, 3) := by decide +kernel
theorem k63_24 : decode (q_mB 63) 24 = .ok (.getfield 63, 3) := by decide +kernel
theorem k63_27 : decode (q_mB 63) 27 = .ok (.getfield 125, 3) := by decide +kernel
theorem k63_30 : decode (q_mB 63) 30 = .ok (.iload_n 1, 1) := by decide +kernel
theorem k63_31 : decode (q_mB 63) 31 = .ok (.iaload, 1) := by decide +kernel
theorem k63_32 : decode (q_mB 63) 32 = .ok (.ifCond .eq 10, 3) := by decide +kernel
theorem k63_35 : decode (q_mB 63) 35 = .ok (.aload_n 0, 1) := by decide +kernel
theorem k63_36 : decode (q_mB 63) 36 = .ok (.bipush (-3), 2) := by decide +kernel
theorem k63_38 : decode (q_mB 63) 38 = .ok (.invokevirtual 100, 3) := by decide +kernel
theorem k63_41 : decode (q_mB 63) 41 = .ok (.ireturn, 1) := by decide +kernel
theorem k63_42 : decode (q_mB 63) 42 = .ok (.aload_n 0, 1) := by decide +kernel
theorem k63_43 : decode (q_mB 63) 43 = .ok (.iload_n 1, 1) := by decide +kernel
theorem k63_44 : decode (q_mB 63) 44 = .ok (.invokevirtual 184, 3) := by decide +kernel
theorem k63_47 : decode (q_mB 63) 47 = .ok (.ireturn, 1) := by decide +kernel
theorem k64_0 : decode (q_mB 64) 0 = .ok (.aload_n 0, 1) := by decide +kernel
theorem k64_1 : decode (q_mB 64) 1 = .ok (.getfield 26, 3) := by decide +kernel
theorem k64_4 : decode (q_mB 64) 4 = .ok (.getfield 63, 3) := by decide +kernel
theorem k64_7 : decode (q_mB 64) 7 = .ok (.getfield 141, 3) := by decide +kernel
theorem k64_10 : decode (q_mB 64) 10 = .ok (.istore_n 1, 1) := by decide +kernel
theorem k64_11 : decode (q_mB 64) 11 = .ok (.iload_n 1, 1) := by decide +kernel
theorem k64_12 : decode (q_mB 64) 12 = .ok (.ifCond .le 38, 3) := by decide +kernel
theorem k64_15 : decode (q_mB 64) 15 = .ok (.aload_n 0, 1) := by decide +kernel
theorem k64_16 : decode (q_mB 64) 16 = .ok (.getfield 73, 3) := by decide +kernel
theorem k64_19 : decode (q_mB 64) 19 = .ok (.iload_n 1, 1) := by decide +kernel
theorem k64_20 : decode (q_mB 64) 20 = .ok (.invokevirtual 224, 3) := by decide +kernel
theorem k64_23 : decode (q_mB 64) 23 = .ok (.aload_n 0, 1) := by decide +kernel
theorem k64_24 : decode (q_mB 64) 24 = .ok (.getfield 97, 3) := by decide +kernel
theorem k64_27 : decode (q_mB 64) 27 = .ok (.aload_n 0, 1) := by decide +kernel
theorem k64_28 : decode (q_mB 64) 28 = .ok (.getfield 50, 3) := by decide +kernel
theorem k64_31 : decode (q_mB 64) 31 = .ok (.iconst 0, 1) := by decide +kernel
theorem k64_32 : decode (q_mB 64) 32 = .ok (.aaload, 1) := by decide +kernel
theorem k64_33 : decode (q_mB 64) 33 = .ok (.iconst 0, 1) := by decide +kernel
theorem k64_34 : decode (q_mB 64) 34 = .ok (.iconst 0, 1) := by decide +kernel
theorem k64_35 : decode (q_mB 64) 35 = .ok (.iconst 1, 1) := by decide +kernel
theorem k64_36 : decode (q_mB 64) 36 = .ok (.invokevirtual 217, 3) := by decide +kernel
theorem k64_39 : decode (q_mB 64) 39 = .ok (.ifCond .le 5, 3) := by decide +kernel
theorem k64_42 : decode (q_mB 64) 42 = .ok (.iload_n 1, 1) := by decide +kernel
theorem k64_43 : decode (q_mB 64) 43 = .ok (.ireturn, 1) := by decide +kernel
theorem k64_44 : decode (q_mB 64) 44 = .ok (.iinc 1 (-1), 3) := by decide +kernel
theorem k64_47 : decode (q_mB 64) 47 = .ok (.goto (-36), 3) := by decide +kernel
theorem k64_50 : decode (q_mB 64) 50 = .ok (.iconst 0, 1) := by decide +kernel
theorem k64_51 : decode (q_mB 64) 51 = .ok (.ireturn, 1) := by decide +kernel
theorem k65_0 : decode (q_mB 65) 0 = .ok (.iload_n 1, 1) := by decide +kernel
theorem k65_1 : decode (q_mB 65) 1 = .ok (.ifCond .lt 11, 3) := by decide +kernel
theorem k65_4 : decode (q_mB 65) 4 = .ok (.iload_n 2, 1) := by decide +kernel
theorem k65_5 : decode (q_mB 65) 5 = .ok (.ifCond .lt 7, 3) := by decide +kernel
theorem k65_8 : decode (q_mB 65) 8 = .ok (.iload_n 3, 1) := by decide +kernel
theorem k65_9 : decode (q_mB 65) 9 = .ok (.ifCond .ge 10, 3) := by decide +kernel
theorem k65_12 : decode (q_mB 65) 12 = .ok (.aload_n 0, 1) := by decide +kernel
theorem k65_13 : decode (q_mB 65) 13 = .ok (.bipush (-4), 2) := by decide +kernel
theorem k65_15 : decode (q_mB 65) 15 = .ok (.invokevirtual 100, 3) := by decide +kernel
theorem k65_18 : decode (q_mB 65) 18 = .ok (.ireturn, 1) := by decide +kernel
theorem k65_19 : decode (q_mB 65) 19 = .ok (.iload_n 1, 1) := by decide +kernel
theorem k65_20 : decode (q_mB 65) 20 = .ok (.iconst 4, 1) := by decide +kernel
theorem k65_21 : decode (q_mB 65) 21 = .ok (.if_icmp .gt 13, 3) := by decide +kernel
theorem k65_24 : decode (q_mB 65) 24 = .ok (.iload_n 2, 1) := by decide +kernel
theorem k65_25 : decode (q_mB 65) 25 = .ok (.iconst 4, 1) := by decide +kernel
theorem k65_26 : decode (q_mB 65) 26 = .ok (.if_icmp .gt 8, 3) := by decide +kernel
theorem k65_29 : decode (q_mB 65) 29 = .ok (.iload_n 3, 1) := by decide +kernel
theorem k65_30 : decode (q_mB 65) 30 = .ok (.iconst 4, 1) := by decide +kernel
theorem k65_31 : decode (q_mB 65) 31 = .ok (.if_icmp .le 10, 3) := by decide +kernel
theorem k65_34 : decode (q_mB 65) 34 = .ok (.aload_n 0, 1) := by decide +kernel
theorem k65_35 : decode (q_mB 65) 35 = .ok (.bipush (-6), 2) := by decide +kernel
theorem k65_37 : decode (q_mB 65) 37 = .ok (.invokevirtual 100, 3) := by decide +kernel
theorem k65_40 : decode (q_mB 65) 40 = .ok (.ireturn, 1) := by decide +kernel
theorem k65_41 : decode (q_mB 65) 41 = .ok (.iload_n 1, 1) := by decide +kernel
theorem k65_42 : decode (q_mB 65) 42 = .ok (.iload_n 2, 1) := by decide +kernel
theorem k65_43 : decode (q_mB 65) 43 = .ok (.iload_n 3, 1) := by decide +kernel
theorem k65_44 : decode (q_mB 65) 44 = .ok (.invokestatic 228, 3) := by decide +kernel
theorem k65_47 : decode (q_mB 65) 47 = .ok (.ireturn, 1) := by decide +kernel
theorem k66_0 : decode (q_mB 66) 0 = .ok (.aload_n 0, 1) := by decide +kernel
theorem k66_1 : decode (q_mB 66) 1 = .ok (.getfield 26, 3) := by decide +kernel
theorem k66_4 : decode (q_mB 66) 4 = .ok (.getfield 63, 3) := by decide +kernel
theorem k66_7 : decode (q_mB 66) 7 = .ok (.iload_n 1, 1) := by decide +kernel
theorem k66_8 : decode (q_mB 66) 8 = .ok (.invokevirtual 151, 3) := by decide +kernel
theorem k66_11 : decode (q_mB 66) 11 = .ok (.ifCond .ne 9, 3) := by decide +kernel
theorem k66_14 : decode (q_mB 66) 14 = .ok (.aload_n 0, 1) := by decide +kernel
theorem k66_15 : decode (q_mB 66) 15 = .ok (.iconst (-1), 1) := by decide +kernel
theorem k66_16 : decode (q_mB 66) 16 = .ok (.invokevirtual 100, 3) := by decide +kernel
theorem k66_19 : decode (q_mB 66) 19 = .ok (.ireturn, 1) := by decide +kernel
theorem k66_20 : decode (q_mB 66) 20 = .ok (.iload_n 2, 1) := by decide +kernel
theorem k66_21 : decode (q_mB 66) 21 = .ok (.ifCond .eq 15, 3) := by decide +kernel
theorem k66_24 : decode (q_mB 66) 24 = .ok (.iload_n 2, 1) := by decide +kernel
theorem k66_25 : decode (q_mB 66) 25 = .ok (.iconst 1, 1) := by decide +kernel
theorem k66_26 : decode (q_mB 66) 26 = .ok (.if_icmp .eq 10, 3) := by decide +kernel
theorem k66_29 : decode (q_mB 66) 29 = .ok (.aload_n 0, 1) := by decide +kernel
theorem k66_30 : decode (q_mB 66) 30 = .ok (.bipush (-2), 2) := by decide +kernel
theorem k66_32 : decode (q_mB 66) 32 = .ok (.invokevirtual 100, 3) := by decide +kernel
theorem k66_35 : decode (q_mB 66) 35 = .ok (.ireturn, 1) := by decide +kernel
theorem k66_36 : decode (q_mB 66) 36 = .ok (.aload_n 0, 1) := by decide +kernel
theorem k66_37 : decode (q_mB 66) 37 = .ok (.getfield 26, 3) := by decide +kernel
theorem k66_40 : decode (q_mB 66) 40 = .ok (.getfield 232, 3) := by decide +kernel
theorem k66_43 : decode (q_mB 66) 43 = .ok (.iload_n 1, 1) := by decide +kernel
theorem k66_44 : decode (q_mB 66) 44 = .ok (.iaload, 1) := by decide +kernel
theorem k66_45 : decode (q_mB 66) 45 = .ok (.istore_n 3, 1) := by decide +kernel
theorem k66_46 : decode (q_mB 66) 46 = .ok (.iload_n 3, 1) := by decide +kernel
theorem k66_47 : decode (q_mB 66) 47 = .ok (.bipush 10, 2) := by decide +kernel
theorem k66_49 : decode (q_mB 66) 49 = .ok (.if_icmp .lt 10, 3) := by decide +kernel
theorem k66_52 : decode (q_mB 66) 52 = .ok (.aload_n 0, 1) := by decide +kernel
theorem k66_53 : decode (q_mB 66) 53 = .ok (.bipush (-6), 2) := by decide +kernel
theorem k66_55 : decode (q_mB 66) 55 = .ok (.invokevirtual 100, 3) := by decide +kernel
theorem k66_58 : decode (q_mB 66) 58 = .ok (.ireturn, 1) := by decide +kernel
theorem k66_59 : decode (q_mB 66) 59 = .ok (.aload_n 0, 1) := by decide +kernel
theorem k66_60 : decode (q_mB 66) 60 = .ok (.getfield 26, 3) := by decide +kernel
theorem k66_63 : decode (q_mB 66) 63 = .ok (.getfield 235, 3) := by decide +kernel
theorem k66_66 : decode (q_mB 66) 66 = .ok (.iload_n 1, 1) := by decide +kernel
theorem k66_67 : decode (q_mB 66) 67 = .ok (.aaload, 1) := by decide +kernel
theorem k66_68 : decode (q_mB 66) 68 = .ok (.iload_n 3, 1) := by decide +kernel
theorem k66_69 : decode (q_mB 66) 69 = .ok (.iload_n 2, 1) := by decide +kernel
theorem k66_70 : decode (q_mB 66) 70 = .ok (.iastore, 1) := by decide +kernel
theorem k66_71 : decode (q_mB 66) 71 = .ok (.aload_n 0, 1) := by decide +kernel
theorem k66_72 : decode (q_mB 66) 72 = .ok (.getfield 26, 3) := by decide +kernel
theorem k66_75 : decode (q_mB 66) 75 = .ok (.getfield 232, 3) := by decide +kernel
theorem k66_78 : decode (q_mB 66) 78 = .ok (.iload_n 1, 1) := by decide +kernel
theorem k66_79 : decode (q_mB 66) 79 = .ok (.iload_n 3, 1) := by decide +kernel
theorem k66_80 : decode (q_mB 66) 80 = .ok (.iconst 1, 1) := by decide +kernel
theorem k66_81 : decode (q_mB 66) 81 = .ok (.iadd, 1) := by decide +kernel
theorem k66_82 : decode (q_mB 66) 82 = .ok (.iastore, 1) := by decide +kernel
theorem k66_83 : decode (q_mB 66) 83 = .ok (.iload_n 3, 1) := by decide +kernel
theorem k66_84 : decode (q_mB 66) 84 = .ok (.iconst 1, 1) := by decide +kernel
theorem k66_85 : decode (q_mB 66) 85 = .ok (.iadd, 1) := by decide +kernel
theorem k66_86 : decode (q_mB 66) 86 = .ok (.ireturn, 1) := by decide +kernel
theorem k67_0 : decode (q_mB 67) 0 = .ok (.aload_n 0, 1) := by decide +kernel
theorem k67_1 : decode (q_mB 67) 1 = .ok (.invokevirtual 137, 3) := by decide +kernel
theorem k67_4 : decode (q_mB 67) 4 = .ok (.ifCond .ne 10, 3) := by decide +kernel
theorem k67_7 : decode (q_mB 67) 7 = .ok (.aload_n 0, 1) := by decide +kernel
theorem k67_8 : decode (q_mB 67) 8 = .ok (.bipush (-3), 2) := by decide +kernel
theorem k67_10 : decode (q_mB 67) 10 = .ok (.invokevirtual 100, 3) := by decide +kernel
theorem k67_13 : decode (q_mB 67) 13 = .ok (.ireturn, 1) := by decide +kernel
theorem k67_14 : decode (q_mB 67) 14 = .ok (.aload_n 0, 1) := by decide +kernel
theorem k67_15 : decode (q_mB 67) 15 = .ok (.getfield 26, 3) := by decide +kernel
theorem k67_18 : decode (q_mB 67) 18 = .ok (.invokevirtual 239, 3) := by decide +kernel
theorem k67_21 : decode (q_mB 67) 21 = .ok (.istore_n 1, 1) := by decide +kernel
theorem k67_22 : decode (q_mB 67) 22 = .ok (.iload_n 1, 1) := by decide +kernel
theorem k67_23 : decode (q_mB 67) 23 = .ok (.ifCond .lt 9, 3) := by decide +kernel
theorem k67_26 : decode (q_mB 67) 26 = .ok (.sipush 1000, 3) := by decide +kernel
theorem k67_29 : decode (q_mB 67) 29 = .ok (.iload_n 1, 1) := by decide +kernel
theorem k67_30 : decode (q_mB 67) 30 = .ok (.iadd, 1) := by decide +kernel
theorem k67_31 : decode (q_mB 67) 31 = .ok (.ireturn, 1) := by decide +kernel
theorem k67_32 : decode (q_mB 67) 32 = .ok (.aload_n 0, 1) := by decide +kernel
theorem k67_33 : decode (q_mB 67) 33 = .ok (.invokevirtual 242, 3) := by decide +kernel
theorem k67_36 : decode (q_mB 67) 36 = .ok (.istore_n 2, 1) := by decide +kernel
theorem k67_37 : decode (q_mB 67) 37 = .ok (.iload_n 2, 1) := by decide +kernel
theorem k67_38 : decode (q_mB 67) 38 = .ok (.ifCond .lt 8, 3) := by decide +kernel
theorem k67_41 : decode (q_mB 67) 41 = .ok (.bipush 100, 2) := by decide +kernel
theorem k67_43 : decode (q_mB 67) 43 = .ok (.iload_n 2, 1) := by decide +kernel
theorem k67_44 : decode (q_mB 67) 44 = .ok (.iadd, 1) := by decide +kernel
theorem k67_45 : decode (q_mB 67) 45 = .ok (.ireturn, 1) := by decide +kernel
theorem k67_46 : decode (q_mB 67) 46 = .ok (.aload_n 0, 1) := by decide +kernel
theorem k67_47 : decode (q_mB 67) 47 = .ok (.getfield 26, 3) := by decide +kernel
theorem k67_50 : decode (q_mB 67) 50 = .ok (.invokevirtual 245, 3) := by decide +kernel
theorem k67_53 : decode (q_mB 67) 53 = .ok (.ireturn, 1) := by decide +kernel
theorem k68_0 : decode (q_mB 68) 0 = .ok (.aload_n 0, 1) := by decide +kernel
theorem k68_1 : decode (q_mB 68) 1 = .ok (.getfield 26, 3) := by decide +kernel
theorem k68_4 : decode (q_mB 68) 4 = .ok (.invokevirtual 248, 3) := by decide +kernel
theorem k68_7 : decode (q_mB 68) 7 = .ok (.ireturn, 1) := by decide +kernel
theorem k69_0 : decode (q_mB 69) 0 = .ok (.aload_n 0, 1) := by decide +kernel
theorem k69_1 : decode (q_mB 69) 1 = .ok (.getfield 30, 3) := by decide +kernel
theorem k69_4 : decode (q_mB 69) 4 = .ok (.aload_n 0, 1) := by decide +kernel
theorem k69_5 : decode (q_mB 69) 5 = .ok (.getfield 26, 3) := by decide +kernel
theorem k69_8 : decode (q_mB 69) 8 = .ok (.invokevirtual 251, 3) := by decide +kernel
theorem k69_11 : decode (q_mB 69) 11 = .ok (.aload_n 0, 1) := by decide +kernel
theorem k69_12 : decode (q_mB 69) 12 = .ok (.iconst 1, 1) := by decide +kernel
theorem k69_13 : decode (q_mB 69) 13 = .ok (.putfield 255, 3) := by decide +kernel
theorem k69_16 : decode (q_mB 69) 16 = .ok (.aload_n 0, 1) := by decide +kernel
theorem k69_17 : decode (q_mB 69) 17 = .ok (.getfield 26, 3) := by decide +kernel
theorem k69_20 : decode (q_mB 69) 20 = .ok (.getfield 63, 3) := by decide +kernel
theorem k69_23 : decode (q_mB 69) 23 = .ok (.getfield 118, 3) := by decide +kernel
theorem k69_26 : decode (q_mB 69) 26 = .ok (.ireturn, 1) := by decide +kernel
theorem k70_0 : decode (q_mB 70) 0 = .ok (.aload_n 0, 1) := by decide +kernel
theorem k70_1 : decode (q_mB 70) 1 = .ok (.getfield 255, 3) := by decide +kernel
theorem k70_4 : decode (q_mB 70) 4 = .ok (.ifCond .ne 10, 3) := by decide +kernel
theorem k70_7 : decode (q_mB 70) 7 = .ok (.aload_n 0, 1) := by decide +kernel
theorem k70_8 : decode (q_mB 70) 8 = .ok (.bipush (-3), 2) := by decide +kernel
theorem k70_10 : decode (q_mB 70) 10 = .ok (.invokevirtual 100, 3) := by decide +kernel
theorem k70_13 : decode (q_mB 70) 13 = .ok (.ireturn, 1) := by decide +kernel
theorem k70_14 : decode (q_mB 70) 14 = .ok (.aload_n 0, 1) := by decide +kernel
theorem k70_15 : decode (q_mB 70) 15 = .ok (.getfield 26, 3) := by decide +kernel
theorem k70_18 : decode (q_mB 70) 18 = .ok (.aload_n 0, 1) := by decide +kernel
theorem k70_19 : decode (q_mB 70) 19 = .ok (.getfield 30, 3) := by decide +kernel
theorem k70_22 : decode (q_mB 70) 22 = .ok (.invokevirtual 251, 3) := by decide +kernel
theorem k70_25 : decode (q_mB 70) 25 = .ok (.aload_n 0, 1) := by decide +kernel
theorem k70_26 : decode (q_mB 70) 26 = .ok (.iconst (-1), 1) := by decide +kernel
theorem k70_27 : decode (q_mB 70) 27 = .ok (.putfield 58, 3) := by decide +kernel
theorem k70_30 : decode (q_mB 70) 30 = .ok (.aload_n 0, 1) := by decide +kernel
theorem k70_31 : decode (q_mB 70) 31 = .ok (.getfield 26, 3) := by decide +kernel
theorem k70_34 : decode (q_mB 70) 34 = .ok (.getfield 63, 3) := by decide +kernel
theorem k70_37 : decode (q_mB 70) 37 = .ok (.getfield 118, 3) := by decide +kernel
theorem k70_40 : decode (q_mB 70) 40 = .ok (.ireturn, 1) := by decide +kernel
theorem k71_0 : decode (q_mB 71) 0 = .ok (.iload_n 1, 1) := by decide +kernel
theorem k71_1 : decode (q_mB 71) 1 = .ok (.tableswitch 120 0 7 #[47, 58, 69, 80, 91, 99, 104, 112], 47) := by decide +kernel
theorem k71_48 : decode (q_mB 71) 48 = .ok (.aload_n 0, 1) := by decide +kernel
theorem k71_49 : decode (q_mB 71) 49 = .ok (.getfield 26, 3) := by decide +kernel
theorem k71_52 : decode (q_mB 71) 52 = .ok (.getfield 63, 3) := by decide +kernel
theorem k71_55 : decode (q_mB 71) 55 = .ok (.getfield 259, 3) := by decide +kernel
theorem k71_58 : decode (q_mB 71) 58 = .ok (.ireturn, 1) := by decide +kernel
theorem k71_59 : decode (q_mB 71) 59 = .ok (.aload_n 0, 1) := by decide +kernel
theorem k71_60 : decode (q_mB 71) 60 = .ok (.getfield 26, 3) := by decide +kernel
theorem k71_63 : decode (q_mB 71) 63 = .ok (.getfield 63, 3) := by decide +kernel
theorem k71_66 : decode (q_mB 71) 66 = .ok (.getfield 262, 3) := by decide +kernel
theorem k71_69 : decode (q_mB 71) 69 = .ok (.ireturn, 1) := by decide +kernel
theorem k71_70 : decode (q_mB 71) 70 = .ok (.aload_n 0, 1) := by decide +kernel
theorem k71_71 : decode (q_mB 71) 71 = .ok (.getfield 26, 3) := by decide +kernel
theorem k71_74 : decode (q_mB 71) 74 = .ok (.getfield 63, 3) := by decide +kernel
theorem k71_77 : decode (q_mB 71) 77 = .ok (.getfield 141, 3) := by decide +kernel
theorem k71_80 : decode (q_mB 71) 80 = .ok (.ireturn, 1) := by decide +kernel
theorem k71_81 : decode (q_mB 71) 81 = .ok (.aload_n 0, 1) := by decide +kernel
theorem k71_82 : decode (q_mB 71) 82 = .ok (.getfield 26, 3) := by decide +kernel
theorem k71_85 : decode (q_mB 71) 85 = .ok (.getfield 63, 3) := by decide +kernel
theorem k71_88 : decode (q_mB 71) 88 = .ok (.getfield 265, 3) := by decide +kernel
theorem k71_91 : decode (q_mB 71) 91 = .ok (.ireturn, 1) := by decide +kernel
theorem k71_92 : decode (q_mB 71) 92 = .ok (.aload_n 0, 1) := by decide +kernel
theorem k71_93 : decode (q_mB 71) 93 = .ok (.getfield 26, 3) := by decide +kernel
theorem k71_96 : decode (q_mB 71) 96 = .ok (.getfield 203, 3) := by decide +kernel
theorem k71_99 : decode (q_mB 71) 99 = .ok (.ireturn, 1) := by decide +kernel
theorem k71_100 : decode (q_mB 71) 100 = .ok (.aload_n 0, 1) := by decide +kernel
theorem k71_101 : decode (q_mB 71) 101 = .ok (.getfield 104, 3) := by decide +kernel
theorem k71_104 : decode (q_mB 71) 104 = .ok (.ireturn, 1) := by decide +kernel
theorem k71_105 : decode (q_mB 71) 105 = .ok (.aload_n 0, 1) := by decide +kernel
theorem k71_106 : decode (q_mB 71) 106 = .ok (.getfield 26, 3) := by decide +kernel
theorem k71_109 : decode (q_mB 71) 109 = .ok (.getfield 134, 3) := by decide +kernel
theorem k71_112 : decode (q_mB 71) 112 = .ok (.ireturn, 1) := by decide +kernel
theorem k71_113 : decode (q_mB 71) 113 = .ok (.aload_n 0, 1) := by decide +kernel
theorem k71_114 : decode (q_mB 71) 114 = .ok (.getfield 26, 3) := by decide +kernel
theorem k71_117 : decode (q_mB 71) 117 = .ok (.getfield 148, 3) := by decide +kernel
theorem k71_120 : decode (q_mB 71) 120 = .ok (.ireturn, 1) := by decide +kernel
theorem k71_121 : decode (q_mB 71) 121 = .ok (.iload_n 1, 1) := by decide +kernel
theorem k71_122 : decode (q_mB 71) 122 = .ok (.bipush 11, 2) := by decide +kernel
theorem k71_124 : decode (q_mB 71) 124 = .ok (.if_icmp .lt 21, 3) := by decide +kernel
theorem k71_127 : decode (q_mB 71) 127 = .ok (.iload_n 1, 1) := by decide +kernel
theorem k71_128 : decode (q_mB 71) 128 = .ok (.bipush 16, 2) := by decide +kernel
theorem k71_130 : decode (q_mB 71) 130 = .ok (.if_icmp .gt 15, 3) := by decide +kernel
theorem k71_133 : decode (q_mB 71) 133 = .ok (.aload_n 0, 1) := by decide +kernel
theorem k71_134 : decode (q_mB 71) 134 = .ok (.getfield 13, 3) := by decide +kernel
theorem k71_137 : decode (q_mB 71) 137 = .ok (.iload_n 1, 1) := by decide +kernel
theorem k71_138 : decode (q_mB 71) 138 = .ok (.bipush 10, 2) := by decide +kernel
theorem k71_140 : decode (q_mB 71) 140 = .ok (.isub, 1) := by decide +kernel
theorem k71_141 : decode (q_mB 71) 141 = .ok (.iaload, 1) := by decide +kernel
theorem k71_142 : decode (q_mB 71) 142 = .ok (.goto 5, 3) := by decide +kernel
theorem k71_145 : decode (q_mB 71) 145 = .ok (.bipush (-9), 2) := by decide +kernel
theorem k71_147 : decode (q_mB 71) 147 = .ok (.ireturn, 1) := by decide +kernel
theorem k72_0 : decode (q_mB 72) 0 = .ok (.iload_n 1, 1) := by decide +kernel
theorem k72_1 : decode (q_mB 72) 1 = .ok (.ineg, 1) := by decide +kernel
theorem k72_2 : decode (q_mB 72) 2 = .ok (.istore_n 2, 1) := by decide +kernel
theorem k72_3 : decode (q_mB 72) 3 = .ok (.iload_n 2, 1) := by decide +kernel
theorem k72_4 : decode (q_mB 72) 4 = .ok (.ifCond .le 22, 3) := by decide +kernel
theorem k72_7 : decode (q_mB 72) 7 = .ok (.iload_n 2, 1) := by decide +kernel
theorem k72_8 : decode (q_mB 72) 8 = .ok (.aload_n 0, 1) := by decide +kernel
theorem k72_9 : decode (q_mB 72) 9 = .ok (.getfield 13, 3) := by decide +kernel
theorem k72_12 : decode (q_mB 72) 12 = .ok (.arraylength, 1) := by decide +kernel
theorem k72_13 : decode (q_mB 72) 13 = .ok (.if_icmp .ge 13, 3) := by decide +kernel
theorem k72_16 : decode (q_mB 72) 16 = .ok (.aload_n 0, 1) := by decide +kernel
theorem k72_17 : decode (q_mB 72) 17 = .ok (.getfield 13, 3) := by decide +kernel
theorem k72_20 : decode (q_mB 72) 20 = .ok (.iload_n 2, 1) := by decide +kernel
theorem k72_21 : decode (q_mB 72) 21 = .ok (.dup2, 1) := by decide +kernel
theorem k72_22 : decode (q_mB 72) 22 = .ok (.iaload, 1) := by decide +kernel
theorem k72_23 : decode (q_mB 72) 23 = .ok (.iconst 1, 1) := by decide +kernel
theorem k72_24 : decode (q_mB 72) 24 = .ok (.iadd, 1) := by decide +kernel
theorem k72_25 : decode (q_mB 72) 25 = .ok (.iastore, 1) := by decide +kernel
theorem k72_26 : decode (q_mB 72) 26 = .ok (.iload_n 1, 1) := by decide +kernel
theorem k72_27 : decode (q_mB 72) 27 = .ok (.ireturn, 1) := by decide +kernel
theorem k73_0 : decode (q_mB 73) 0 = .ok (.aload_n 0, 1) := by decide +kernel
theorem k73_1 : decode (q_mB 73) 1 = .ok (.getfield 26, 3) := by decide +kernel
theorem k73_4 : decode (q_mB 73) 4 = .ok (.getfield 63, 3) := by decide +kernel
theorem k73_7 : decode (q_mB 73) 7 = .ok (.getfield 118, 3) := by decide +kernel
theorem k73_10 : decode (q_mB 73) 10 = .ok (.ifCond .le 7, 3) := by decide +kernel
theorem k73_13 : decode (q_mB 73) 13 = .ok (.iconst 1, 1) := by decide +kernel
theorem k73_14 : decode (q_mB 73) 14 = .ok (.goto 4, 3) := by decide +kernel
theorem k73_17 : decode (q_mB 73) 17 = .ok (.iconst 0, 1) := by decide +kernel
theorem k73_18 : decode (q_mB 73) 18 = .ok (.ireturn, 1) := by decide +kernel
theorem k74_0 : decode (q_mB 74) 0 = .ok (.aload_n 0, 1) := by decide +kernel
theorem k74_1 : decode (q_mB 74) 1 = .ok (.getfield 54, 3) := by decide +kernel
theorem k74_4 : decode (q_mB 74) 4 = .ok (.aload_n 0, 1) := by decide +kernel
theorem k74_5 : decode (q_mB 74) 5 = .ok (.getfield 26, 3) := by decide +kernel
theorem k74_8 : decode (q_mB 74) 8 = .ok (.getfield 268, 3) := by decide +kernel
theorem k74_11 : decode (q_mB 74) 11 = .ok (.if_icmp .eq 38, 3) := by decide +kernel
theorem k74_14 : decode (q_mB 74) 14 = .ok (.aload_n 0, 1) := by decide +kernel
theorem k74_15 : decode (q_mB 74) 15 = .ok (.getfield 69, 3) := by decide +kernel
theorem k74_18 : decode (q_mB 74) 18 = .ok (.aload_n 0, 1) := by decide +kernel
theorem k74_19 : decode (q_mB 74) 19 = .ok (.getfield 26, 3) := by decide +kernel
theorem k74_22 : decode (q_mB 74) 22 = .ok (.getfield 63, 3) := by decide +kernel
theorem k74_25 : decode (q_mB 74) 25 = .ok (.getfield 141, 3) := by decide +kernel
theorem k74_28 : decode (q_mB 74) 28 = .ok (.invokevirtual 224, 3) := by decide +kernel
theorem k74_31 : decode (q_mB 74) 31 = .ok (.aload_n 0, 1) := by decide +kernel
theorem k74_32 : decode (q_mB 74) 32 = .ok (.getfield 81, 3) := by decide +kernel
theorem k74_35 : decode (q_mB 74) 35 = .ok (.invokevirtual 271, 3) := by decide +kernel
theorem k74_38 : decode (q_mB 74) 38 = .ok (.aload_n 0, 1) := by decide +kernel
theorem k74_39 : decode (q_mB 74) 39 = .ok (.aload_n 0, 1) := by decide +kernel
theorem k74_40 : decode (q_mB 74) 40 = .ok (.getfield 26, 3) := by decide +kernel
theorem k74_43 : decode (q_mB 74) 43 = .ok (.getfield 268, 3) := by decide +kernel
theorem k74_46 : decode (q_mB 74) 46 = .ok (.putfield 54, 3) := by decide +kernel
theorem k74_49 : decode (q_mB 74) 49 = .ok (.aload_n 0, 1) := by decide +kernel
theorem k74_50 : decode (q_mB 74) 50 = .ok (.getfield 81, 3) := by decide +kernel
theorem k74_53 : decode (q_mB 74) 53 = .ok (.areturn, 1) := by decide +kernel
theorem k75_0 : decode (q_mB 75) 0 = .ok (.aload_n 0, 1) := by decide +kernel
theorem k75_1 : decode (q_mB 75) 1 = .ok (.getfield 26, 3) := by decide +kernel
theorem k75_4 : decode (q_mB 75) 4 = .ok (.getfield 134, 3) := by decide +kernel
theorem k75_7 : decode (q_mB 75) 7 = .ok (.ifCond .lt 33, 3) := by decide +kernel
theorem k75_10 : decode (q_mB 75) 10 = .ok (.aload_n 0, 1) := by decide +kernel
theorem k75_11 : decode (q_mB 75) 11 = .ok (.getfield 26, 3) := by decide +kernel
theorem k75_14 : decode (q_mB 75) 14 = .ok (.getfield 134, 3) := by decide +kernel
theorem k75_17 : decode (q_mB 75) 17 = .ok (.aload_n 0, 1) := by decide +kernel
theorem k75_18 : decode (q_mB 75) 18 = .ok (.getfield 50, 3) := by decide +kernel
theorem k75_21 : decode (q_mB 75) 21 = .ok (.arraylength, 1) := by decide +kernel
theorem k75_22 : decode (q_mB 75) 22 = .ok (.if_icmp .ge 18, 3) := by decide +kernel
theorem k75_25 : decode (q_mB 75) 25 = .ok (.aload_n 0, 1) := by decide +kernel
theorem k75_26 : decode (q_mB 75) 26 = .ok (.getfield 50, 3) := by decide +kernel
theorem k75_29 : decode (q_mB 75) 29 = .ok (.aload_n 0, 1) := by decide +kernel
theorem k75_30 : decode (q_mB 75) 30 = .ok (.getfield 26, 3) := by decide +kernel
theorem k75_33 : decode (q_mB 75) 33 = .ok (.getfield 134, 3) := by decide +kernel
theorem k75_36 : decode (q_mB 75) 36 = .ok (.aaload, 1) := by decide +kernel
theorem k75_37 : decode (q_mB 75) 37 = .ok (.goto 9, 3) := by decide +kernel
theorem k75_40 : decode (q_mB 75) 40 = .ok (.aload_n 0, 1) := by decide +kernel
theorem k75_41 : decode (q_mB 75) 41 = .ok (.getfield 50, 3) := by decide +kernel
theorem k75_44 : decode (q_mB 75) 44 = .ok (.iconst 0, 1) := by decide +kernel
theorem k75_45 : decode (q_mB 75) 45 = .ok (.aaload, 1) := by decide +kernel
theorem k75_46 : decode (q_mB 75) 46 = .ok (.areturn, 1) := by decide +kernel
theorem k76_0 : decode (q_mB 76) 0 = .ok (.aload_n 0, 1) := by decide +kernel
theorem k76_1 : decode (q_mB 76) 1 = .ok (.getfield 26, 3) := by decide +kernel
theorem k76_4 : decode (q_mB 76) 4 = .ok (.getfield 63, 3) := by decide +kernel
theorem k76_7 : decode (q_mB 76) 7 = .ok (.getfield 141, 3) := by decide +kernel
theorem k76_10 : decode (q_mB 76) 10 = .ok (.istore_n 1, 1) := by decide +kernel
theorem k76_11 : decode (q_mB 76) 11 = .ok (.aload_n 0, 1) := by decide +kernel
theorem k76_12 : decode (q_mB 76) 12 = .ok (.invokevirtual 212, 3) := by decide +kernel
theorem k76_15 : decode (q_mB 76) 15 = .ok (.astore_n 2, 1) := by decide +kernel
theorem k76_16 : decode (q_mB 76) 16 = .ok (.iconst 0, 1) := by decide +kernel
theorem k76_17 : decode (q_mB 76) 17 = .ok (.istore_n 3, 1) := by decide +kernel
theorem k76_18 : decode (q_mB 76) 18 = .ok (.iload_n 1, 1) := by decide +kernel
theorem k76_19 : decode (q_mB 76) 19 = .ok (.invokestatic 165, 3) := by decide +kernel
theorem k76_22 : decode (q_mB 76) 22 = .ok (.istore 4, 2) := by decide +kernel
theorem k76_24 : decode (q_mB 76) 24 = .ok (.iload 4, 2) := by decide +kernel
theorem k76_26 : decode (q_mB 76) 26 = .ok (.iload_n 1, 1) := by decide +kernel
theorem k76_27 : decode (q_mB 76) 27 = .ok (.invokestatic 168, 3) := by decide +kernel
theorem k76_30 : decode (q_mB 76) 30 = .ok (.if_icmp .ge 37, 3) := by decide +kernel
theorem k76_33 : decode (q_mB 76) 33 = .ok (.aload_n 2, 1) := by decide +kernel
theorem k76_34 : decode (q_mB 76) 34 = .ok (.getstatic 274, 3) := by decide +kernel
theorem k76_37 : decode (q_mB 76) 37 = .ok (.iload 4, 2) := by decide +kernel
theorem k76_39 : decode (q_mB 76) 39 = .ok (.iaload, 1) := by decide +kernel
theorem k76_40 : decode (q_mB 76) 40 = .ok (.iload_n 1, 1) := by decide +kernel
theorem k76_41 : decode (q_mB 76) 41 = .ok (.aload_n 0, 1) := by decide +kernel
theorem k76_42 : decode (q_mB 76) 42 = .ok (.getfield 26, 3) := by decide +kernel
theorem k76_45 : decode (q_mB 76) 45 = .ok (.getfield 148, 3) := by decide +kernel
theorem k76_48 : decode (q_mB 76) 48 = .ok (.invokevirtual 277, 3) := by decide +kernel
theorem k76_51 : decode (q_mB 76) 51 = .ok (.ifCond .eq 10, 3) := by decide +kernel
theorem k76_54 : decode (q_mB 76) 54 = .ok (.iload_n 3, 1) := by decide +kernel
theorem k76_55 : decode (q_mB 76) 55 = .ok (.iconst 1, 1) := by decide +kernel
theorem k76_56 : decode (q_mB 76) 56 = .ok (.iload 4, 2) := by decide +kernel
theorem k76_58 : decode (q_mB 76) 58 = .ok (.ishl, 1) := by decide +kernel
theorem k76_59 : decode (q_mB 76) 59 = .ok (.ior, 1) := by decide +kernel
theorem k76_60 : decode (q_mB 76) 60 = .ok (.istore_n 3, 1) := by decide +kernel
theorem k76_61 : decode (q_mB 76) 61 = .ok (.iinc 4 1, 3) := by decide +kernel
theorem k76_64 : decode (q_mB 76) 64 = .ok (.goto (-40), 3) := by decide +kernel
theorem k76_67 : decode (q_mB 76) 67 = .ok (.iload_n 3, 1) := by decide +kernel
theorem k76_68 : decode (q_mB 76) 68 = .ok (.ireturn, 1) := by decide +kernel
theorem k77_0 : decode (q_mB 77) 0 = .ok (.aload_n 0, 1) := by decide +kernel
theorem k77_1 : decode (q_mB 77) 1 = .ok (.invokevirtual 171, 3) := by decide +kernel
theorem k77_4 : decode (q_mB 77) 4 = .ok (.aload_n 0, 1) := by decide +kernel
theorem k77_5 : decode (q_mB 77) 5 = .ok (.invokevirtual 178, 3) := by decide +kernel
theorem k77_8 : decode (q_mB 77) 8 = .ok (.invokevirtual 175, 3) := by decide +kernel
theorem k77_11 : decode (q_mB 77) 11 = .ok (.ireturn, 1) := by decide +kernel
theorem k78_0 : decode (q_mB 78) 0 = .ok (.aload_n 0, 1) := by decide +kernel
theorem k78_1 : decode (q_mB 78) 1 = .ok (.invokevirtual 171, 3) := by decide +kernel
theorem k78_4 : decode (q_mB 78) 4 = .ok (.iload_n 1, 1) := by decide +kernel
theorem k78_5 : decode (q_mB 78) 5 = .ok (.aload_n 0, 1) := by decide +kernel
theorem k78_6 : decode (q_mB 78) 6 = .ok (.invokevirtual 178, 3) := by decide +kernel
theorem k78_9 : decode (q_mB 78) 9 = .ok (.invokevirtual 281, 3) := by decide +kernel
theorem k78_12 : decode (q_mB 78) 12 = .ok (.ireturn, 1) := by decide +kernel
theorem k79_0 : decode (q_mB 79) 0 = .ok (.aload_n 0, 1) := by decide +kernel
theorem k79_1 : decode (q_mB 79) 1 = .ok (.getfield 26, 3) := by decide +kernel
theorem k79_4 : decode (q_mB 79) 4 = .ok (.getfield 63, 3) := by decide +kernel
theorem k79_7 : decode (q_mB 79) 7 = .ok (.getfield 141, 3) := by decide +kernel
theorem k79_10 : decode (q_mB 79) 10 = .ok (.istore_n 3, 1) := by decide +kernel
theorem k79_11 : decode (q_mB 79) 11 = .ok (.iload_n 1, 1) := by decide +kernel
theorem k79_12 : decode (q_mB 79) 12 = .ok (.iload_n 3, 1) := by decide +kernel
theorem k79_13 : decode (q_mB 79) 13 = .ok (.if_icmp .lt 5, 3) := by decide +kernel
theorem k79_16 : decode (q_mB 79) 16 = .ok (.iconst 1, 1) := by decide +kernel
theorem k79_17 : decode (q_mB 79) 17 = .ok (.ireturn, 1) := by decide +kernel
theorem k79_18 : decode (q_mB 79) 18 = .ok (.iconst 0, 1) := by decide +kernel
theorem k79_19 : decode (q_mB 79) 19 = .ok (.istore 4, 2) := by decide +kernel
theorem k79_21 : decode (q_mB 79) 21 = .ok (.iconst 0, 1) := by decide +kernel
theorem k79_22 : decode (q_mB 79) 22 = .ok (.istore 5, 2) := by decide +kernel
theorem k79_24 : decode (q_mB 79) 24 = .ok (.iload 5, 2) := by decide +kernel
theorem k79_26 : decode (q_mB 79) 26 = .ok (.iload_n 3, 1) := by decide +kernel
theorem k79_27 : decode (q_mB 79) 27 = .ok (.if_icmp .ge 74, 3) := by decide +kernel
theorem k79_30 : decode (q_mB 79) 30 = .ok (.iload_n 2, 1) := by decide +kernel
theorem k79_31 : decode (q_mB 79) 31 = .ok (.iload 5, 2) := by decide +kernel
theorem k79_33 : decode (q_mB 79) 33 = .ok (.ishr, 1) := by decide +kernel
theorem k79_34 : decode (q_mB 79) 34 = .ok (.iconst 1, 1) := by decide +kernel
theorem k79_35 : decode (q_mB 79) 35 = .ok (.iand, 1) := by decide +kernel
theorem k79_36 : decode (q_mB 79) 36 = .ok (.ifCond .ne 59, 3) := by decide +kernel
theorem k79_39 : decode (q_mB 79) 39 = .ok (.iload_n 2, 1) := by decide +kernel
theorem k79_40 : decode (q_mB 79) 40 = .ok (.iload 5, 2) := by decide +kernel
theorem k79_42 : decode (q_mB 79) 42 = .ok (.iconst 1, 1) := by decide +kernel
theorem k79_43 : decode (q_mB 79) 43 = .ok (.iadd, 1) := by decide +kernel
theorem k79_44 : decode (q_mB 79) 44 = .ok (.ishr, 1) := by decide +kernel
theorem k79_45 : decode (q_mB 79) 45 = .ok (.invokestatic 283, 3) := by decide +kernel
theorem k79_48 : decode (q_mB 79) 48 = .ok (.iconst 1, 1) := by decide +kernel
theorem k79_49 : decode (q_mB 79) 49 = .ok (.iand, 1) := by decide +kernel
theorem k79_50 : decode (q_mB 79) 50 = .ok (.ifCond .ne 7, 3) := by decide +kernel
theorem k79_53 : decode (q_mB 79) 53 = .ok (.iconst 1, 1) := by decide +kernel
theorem k79_54 : decode (q_mB 79) 54 = .ok (.goto 4, 3) := by decide +kernel
theorem k79_57 : decode (q_mB 79) 57 = .ok (.iconst (-1), 1) := by decide +kernel
theorem k79_58 : decode (q_mB 79) 58 = .ok (.istore 6, 2) := by decide +kernel
theorem k79_60 : decode (q_mB 79) 60 = .ok (.iload 4, 2) := by decide +kernel
theorem k79_62 : decode (q_mB 79) 62 = .ok (.iload 6, 2) := by decide +kernel
theorem k79_64 : decode (q_mB 79) 64 = .ok (.aload_n 0, 1) := by decide +kernel
theorem k79_65 : decode (q_mB 79) 65 = .ok (.getfield 26, 3) := by decide +kernel
theorem k79_68 : decode (q_mB 79) 68 = .ok (.getfield 63, 3) := by decide +kernel
theorem k79_71 : decode (q_mB 79) 71 = .ok (.iload_n 1, 1) := by decide +kernel
theorem k79_72 : decode (q_mB 79) 72 = .ok (.iload 5, 2) := by decide +kernel
theorem k79_74 : decode (q_mB 79) 74 = .ok (.invokevirtual 154, 3) := by decide +kernel
theorem k79_77 : decode (q_mB 79) 77 = .ok (.imul, 1) := by decide +kernel
theorem k79_78 : decode (q_mB 79) 78 = .ok (.aload_n 0, 1) := by decide +kernel
theorem k79_79 : decode (q_mB 79) 79 = .ok (.iload_n 1, 1) := by decide +kernel
theorem k79_80 : decode (q_mB 79) 80 = .ok (.iconst 1, 1) := by decide +kernel
theorem k79_81 : decode (q_mB 79) 81 = .ok (.iadd, 1) := by decide +kernel
theorem k79_82 : decode (q_mB 79) 82 = .ok (.iload_n 2, 1) := by decide +kernel
theorem k79_83 : decode (q_mB 79) 83 = .ok (.iconst 1, 1) := by decide +kernel
theorem k79_84 : decode (q_mB 79) 84 = .ok (.iload 5, 2) := by decide +kernel
theorem k79_86 : decode (q_mB 79) 86 = .ok (.ishl, 1) := by decide +kernel
theorem k79_87 : decode (q_mB 79) 87 = .ok (.ior, 1) := by decide +kernel
theorem k79_88 : decode (q_mB 79) 88 = .ok (.invokevirtual 162, 3) := by decide +kernel
theorem k79_91 : decode (q_mB 79) 91 = .ok (.imul, 1) := by decide +kernel
theorem k79_92 : decode (q_mB 79) 92 = .ok (.iadd, 1) := by decide +kernel
theorem k79_93 : decode (q_mB 79) 93 = .ok (.istore 4, 2) := by decide +kernel
theorem k79_95 : decode (q_mB 79) 95 = .ok (.iinc 5 1, 3) := by decide +kernel
theorem k79_98 : decode (q_mB 79) 98 = .ok (.goto (-74), 3) := by decide +kernel
theorem k79_101 : decode (q_mB 79) 101 = .ok (.iload 4, 2) := by decide +kernel
theorem k79_103 : decode (q_mB 79) 103 = .ok (.ireturn, 1) := by decide +kernel
theorem k80_0 : decode (q_mB 80) 0 = .ok (.iload_n 1, 1) := by decide +kernel
theorem k80_1 : decode (q_mB 80) 1 = .ok (.iload_n 2, 1) := by decide +kernel
theorem k80_2 : decode (q_mB 80) 2 = .ok (.if_icmp .lt 6, 3) := by decide +kernel
theorem k80_5 : decode (q_mB 80) 5 = .ok (.bipush (-9), 2) := by decide +kernel
theorem k80_7 : decode (q_mB 80) 7 = .ok (.ireturn, 1) := by decide +kernel
theorem k80_8 : decode (q_mB 80) 8 = .ok (.iload_n 1, 1) := by decide +kernel
theorem k80_9 : decode (q_mB 80) 9 = .ok (.aload_n 0, 1) := by decide +kernel
theorem k80_10 : decode (q_mB 80) 10 = .ok (.getfield 58, 3) := by decide +kernel
theorem k80_13 : decode (q_mB 80) 13 = .ok (.if_icmp .eq 31, 3) := by decide +kernel
theorem k80_16 : decode (q_mB 80) 16 = .ok (.aload_n 0, 1) := by decide +kernel
theorem k80_17 : decode (q_mB 80) 17 = .ok (.getfield 90, 3) := by decide +kernel
theorem k80_20 : decode (q_mB 80) 20 = .ok (.aload_n 0, 1) := by decide +kernel
theorem k80_21 : decode (q_mB 80) 21 = .ok (.invokevirtual 212, 3) := by decide +kernel
theorem k80_24 : decode (q_mB 80) 24 = .ok (.aload_n 0, 1) := by decide +kernel
theorem k80_25 : decode (q_mB 80) 25 = .ok (.getfield 26, 3) := by decide +kernel
theorem k80_28 : decode (q_mB 80) 28 = .ok (.getfield 148, 3) := by decide +kernel
theorem k80_31 : decode (q_mB 80) 31 = .ok (.iconst 0, 1) := by decide +kernel
theorem k80_32 : decode (q_mB 80) 32 = .ok (.iload_n 1, 1) := by decide +kernel
theorem k80_33 : decode (q_mB 80) 33 = .ok (.iconst 1, 1) := by decide +kernel
theorem k80_34 : decode (q_mB 80) 34 = .ok (.iadd, 1) := by decide +kernel
theorem k80_35 : decode (q_mB 80) 35 = .ok (.invokevirtual 217, 3) := by decide +kernel
theorem k80_38 : decode (q_mB 80) 38 = .ok (.pop, 1) := by decide +kernel
theorem k80_39 : decode (q_mB 80) 39 = .ok (.aload_n 0, 1) := by decide +kernel
theorem k80_40 : decode (q_mB 80) 40 = .ok (.iload_n 1, 1) := by decide +kernel
theorem k80_41 : decode (q_mB 80) 41 = .ok (.putfield 58, 3) := by decide +kernel
theorem k80_44 : decode (q_mB 80) 44 = .ok (.aload_n 0, 1) := by decide +kernel
theorem k80_45 : decode (q_mB 80) 45 = .ok (.getfield 26, 3) := by decide +kernel
theorem k80_48 : decode (q_mB 80) 48 = .ok (.getfield 63, 3) := by decide +kernel
theorem k80_51 : decode (q_mB 80) 51 = .ok (.aload_n 0, 1) := by decide +kernel
theorem k80_52 : decode (q_mB 80) 52 = .ok (.getfield 90, 3) := by decide +kernel
theorem k80_55 : decode (q_mB 80) 55 = .ok (.getfield 288, 3) := by decide +kernel
theorem k80_58 : decode (q_mB 80) 58 = .ok (.iload_n 3, 1) := by decide +kernel
theorem k80_59 : decode (q_mB 80) 59 = .ok (.iaload, 1) := by decide +kernel
theorem k80_60 : decode (q_mB 80) 60 = .ok (.iload_n 3, 1) := by decide +kernel
theorem k80_61 : decode (q_mB 80) 61 = .ok (.iload 4, 2) := by decide +kernel
theorem k80_63 : decode (q_mB 80) 63 = .ok (.invokevirtual 291, 3) := by decide +kernel
theorem k80_66 : decode (q_mB 80) 66 = .ok (.ireturn, 1) := by decide +kernel
theorem k81_0 : decode (q_mB 81) 0 = .ok (.aload_n 0, 1) := by decide +kernel
theorem k81_1 : decode (q_mB 81) 1 = .ok (.getfield 26, 3) := by decide +kernel
theorem k81_4 : decode (q_mB 81) 4 = .ok (.getfield 63, 3) := by decide +kernel
theorem k81_7 : decode (q_mB 81) 7 = .ok (.getfield 141, 3) := by decide +kernel
theorem k81_10 : decode (q_mB 81) 10 = .ok (.istore_n 1, 1) := by decide +kernel
theorem k81_11 : decode (q_mB 81) 11 = .ok (.iconst 0, 1) := by decide +kernel
theorem k81_12 : decode (q_mB 81) 12 = .ok (.istore_n 2, 1) := by decide +kernel
theorem k81_13 : decode (q_mB 81) 13 = .ok (.iload_n 2, 1) := by decide +kernel
theorem k81_14 : decode (q_mB 81) 14 = .ok (.iload_n 1, 1) := by decide +kernel
theorem k81_15 : decode (q_mB 81) 15 = .ok (.if_icmp .ge 90, 3) := by decide +kernel
theorem k81_18 : decode (q_mB 81) 18 = .ok (.aload_n 0, 1) := by decide +kernel
theorem k81_19 : decode (q_mB 81) 19 = .ok (.getfield 26, 3) := by decide +kernel
theorem k81_22 : decode (q_mB 81) 22 = .ok (.iload_n 2, 1) := by decide +kernel
theorem k81_23 : decode (q_mB 81) 23 = .ok (.invokevirtual 294, 3) := by decide +kernel
theorem k81_26 : decode (q_mB 81) 26 = .ok (.istore_n 3, 1) := by decide +kernel
theorem k81_27 : decode (q_mB 81) 27 = .ok (.aload_n 0, 1) := by decide +kernel
theorem k81_28 : decode (q_mB 81) 28 = .ok (.getfield 26, 3) := by decide +kernel
theorem k81_31 : decode (q_mB 81) 31 = .ok (.getfield 63, 3) := by decide +kernel
theorem k81_34 : decode (q_mB 81) 34 = .ok (.iload_n 3, 1) := by decide +kernel
theorem k81_35 : decode (q_mB 81) 35 = .ok (.invokevirtual 121, 3) := by decide +kernel
theorem k81_38 : decode (q_mB 81) 38 = .ok (.ifCond .eq 19, 3) := by decide +kernel
theorem k81_41 : decode (q_mB 81) 41 = .ok (.aload_n 0, 1) := by decide +kernel
theorem k81_42 : decode (q_mB 81) 42 = .ok (.getfield 26, 3) := by decide +kernel
theorem k81_45 : decode (q_mB 81) 45 = .ok (.getfield 63, 3) := by decide +kernel
theorem k81_48 : decode (q_mB 81) 48 = .ok (.getfield 125, 3) := by decide +kernel
theorem k81_51 : decode (q_mB 81) 51 = .ok (.iload_n 3, 1) := by decide +kernel
theorem k81_52 : decode (q_mB 81) 52 = .ok (.iaload, 1) := by decide +kernel
theorem k81_53 : decode (q_mB 81) 53 = .ok (.iconst 3, 1) := by decide +kernel
theorem k81_54 : decode (q_mB 81) 54 = .ok (.if_icmp .eq 5, 3) := by decide +kernel
theorem k81_57 : decode (q_mB 81) 57 = .ok (.iload_n 2, 1) := by decide +kernel
theorem k81_58 : decode (q_mB 81) 58 = .ok (.ireturn, 1) := by decide +kernel
theorem k81_59 : decode (q_mB 81) 59 = .ok (.aload_n 0, 1) := by decide +kernel
theorem k81_60 : decode (q_mB 81) 60 = .ok (.invokevirtual 212, 3) := by decide +kernel
theorem k81_63 : decode (q_mB 81) 63 = .ok (.iload_n 2, 1) := by decide +kernel
theorem k81_64 : decode (q_mB 81) 64 = .ok (.iload_n 1, 1) := by decide +kernel
theorem k81_65 : decode (q_mB 81) 65 = .ok (.aload_n 0, 1) := by decide +kernel
theorem k81_66 : decode (q_mB 81) 66 = .ok (.getfield 26, 3) := by decide +kernel
theorem k81_69 : decode (q_mB 81) 69 = .ok (.getfield 148, 3) := by decide +kernel
theorem k81_72 : decode (q_mB 81) 72 = .ok (.invokevirtual 297, 3) := by decide +kernel
theorem k81_75 : decode (q_mB 81) 75 = .ok (.istore 4, 2) := by decide +kernel
theorem k81_77 : decode (q_mB 81) 77 = .ok (.iload 4, 2) := by decide +kernel
theorem k81_79 : decode (q_mB 81) 79 = .ok (.aload_n 0, 1) := by decide +kernel
theorem k81_80 : decode (q_mB 81) 80 = .ok (.getfield 26, 3) := by decide +kernel
theorem k81_83 : decode (q_mB 81) 83 = .ok (.getfield 63, 3) := by decide +kernel
theorem k81_86 : decode (q_mB 81) 86 = .ok (.getfield 131, 3) := by decide +kernel
theorem k81_89 : decode (q_mB 81) 89 = .ok (.iload_n 3, 1) := by decide +kernel
theorem k81_90 : decode (q_mB 81) 90 = .ok (.iaload, 1) := by decide +kernel
theorem k81_91 : decode (q_mB 81) 91 = .ok (.ishr, 1) := by decide +kernel
theorem k81_92 : decode (q_mB 81) 92 = .ok (.iconst 1, 1) := by decide +kernel
theorem k81_93 : decode (q_mB 81) 93 = .ok (.iand, 1) := by decide +kernel
theorem k81_94 : decode (q_mB 81) 94 = .ok (.ifCond .ne 5, 3) := by decide +kernel
theorem k81_97 : decode (q_mB 81) 97 = .ok (.iload_n 2, 1) := by decide +kernel
theorem k81_98 : decode (q_mB 81) 98 = .ok (.ireturn, 1) := by decide +kernel
theorem k81_99 : decode (q_mB 81) 99 = .ok (.iinc 2 1, 3) := by decide +kernel
theorem k81_102 : decode (q_mB 81) 102 = .ok (.goto (-89), 3) := by decide +kernel
theorem k81_105 : decode (q_mB 81) 105 = .ok (.iconst (-1), 1) := by decide +kernel
theorem k81_106 : decode (q_mB 81) 106 = .ok (.ireturn, 1) := by decide +kernel
theorem k82_0 : decode (q_mB 82) 0 = .ok (.iload_n 1, 1) := by decide +kernel
theorem k82_1 : decode (q_mB 82) 1 = .ok (.ldc_w 300, 3) := by decide +kernel
theorem k82_4 : decode (q_mB 82) 4 = .ok (.imul, 1) := by decide +kernel
theorem k82_5 : decode (q_mB 82) 5 = .ok (.ldc_w 301, 3) := by decide +kernel
theorem k82_8 : decode (q_mB 82) 8 = .ok (.iadd, 1) := by decide +kernel
theorem k82_9 : decode (q_mB 82) 9 = .ok (.istore_n 2, 1) := by decide +kernel
theorem k82_10 : decode (q_mB 82) 10 = .ok (.iload_n 0, 1) := by decide +kernel
theorem k82_11 : decode (q_mB 82) 11 = .ok (.iconst 1, 1) := by decide +kernel
theorem k82_12 : decode (q_mB 82) 12 = .ok (.if_icmp .ge 7, 3) := by decide +kernel
theorem k82_15 : decode (q_mB 82) 15 = .ok (.iconst 0, 1) := by decide +kernel
theorem k82_16 : decode (q_mB 82) 16 = .ok (.goto 13, 3) := by decide +kernel
theorem k82_19 : decode (q_mB 82) 19 = .ok (.iload_n 2, 1) := by decide +kernel
theorem k82_20 : decode (q_mB 82) 20 = .ok (.ldc 216, 2) := by decide +kernel
theorem k82_22 : decode (q_mB 82) 22 = .ok (.iand, 1) := by decide +kernel
theorem k82_23 : decode (q_mB 82) 23 = .ok (.sipush 256, 3) := by decide +kernel
theorem k82_26 : decode (q_mB 82) 26 = .ok (.idiv, 1) := by decide +kernel
theorem k82_27 : decode (q_mB 82) 27 = .ok (.iload_n 0, 1) := by decide +kernel
theorem k82_28 : decode (q_mB 82) 28 = .ok (.irem, 1) := by decide +kernel
theorem k82_29 : decode (q_mB 82) 29 = .ok (.ireturn, 1) := by decide +kernel
theorem k83_0 : decode (q_mB 83) 0 = .ok (.iload_n 0, 1) := by decide +kernel
theorem k83_1 : decode (q_mB 83) 1 = .ok (.istore_n 2, 1) := by decide +kernel
theorem k83_2 : decode (q_mB 83) 2 = .ok (.iload_n 1, 1) := by decide +kernel
theorem k83_3 : decode (q_mB 83) 3 = .ok (.istore_n 3, 1) := by decide +kernel
theorem k83_4 : decode (q_mB 83) 4 = .ok (.iconst 0, 1) := by decide +kernel
theorem k83_5 : decode (q_mB 83) 5 = .ok (.istore 4, 2) := by decide +kernel
theorem k83_7 : decode (q_mB 83) 7 = .ok (.iload 4, 2) := by decide +kernel
theorem k83_9 : decode (q_mB 83) 9 = .ok (.bipush 64, 2) := by decide +kernel
theorem k83_11 : decode (q_mB 83) 11 = .ok (.if_icmp .ge 23, 3) := by decide +kernel
theorem k83_14 : decode (q_mB 83) 14 = .ok (.iload_n 3, 1) := by decide +kernel
theorem k83_15 : decode (q_mB 83) 15 = .ok (.ifCond .le 19, 3) := by decide +kernel
theorem k83_18 : decode (q_mB 83) 18 = .ok (.iload_n 2, 1) := by decide +kernel
theorem k83_19 : decode (q_mB 83) 19 = .ok (.iload_n 3, 1) := by decide +kernel
theorem k83_20 : decode (q_mB 83) 20 = .ok (.irem, 1) := by decide +kernel
theorem k83_21 : decode (q_mB 83) 21 = .ok (.istore 5, 2) := by decide +kernel
theorem k83_23 : decode (q_mB 83) 23 = .ok (.iload_n 3, 1) := by decide +kernel
theorem k83_24 : decode (q_mB 83) 24 = .ok (.istore_n 2, 1) := by decide +kernel
theorem k83_25 : decode (q_mB 83) 25 = .ok (.iload 5, 2) := by decide +kernel
theorem k83_27 : decode (q_mB 83) 27 = .ok (.istore_n 3, 1) := by decide +kernel
theorem k83_28 : decode (q_mB 83) 28 = .ok (.iinc 4 1, 3) := by decide +kernel
theorem k83_31 : decode (q_mB 83) 31 = .ok (.goto (-24), 3) := by decide +kernel
theorem k83_34 : decode (q_mB 83) 34 = .ok (.iload_n 2, 1) := by decide +kernel
theorem k83_35 : decode (q_mB 83) 35 = .ok (.iconst 1, 1) := by decide +kernel
theorem k83_36 : decode (q_mB 83) 36 = .ok (.invokestatic 302, 3) := by decide +kernel
theorem k83_39 : decode (q_mB 83) 39 = .ok (.ireturn, 1) := by decide +kernel
theorem k84_0 : decode (q_mB 84) 0 = .ok (.lconst 1, 1) := by decide +kernel
theorem k84_1 : decode (q_mB 84) 1 = .ok (.lstore_n 3, 1) := by decide +kernel
theorem k84_2 : decode (q_mB 84) 2 = .ok (.lconst 1, 1) := by decide +kernel
theorem k84_3 : decode (q_mB 84) 3 = .ok (.lstore 5, 2) := by decide +kernel
theorem k84_5 : decode (q_mB 84) 5 = .ok (.iconst 1, 1) := by decide +kernel
theorem k84_6 : decode (q_mB 84) 6 = .ok (.istore 7, 2) := by decide +kernel
theorem k84_8 : decode (q_mB 84) 8 = .ok (.iload 7, 2) := by decide +kernel
theorem k84_10 : decode (q_mB 84) 10 = .ok (.iload_n 0, 1) := by decide +kernel
theorem k84_11 : decode (q_mB 84) 11 = .ok (.if_icmp .gt 50, 3) := by decide +kernel
theorem k84_14 : decode (q_mB 84) 14 = .ok (.iconst 1, 1) := by decide +kernel
theorem k84_15 : decode (q_mB 84) 15 = .ok (.istore 8, 2) := by decide +kernel
theorem k84_17 : decode (q_mB 84) 17 = .ok (.iload 8, 2) := by decide +kernel
theorem k84_19 : decode (q_mB 84) 19 = .ok (.iload_n 1, 1) := by decide +kernel
theorem k84_20 : decode (q_mB 84) 20 = .ok (.if_icmp .gt 35, 3) := by decide +kernel
theorem k84_23 : decode (q_mB 84) 23 = .ok (.lload_n 3, 1) := by decide +kernel
theorem k84_24 : decode (q_mB 84) 24 = .ok (.iload 7, 2) := by decide +kernel
theorem k84_26 : decode (q_mB 84) 26 = .ok (.iload 8, 2) := by decide +kernel
theorem k84_28 : decode (q_mB 84) 28 = .ok (.iadd, 1) := by decide +kernel
theorem k84_29 : decode (q_mB 84) 29 = .ok (.iload_n 2, 1) := by decide +kernel
theorem k84_30 : decode (q_mB 84) 30 = .ok (.iadd, 1) := by decide +kernel
theorem k84_31 : decode (q_mB 84) 31 = .ok (.iconst 1, 1) := by decide +kernel
theorem k84_32 : decode (q_mB 84) 32 = .ok (.isub, 1) := by decide +kernel
theorem k84_33 : decode (q_mB 84) 33 = .ok (.i2l, 1) := by decide +kernel
theorem k84_34 : decode (q_mB 84) 34 = .ok (.lmul, 1) := by decide +kernel
theorem k84_35 : decode (q_mB 84) 35 = .ok (.lstore_n 3, 1) := by decide +kernel
theorem k84_36 : decode (q_mB 84) 36 = .ok (.lload 5, 2) := by decide +kernel
theorem k84_38 : decode (q_mB 84) 38 = .ok (.iload 7, 2) := by decide +kernel
theorem k84_40 : decode (q_mB 84) 40 = .ok (.iload 8, 2) := by decide +kernel
theorem k84_42 : decode (q_mB 84) 42 = .ok (.iadd, 1) := by decide +kernel
theorem k84_43 : decode (q_mB 84) 43 = .ok (.iconst 1, 1) := by decide +kernel
theorem k84_44 : decode (q_mB 84) 44 = .ok (.isub, 1) := by decide +kernel
theorem k84_45 : decode (q_mB 84) 45 = .ok (.i2l, 1) := by decide +kernel
theorem k84_46 : decode (q_mB 84) 46 = .ok (.lmul, 1) := by decide +kernel
theorem k84_47 : decode (q_mB 84) 47 = .ok (.lstore 5, 2) := by decide +kernel
theorem k84_49 : decode (q_mB 84) 49 = .ok (.iinc 8 1, 3) := by decide +kernel
theorem k84_52 : decode (q_mB 84) 52 = .ok (.goto (-35), 3) := by decide +kernel
theorem k84_55 : decode (q_mB 84) 55 = .ok (.iinc 7 1, 3) := by decide +kernel
theorem k84_58 : decode (q_mB 84) 58 = .ok (.goto (-50), 3) := by decide +kernel
theorem k84_61 : decode (q_mB 84) 61 = .ok (.lload 5, 2) := by decide +kernel
theorem k84_63 : decode (q_mB 84) 63 = .ok (.lconst 1, 1) := by decide +kernel
theorem k84_64 : decode (q_mB 84) 64 = .ok (.lcmp, 1) := by decide +kernel
theorem k84_65 : decode (q_mB 84) 65 = .ok (.ifCond .ge 7, 3) := by decide +kernel
theorem k84_68 : decode (q_mB 84) 68 = .ok (.iconst 0, 1) := by decide +kernel
theorem k84_69 : decode (q_mB 84) 69 = .ok (.goto 8, 3) := by decide +kernel
theorem k84_72 : decode (q_mB 84) 72 = .ok (.lload_n 3, 1) := by decide +kernel
theorem k84_73 : decode (q_mB 84) 73 = .ok (.lload 5, 2) := by decide +kernel
theorem k84_75 : decode (q_mB 84) 75 = .ok (.ldiv, 1) := by decide +kernel
theorem k84_76 : decode (q_mB 84) 76 = .ok (.l2i, 1) := by decide +kernel
theorem k84_77 : decode (q_mB 84) 77 = .ok (.ireturn, 1) := by decide +kernel
theorem k85_0 : decode (q_mB 85) 0 = .ok (.iload_n 0, 1) := by decide +kernel
theorem k85_1 : decode (q_mB 85) 1 = .ok (.iconst 1, 1) := by decide +kernel
theorem k85_2 : decode (q_mB 85) 2 = .ok (.if_icmp .lt 8, 3) := by decide +kernel
theorem k85_5 : decode (q_mB 85) 5 = .ok (.iload_n 0, 1) := by decide +kernel
theorem k85_6 : decode (q_mB 85) 6 = .ok (.iconst 3, 1) := by decide +kernel
theorem k85_7 : decode (q_mB 85) 7 = .ok (.if_icmp .le 7, 3) := by decide +kernel
theorem k85_10 : decode (q_mB 85) 10 = .ok (.iconst 0, 1) := by decide +kernel
theorem k85_11 : decode (q_mB 85) 11 = .ok (.goto 8, 3) := by decide +kernel
theorem k85_14 : decode (q_mB 85) 14 = .ok (.getstatic 307, 3) := by decide +kernel
theorem k85_17 : decode (q_mB 85) 17 = .ok (.iload_n 0, 1) := by decide +kernel
theorem k85_18 : decode (q_mB 85) 18 = .ok (.iaload, 1) := by decide +kernel
theorem k85_19 : decode (q_mB 85) 19 = .ok (.ireturn, 1) := by decide +kernel
theorem k86_0 : decode (q_mB 86) 0 = .ok (.iload_n 0, 1) := by decide +kernel
theorem k86_1 : decode (q_mB 86) 1 = .ok (.iconst 1, 1) := by decide +kernel
theorem k86_2 : decode (q_mB 86) 2 = .ok (.if_icmp .lt 8, 3) := by decide +kernel
theorem k86_5 : decode (q_mB 86) 5 = .ok (.iload_n 0, 1) := by decide +kernel
theorem k86_6 : decode (q_mB 86) 6 = .ok (.iconst 3, 1) := by decide +kernel
theorem k86_7 : decode (q_mB 86) 7 = .ok (.if_icmp .le 7, 3) := by decide +kernel
theorem k86_10 : decode (q_mB 86) 10 = .ok (.iconst 0, 1) := by decide +kernel
theorem k86_11 : decode (q_mB 86) 11 = .ok (.goto 10, 3) := by decide +kernel
theorem k86_14 : decode (q_mB 86) 14 = .ok (.getstatic 307, 3) := by decide +kernel
theorem k86_17 : decode (q_mB 86) 17 = .ok (.iload_n 0, 1) := by decide +kernel
theorem k86_18 : decode (q_mB 86) 18 = .ok (.iconst 1, 1) := by decide +kernel
theorem k86_19 : decode (q_mB 86) 19 = .ok (.iadd, 1) := by decide +kernel
theorem k86_20 : decode (q_mB 86) 20 = .ok (.iaload, 1) := by decide +kernel
theorem k86_21 : decode (q_mB 86) 21 = .ok (.ireturn, 1) := by decide +kernel
theorem k87_0 : decode (q_mB 87) 0 = .ok (.iload_n 1, 1) := by decide +kernel
theorem k87_1 : decode (q_mB 87) 1 = .ok (.invokestatic 165, 3) := by decide +kernel
theorem k87_4 : decode (q_mB 87) 4 = .ok (.istore_n 2, 1) := by decide +kernel
theorem k87_5 : decode (q_mB 87) 5 = .ok (.iload_n 2, 1) := by decide +kernel
theorem k87_6 : decode (q_mB 87) 6 = .ok (.iload_n 1, 1) := by decide +kernel
theorem k87_7 : decode (q_mB 87) 7 = .ok (.invokestatic 168, 3) := by decide +kernel
theorem k87_10 : decode (q_mB 87) 10 = .ok (.if_icmp .ge 20, 3) := by decide +kernel
theorem k87_13 : decode (q_mB 87) 13 = .ok (.getstatic 274, 3) := by decide +kernel
theorem k87_16 : decode (q_mB 87) 16 = .ok (.iload_n 2, 1) := by decide +kernel
theorem k87_17 : decode (q_mB 87) 17 = .ok (.iaload, 1) := by decide +kernel
theorem k87_18 : decode (q_mB 87) 18 = .ok (.iload_n 0, 1) := by decide +kernel
theorem k87_19 : decode (q_mB 87) 19 = .ok (.if_icmp .ne 5, 3) := by decide +kernel
theorem k87_22 : decode (q_mB 87) 22 = .ok (.iload_n 2, 1) := by decide +kernel
theorem k87_23 : decode (q_mB 87) 23 = .ok (.ireturn, 1) := by decide +kernel
theorem k87_24 : decode (q_mB 87) 24 = .ok (.iinc 2 1, 3) := by decide +kernel
theorem k87_27 : decode (q_mB 87) 27 = .ok (.goto (-22), 3) := by decide +kernel
theorem k87_30 : decode (q_mB 87) 30 = .ok (.iconst (-1), 1) := by decide +kernel
theorem k87_31 : decode (q_mB 87) 31 = .ok (.ireturn, 1) := by decide +kernel
